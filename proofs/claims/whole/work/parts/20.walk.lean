set_option maxRecDepth 100000 in
set_option maxHeartbeats 4000000 in
theorem w_S_knows_e {X : zX} {G : zG} {o : Nat} {v1 : Int} {μ : zM} {rv : Option zV} {ν : zM} (hX : zOk X G cX3_knows RX3 2 (some .boolean) 1) (hF : zFin X G rv ν) (ho : zsh o = (0, 3)) (h : zP (fun r : Int => (some (zI r), μ) = (rv, ν)) (fo_S_knows o v1)) : zW X G 2 0 [some (zR o), some (zI v1)] [] μ := by
  refine zr_iload_n hX dX3_knows_0 rfl rfl ?_
  refine zr_iflt (tgt := 17) hX dX3_knows_1 rfl h (fun h => ?_) (fun h => ?_)
  · refine zr_iconst hX dX3_knows_17 (zrl rfl) ?_
    exact zr_bretc hX dX3_knows_18 hF (Or.inl rfl) h
  · refine zr_iload_n hX dX3_knows_4 rfl rfl ?_
    refine zr_aload_n hX dX3_knows_5 rfl rfl ?_
    refine zr_getr hX dX3_knows_6 (k := 2) (q := (o + 1)) ho rfl ww_99 rfl ?_
    refine zr_alen hX dX3_knows_9 (N := zsz (o + 1)) (zk31 ho) rfl (zsz_r _) ?_
    refine zr_icmpge (tgt := 17) hX dX3_knows_10 rfl h (fun h => ?_) (fun h => ?_)
    · refine zr_iconst hX dX3_knows_17 (zrl rfl) ?_
      exact zr_bretc hX dX3_knows_18 hF (Or.inl rfl) h
    · refine zr_iconst hX dX3_knows_13 (zrl rfl) ?_
      refine zr_goto hX dX3_knows_14 (tgt := 18) rfl ?_
      exact zr_bretc hX dX3_knows_18 hF (Or.inr rfl) h
set_option maxRecDepth 100000 in
theorem m_S_knows {l : Launch} {G : zG} {o : Nat} {v1 : Int} {μ : zM} (ho : zsh o = (0, 3)) : zCT l G yX3_knows cX3_knows 2 (some .boolean) 1 [zR o, zI v1] μ (some (zI (f_S_knows o v1))) μ := by
  refine zMet (lv := [some (zR o), some (zI v1)]) (k := 0) pl_X3 rfl (Nat.le_of_ble_eq_true rfl) (fun X hl hX hF _ _ => ?_)
  exact w_S_knows_e hX hF ho (by rw [fo_S_knows_eq]; rfl)
set_option maxRecDepth 100000 in
set_option maxHeartbeats 4000000 in
theorem w_X_found_e {X : zX} {G : zG} {v1 : Int} {μ : zM} {rv : Option zV} {ν : zM} (hX : zOk X G cX5_found RX5 2 (some .int) 1) (hF : zFin X G rv ν) (h : zP (fun r : (Int × zM) => (some (zI r.1), r.2) = (rv, ν)) (f_X_found v1 μ)) : zW X G 2 0 [some (zR 0), some (zI v1)] [] μ := by
  refine zr_aload_n hX dX5_found_0 rfl rfl ?_
  refine zr_iload_n hX dX5_found_1 rfl rfl ?_
  refine zr_puti hX dX5_found_2 (k := 8) rfl rfl ww_207 rfl (by decide +kernel) ?_
  refine zr_iload_n hX dX5_found_5 rfl rfl ?_
  refine zr_iflt (tgt := 28) hX dX5_found_6 rfl h (fun h => ?_) (fun h => ?_)
  · refine zr_bipush hX dX5_found_28 rfl ?_
    exact zr_iret hX dX5_found_30 hF h
  · refine zr_iload_n hX dX5_found_9 rfl rfl ?_
    refine zr_aload_n hX dX5_found_10 rfl rfl ?_
    refine zr_getr hX dX5_found_11 (k := 7) (q := 26) rfl rfl ww_206 rfl ?_
    refine zr_alen hX dX5_found_14 (N := 6) rfl rfl (zrl rfl) ?_
    refine zr_icmpge (tgt := 28) hX dX5_found_15 rfl h (fun h => ?_) (fun h => ?_)
    · refine zr_bipush hX dX5_found_28 rfl ?_
      exact zr_iret hX dX5_found_30 hF h
    · refine zr_aload_n hX dX5_found_18 rfl rfl ?_
      refine zr_getr hX dX5_found_19 (k := 7) (q := 26) rfl rfl ww_206 rfl ?_
      refine zr_iload_n hX dX5_found_22 rfl rfl ?_
      refine zr_dup2 hX dX5_found_23 rfl rfl ?_
      refine zr_iald (N := 6) hX dX5_found_24 rfl rfl h (fun h => ?_)
      refine zr_iconst hX dX5_found_25 (zrl rfl) ?_
      refine zr_iadd hX dX5_found_26 ?_
      refine zr_iast (N := 6) hX dX5_found_27 rfl rfl h (fun h => ?_)
      refine zr_bipush hX dX5_found_28 rfl ?_
      exact zr_iret hX dX5_found_30 hF h
set_option maxRecDepth 100000 in
theorem m_X_found {l : Launch} {G : zG} {v1 : Int} {μ : zM} {q : Int × zM} (hq : f_X_found v1 μ = some q) : zCT l G yX5_found cX5_found 2 (some .int) 1 [zR 0, zI v1] μ (some (zI q.1)) q.2 := by
  refine zMet (lv := [some (zR 0), some (zI v1)]) (k := 0) pl_X5 rfl (Nat.le_of_ble_eq_true rfl) (fun X hl hX hF _ _ => ?_)
  exact w_X_found_e hX hF (zP_of hq rfl)
set_option maxRecDepth 100000 in
set_option maxHeartbeats 4000000 in
theorem w_S_sizeOf_e {X : zX} {G : zG} {o : Nat} {v1 : Int} {μ : zM} {rv : Option zV} {ν : zM} (hX : zOk X G cX3_sizeOf RX3 2 (some .int) 2) (hF : zFin X G rv ν) (ho : zsh o = (0, 3)) (h : zP (fun r : Int => (some (zI r), μ) = (rv, ν)) (f_S_sizeOf o v1 μ)) : zW X G 2 0 [some (zR o), some (zI v1)] [] μ := by
  refine zr_aload_n hX dX3_sizeOf_0 rfl rfl ?_
  refine zr_iload_n hX dX3_sizeOf_1 rfl rfl ?_
  refine zr_callV hX dX3_sizeOf_2 (m_S_knows ho) ho rfl rfl (z5 ww_252 ww_241 ww_242 ww_71 ww_243) hy_X3_knows rfl (Nat.le_of_ble_eq_true rfl) (Nat.le_of_ble_eq_true rfl) (Nat.le_of_ble_eq_true rfl) ?_
  refine zr_ifeq (tgt := 17) hX dX3_sizeOf_5 rfl h (fun h => ?_) (fun h => ?_)
  · refine zr_iconst hX dX3_sizeOf_17 (zrl rfl) ?_
    exact zr_iret hX dX3_sizeOf_18 hF h
  · refine zr_aload_n hX dX3_sizeOf_8 rfl rfl ?_
    refine zr_getr hX dX3_sizeOf_9 (k := 2) (q := (o + 1)) ho rfl ww_99 rfl ?_
    refine zr_iload_n hX dX3_sizeOf_12 rfl rfl ?_
    refine zr_iald (N := zsz (o + 1)) hX dX3_sizeOf_13 (zk31 ho) rfl h (fun h => ?_)
    refine zr_goto hX dX3_sizeOf_14 (tgt := 18) rfl ?_
    exact zr_iret hX dX3_sizeOf_18 hF h
set_option maxRecDepth 100000 in
theorem m_S_sizeOf {l : Launch} {G : zG} {o : Nat} {v1 : Int} {μ : zM} (ho : zsh o = (0, 3)) {q : Int} (hq : f_S_sizeOf o v1 μ = some q) : zCT l G yX3_sizeOf cX3_sizeOf 2 (some .int) 2 [zR o, zI v1] μ (some (zI q)) μ := by
  refine zMet (lv := [some (zR o), some (zI v1)]) (k := 0) pl_X3 rfl (Nat.le_of_ble_eq_true rfl) (fun X hl hX hF _ _ => ?_)
  exact w_S_sizeOf_e hX hF ho (zP_of hq rfl)
set_option maxRecDepth 100000 in
set_option maxHeartbeats 4000000 in
theorem w_S_has_e {X : zX} {G : zG} {o : Nat} {v1 : Int} {v2 : Int} {μ : zM} {rv : Option zV} {ν : zM} (hX : zOk X G cX3_has RX3 3 (some .boolean) 3) (hF : zFin X G rv ν) (ho : zsh o = (0, 3)) (h : zP (fun r : Int => (some (zI r), μ) = (rv, ν)) (f_S_has o v1 v2 μ)) : zW X G 3 0 [some (zR o), some (zI v1), some (zI v2)] [] μ := by
  refine zr_iload_n hX dX3_has_0 rfl rfl ?_
  refine zr_iflt (tgt := 17) hX dX3_has_1 rfl h (fun h => ?_) (fun h => ?_)
  · refine zr_iconst hX dX3_has_17 (zrl rfl) ?_
    exact zr_bretc hX dX3_has_18 hF (Or.inl rfl) h
  · refine zr_iload_n hX dX3_has_4 rfl rfl ?_
    refine zr_aload_n hX dX3_has_5 rfl rfl ?_
    refine zr_iload_n hX dX3_has_6 rfl rfl ?_
    refine zP_bind h (fun q1 hq1 h => ?_)
    refine zr_callV hX dX3_has_7 (m_S_sizeOf ho hq1) ho rfl rfl (z5 ww_261 ww_262 ww_263 ww_71 ww_264) hy_X3_sizeOf rfl (Nat.le_of_ble_eq_true rfl) (Nat.le_of_ble_eq_true rfl) (Nat.le_of_ble_eq_true rfl) ?_
    refine zr_icmpge (tgt := 17) hX dX3_has_10 rfl h (fun h => ?_) (fun h => ?_)
    · refine zr_iconst hX dX3_has_17 (zrl rfl) ?_
      exact zr_bretc hX dX3_has_18 hF (Or.inl rfl) h
    · refine zr_iconst hX dX3_has_13 (zrl rfl) ?_
      refine zr_goto hX dX3_has_14 (tgt := 18) rfl ?_
      exact zr_bretc hX dX3_has_18 hF (Or.inr rfl) h
set_option maxRecDepth 100000 in
theorem m_S_has {l : Launch} {G : zG} {o : Nat} {v1 : Int} {v2 : Int} {μ : zM} (ho : zsh o = (0, 3)) {q : Int} (hq : f_S_has o v1 v2 μ = some q) : zCT l G yX3_has cX3_has 3 (some .boolean) 3 [zR o, zI v1, zI v2] μ (some (zI q)) μ := by
  refine zMet (lv := [some (zR o), some (zI v1), some (zI v2)]) (k := 0) pl_X3 rfl (Nat.le_of_ble_eq_true rfl) (fun X hl hX hF _ _ => ?_)
  exact w_S_has_e hX hF ho (zP_of hq rfl)
set_option maxRecDepth 100000 in
set_option maxHeartbeats 4000000 in
theorem w_S_set_e {X : zX} {G : zG} {o : Nat} {v1 : Int} {v2 : Int} {v3 : Int} {μ : zM} {rv : Option zV} {ν : zM} (hX : zOk X G cX3_set RX3 4 none 4) (hF : zFin X G rv ν) (ho : zsh o = (0, 3)) (h : zP (fun r : zM => ((none : Option zV), r) = (rv, ν)) (f_S_set o v1 v2 v3 μ)) : zW X G 4 0 [some (zR o), some (zI v1), some (zI v2), some (zI v3)] [] μ := by
  refine zr_aload_n hX dX3_set_0 rfl rfl ?_
  refine zr_iload_n hX dX3_set_1 rfl rfl ?_
  refine zr_iload_n hX dX3_set_2 rfl rfl ?_
  refine zP_bind h (fun q1 hq1 h => ?_)
  refine zr_callV hX dX3_set_3 (m_S_has ho hq1) ho rfl rfl (z5 ww_257 ww_258 ww_259 ww_71 ww_260) hy_X3_has rfl (Nat.le_of_ble_eq_true rfl) (Nat.le_of_ble_eq_true rfl) (Nat.le_of_ble_eq_true rfl) ?_
  refine zr_ifeq (tgt := 23) hX dX3_set_6 rfl h (fun h => ?_) (fun h => ?_)
  · exact zr_vret hX dX3_set_23 hF h
  · refine zr_aload_n hX dX3_set_9 rfl rfl ?_
    refine zr_getr hX dX3_set_10 (k := 3) (q := (o + 2)) ho rfl ww_100 rfl ?_
    refine zr_iload_n hX dX3_set_13 rfl rfl ?_
    refine zr_aload_n hX dX3_set_14 rfl rfl ?_
    refine zr_geti hX dX3_set_15 (k := 0) ho rfl ww_97 ?_
    refine zr_imul hX dX3_set_18 ?_
    refine zr_iload_n hX dX3_set_19 rfl rfl ?_
    refine zr_iadd hX dX3_set_20 ?_
    refine zr_iload_n hX dX3_set_21 rfl rfl ?_
    refine zr_iast (N := 240) hX dX3_set_22 (zkid_of zk_3_2 ho) rfl h (fun h => ?_)
    exact zr_vret hX dX3_set_23 hF h
set_option maxRecDepth 100000 in
theorem m_S_set {l : Launch} {G : zG} {o : Nat} {v1 : Int} {v2 : Int} {v3 : Int} {μ : zM} (ho : zsh o = (0, 3)) {q : zM} (hq : f_S_set o v1 v2 v3 μ = some q) : zCT l G yX3_set cX3_set 4 none 4 [zR o, zI v1, zI v2, zI v3] μ (none) q := by
  refine zMet (lv := [some (zR o), some (zI v1), some (zI v2), some (zI v3)]) (k := 0) pl_X3 rfl (Nat.le_of_ble_eq_true rfl) (fun X hl hX hF _ _ => ?_)
  exact w_S_set_e hX hF ho (zP_of hq rfl)
def k_S_make (X : zX) (G : zG) (o : Nat) (v1 : Int) (v2 : Int) : (Int × zM) → Prop := fun s => zW X G 4 30 [some (zR o), some (zI v1), some (zI v2), some (zI s.1)] [] s.2
theorem k_S_make_30 {X : zX} {G : zG} {o : Nat} {v1 : Int} {v2 : Int} {F : zM → Prop} {v3 : Int} {κ : zM} (h : zP (Sum.elim (k_S_make X G o v1 v2) F) (some (.inl ((v3, κ))))) : zW X G 4 30 [some (zR o), some (zI v1), some (zI v2), some (zI v3)] [] κ := h
set_option maxRecDepth 100000 in
set_option maxHeartbeats 4000000 in
theorem w_S_make_30 {X : zX} {G : zG} {o : Nat} {v1 : Int} {v2 : Int} {μ : zM} {rv : Option zV} {ν : zM} (hX : zOk X G cX3_make RX3 4 none 5) (hF : zFin X G rv ν) (ho : zsh o = (0, 3)) {v3 : Int} (h : zP (Sum.elim (k_S_make X G o v1 v2) (fun r : zM => ((none : Option zV), r) = (rv, ν))) (b_S_make_30 o v1 v2 v3 μ)) : zW X G 4 30 [some (zR o), some (zI v1), some (zI v2), some (zI v3)] [] μ := by
  refine zr_iload_n hX dX3_make_30 rfl rfl ?_
  refine zr_iload_n hX dX3_make_31 rfl rfl ?_
  refine zr_icmpge (tgt := 51) hX dX3_make_32 rfl h (fun h => ?_) (fun h => ?_)
  · exact zr_vret hX dX3_make_51 hF h
  · refine zr_aload_n hX dX3_make_35 rfl rfl ?_
    refine zr_iload_n hX dX3_make_36 rfl rfl ?_
    refine zr_iload_n hX dX3_make_37 rfl rfl ?_
    refine zr_aload_n hX dX3_make_38 rfl rfl ?_
    refine zr_geti hX dX3_make_39 (k := 1) ho rfl ww_98 ?_
    refine zP_bind h (fun q1 hq1 h => ?_)
    refine zr_callV hX dX3_make_42 (m_S_set ho hq1) ho rfl rfl (z5 ww_253 ww_254 ww_255 ww_71 ww_256) hy_X3_set rfl (Nat.le_of_ble_eq_true rfl) (Nat.le_of_ble_eq_true rfl) (Nat.le_of_ble_eq_true rfl) ?_
    refine zr_iinc hX dX3_make_45 rfl (Nat.le_of_ble_eq_true rfl) ?_
    refine zr_goto hX dX3_make_48 (tgt := 30) rfl ?_
    exact zW_lf (k_S_make_30 h) (And.intro rfl (And.intro rfl (And.intro rfl (And.intro rfl trivial))))
set_option maxRecDepth 100000 in
set_option maxHeartbeats 4000000 in
theorem w_S_make_e {X : zX} {G : zG} {o : Nat} {v1 : Int} {v2 : Int} {μ : zM} {rv : Option zV} {ν : zM} (hX : zOk X G cX3_make RX3 4 none 5) (hF : zFin X G rv ν) (ho : zsh o = (0, 3)) (h : zP (Sum.elim (k_S_make X G o v1 v2) (fun r : zM => ((none : Option zV), r) = (rv, ν))) (e_S_make o v1 v2 μ)) : zW X G 4 0 [some (zR o), some (zI v1), some (zI v2), none] [] μ := by
  refine zr_aload_n hX dX3_make_0 rfl rfl ?_
  refine zr_iload_n hX dX3_make_1 rfl rfl ?_
  refine zr_callV hX dX3_make_2 (m_S_knows ho) ho rfl rfl (z5 ww_252 ww_241 ww_242 ww_71 ww_243) hy_X3_knows rfl (Nat.le_of_ble_eq_true rfl) (Nat.le_of_ble_eq_true rfl) (Nat.le_of_ble_eq_true rfl) ?_
  refine zr_ifeq (tgt := 20) hX dX3_make_5 rfl h (fun h => ?_) (fun h => ?_)
  · exact zr_vret hX dX3_make_20 hF h
  · refine zr_iload_n hX dX3_make_8 rfl rfl ?_
    refine zr_iflt (tgt := 20) hX dX3_make_9 rfl h (fun h => ?_) (fun h => ?_)
    · exact zr_vret hX dX3_make_20 hF h
    · refine zr_iload_n hX dX3_make_12 rfl rfl ?_
      refine zr_aload_n hX dX3_make_13 rfl rfl ?_
      refine zr_geti hX dX3_make_14 (k := 0) ho rfl ww_97 ?_
      refine zr_icmple (tgt := 21) hX dX3_make_17 rfl h (fun h => ?_) (fun h => ?_)
      · refine zr_aload_n hX dX3_make_21 rfl rfl ?_
        refine zr_getr hX dX3_make_22 (k := 2) (q := (o + 1)) ho rfl ww_99 rfl ?_
        refine zr_iload_n hX dX3_make_25 rfl rfl ?_
        refine zr_iload_n hX dX3_make_26 rfl rfl ?_
        refine zr_iast (N := zsz (o + 1)) hX dX3_make_27 (zk31 ho) rfl h (fun h => ?_)
        refine zr_iconst hX dX3_make_28 (zrl rfl) ?_
        refine zr_istore_n hX dX3_make_29 rfl (Nat.le_of_ble_eq_true rfl) ?_
        exact zW_lf (k_S_make_30 h) (And.intro rfl (And.intro rfl (And.intro rfl (And.intro rfl trivial))))
      · exact zr_vret hX dX3_make_20 hF h
set_option maxRecDepth 100000 in
theorem m_S_make {l : Launch} {G : zG} {o : Nat} {v1 : Int} {v2 : Int} {μ : zM} (ho : zsh o = (0, 3)) {q : zM} (hq : f_S_make o v1 v2 μ = some q) : zCT l G yX3_make cX3_make 4 none 5 [zR o, zI v1, zI v2] μ (none) q := by
  refine zMet (lv := [some (zR o), some (zI v1), some (zI v2), none]) (k := 1) pl_X3 rfl (Nat.le_of_ble_eq_true rfl) (fun X hl hX hF _ _ => ?_)
  refine w_S_make_e hX hF ho (zgo_K (r := q) (step := t_S_make o v1 v2) (fun s h => ?_) rfl hq)
  exact w_S_make_30 hX hF ho h
set_option maxRecDepth 100000 in
set_option maxHeartbeats 4000000 in
theorem w_X_row_e {X : zX} {G : zG} {v1 : Int} {v2 : Int} {μ : zM} {rv : Option zV} {ν : zM} (hX : zOk X G cX5_row RX5 3 (some .int) 6) (hF : zFin X G rv ν) (h : zP (fun r : (Int × zM) => (some (zI r.1), r.2) = (rv, ν)) (f_X_row v1 v2 μ)) : zW X G 3 0 [some (zR 0), some (zI v1), some (zI v2)] [] μ := by
  refine zr_aload_n hX dX5_row_0 rfl rfl ?_
  refine zr_getr hX dX5_row_1 (k := 0) (q := 1) rfl rfl ww_199 rfl ?_
  refine zr_iload_n hX dX5_row_4 rfl rfl ?_
  refine zr_callV hX dX5_row_5 (m_S_knows rfl) rfl rfl rfl (z5 ww_240 ww_241 ww_242 ww_71 ww_243) hy_X3_knows rfl (Nat.le_of_ble_eq_true rfl) (Nat.le_of_ble_eq_true rfl) (Nat.le_of_ble_eq_true rfl) ?_
  refine zr_ifeq (tgt := 17) hX dX5_row_8 rfl h (fun h => ?_) (fun h => ?_)
  · refine zr_iconst hX dX5_row_17 (zrl rfl) ?_
    exact zr_iret hX dX5_row_18 hF h
  · refine zr_iload_n hX dX5_row_11 rfl rfl ?_
    refine zr_bipush hX dX5_row_12 rfl ?_
    refine zr_icmple (tgt := 19) hX dX5_row_14 rfl h (fun h => ?_) (fun h => ?_)
    · refine zr_iload_n hX dX5_row_19 rfl rfl ?_
      refine zr_ifge (tgt := 29) hX dX5_row_20 rfl h (fun h => ?_) (fun h => ?_)
      · refine zr_aload_n hX dX5_row_29 rfl rfl ?_
        refine zr_getr hX dX5_row_30 (k := 0) (q := 1) rfl rfl ww_199 rfl ?_
        refine zr_iload_n hX dX5_row_33 rfl rfl ?_
        refine zr_iload_n hX dX5_row_34 rfl rfl ?_
        refine zP_bind h (fun q1 hq1 h => ?_)
        refine zr_callV hX dX5_row_35 (m_S_make rfl hq1) rfl rfl rfl (z5 ww_248 ww_249 ww_250 ww_71 ww_251) hy_X3_make rfl (Nat.le_of_ble_eq_true rfl) (Nat.le_of_ble_eq_true rfl) (Nat.le_of_ble_eq_true rfl) ?_
        refine zr_iload_n hX dX5_row_38 rfl rfl ?_
        exact zr_iret hX dX5_row_39 hF h
      · refine zr_aload_n hX dX5_row_23 rfl rfl ?_
        refine zr_iconst hX dX5_row_24 (zrl rfl) ?_
        refine zP_bind h (fun q2 hq2 h => ?_)
        refine zr_callV hX dX5_row_25 (m_X_found hq2) rfl rfl rfl (z5 ww_244 ww_246 ww_0 ww_70 ww_247) hy_X5_found rfl (Nat.le_of_ble_eq_true rfl) (Nat.le_of_ble_eq_true rfl) (Nat.le_of_ble_eq_true rfl) ?_
        exact zr_iret hX dX5_row_28 hF h
    · refine zr_iconst hX dX5_row_17 (zrl rfl) ?_
      exact zr_iret hX dX5_row_18 hF h
set_option maxRecDepth 100000 in
theorem m_X_row {l : Launch} {G : zG} {v1 : Int} {v2 : Int} {μ : zM} {q : Int × zM} (hq : f_X_row v1 v2 μ = some q) : zCT l G yX5_row cX5_row 3 (some .int) 6 [zR 0, zI v1, zI v2] μ (some (zI q.1)) q.2 := by
  refine zMet (lv := [some (zR 0), some (zI v1), some (zI v2)]) (k := 0) pl_X5 rfl (Nat.le_of_ble_eq_true rfl) (fun X hl hX hF _ _ => ?_)
  exact w_X_row_e hX hF (zP_of hq rfl)
set_option maxRecDepth 100000 in
set_option maxHeartbeats 4000000 in
theorem w_S_isThere_e {X : zX} {G : zG} {o : Nat} {v1 : Int} {μ : zM} {rv : Option zV} {ν : zM} (hX : zOk X G cX3_isThere RX3 2 (some .boolean) 3) (hF : zFin X G rv ν) (ho : zsh o = (0, 3)) (h : zP (fun r : Int => (some (zI r), μ) = (rv, ν)) (f_S_isThere o v1 μ)) : zW X G 2 0 [some (zR o), some (zI v1)] [] μ := by
  refine zr_aload_n hX dX3_isThere_0 rfl rfl ?_
  refine zr_iload_n hX dX3_isThere_1 rfl rfl ?_
  refine zP_bind h (fun q1 hq1 h => ?_)
  refine zr_callV hX dX3_isThere_2 (m_S_sizeOf ho hq1) ho rfl rfl (z5 ww_261 ww_262 ww_263 ww_71 ww_264) hy_X3_sizeOf rfl (Nat.le_of_ble_eq_true rfl) (Nat.le_of_ble_eq_true rfl) (Nat.le_of_ble_eq_true rfl) ?_
  refine zr_iflt (tgt := 12) hX dX3_isThere_5 rfl h (fun h => ?_) (fun h => ?_)
  · refine zr_iconst hX dX3_isThere_12 (zrl rfl) ?_
    exact zr_bretc hX dX3_isThere_13 hF (Or.inl rfl) h
  · refine zr_iconst hX dX3_isThere_8 (zrl rfl) ?_
    refine zr_goto hX dX3_isThere_9 (tgt := 13) rfl ?_
    exact zr_bretc hX dX3_isThere_13 hF (Or.inr rfl) h
set_option maxRecDepth 100000 in
theorem m_S_isThere {l : Launch} {G : zG} {o : Nat} {v1 : Int} {μ : zM} (ho : zsh o = (0, 3)) {q : Int} (hq : f_S_isThere o v1 μ = some q) : zCT l G yX3_isThere cX3_isThere 2 (some .boolean) 3 [zR o, zI v1] μ (some (zI q)) μ := by
  refine zMet (lv := [some (zR o), some (zI v1)]) (k := 0) pl_X3 rfl (Nat.le_of_ble_eq_true rfl) (fun X hl hX hF _ _ => ?_)
  exact w_S_isThere_e hX hF ho (zP_of hq rfl)
set_option maxRecDepth 100000 in
set_option maxHeartbeats 4000000 in
theorem w_S_get_e {X : zX} {G : zG} {o : Nat} {v1 : Int} {v2 : Int} {μ : zM} {rv : Option zV} {ν : zM} (hX : zOk X G cX3_get RX3 3 (some .int) 4) (hF : zFin X G rv ν) (ho : zsh o = (0, 3)) (h : zP (fun r : Int => (some (zI r), μ) = (rv, ν)) (f_S_get o v1 v2 μ)) : zW X G 3 0 [some (zR o), some (zI v1), some (zI v2)] [] μ := by
  refine zr_aload_n hX dX3_get_0 rfl rfl ?_
  refine zr_iload_n hX dX3_get_1 rfl rfl ?_
  refine zr_iload_n hX dX3_get_2 rfl rfl ?_
  refine zP_bind h (fun q1 hq1 h => ?_)
  refine zr_callV hX dX3_get_3 (m_S_has ho hq1) ho rfl rfl (z5 ww_257 ww_258 ww_259 ww_71 ww_260) hy_X3_has rfl (Nat.le_of_ble_eq_true rfl) (Nat.le_of_ble_eq_true rfl) (Nat.le_of_ble_eq_true rfl) ?_
  refine zr_ifeq (tgt := 25) hX dX3_get_6 rfl h (fun h => ?_) (fun h => ?_)
  · refine zr_aload_n hX dX3_get_25 rfl rfl ?_
    refine zr_geti hX dX3_get_26 (k := 1) ho rfl ww_98 ?_
    exact zr_iret hX dX3_get_29 hF h
  · refine zr_aload_n hX dX3_get_9 rfl rfl ?_
    refine zr_getr hX dX3_get_10 (k := 3) (q := (o + 2)) ho rfl ww_100 rfl ?_
    refine zr_iload_n hX dX3_get_13 rfl rfl ?_
    refine zr_aload_n hX dX3_get_14 rfl rfl ?_
    refine zr_geti hX dX3_get_15 (k := 0) ho rfl ww_97 ?_
    refine zr_imul hX dX3_get_18 ?_
    refine zr_iload_n hX dX3_get_19 rfl rfl ?_
    refine zr_iadd hX dX3_get_20 ?_
    refine zr_iald (N := 240) hX dX3_get_21 (zkid_of zk_3_2 ho) rfl h (fun h => ?_)
    refine zr_goto hX dX3_get_22 (tgt := 29) rfl ?_
    exact zr_iret hX dX3_get_29 hF h
set_option maxRecDepth 100000 in
theorem m_S_get {l : Launch} {G : zG} {o : Nat} {v1 : Int} {v2 : Int} {μ : zM} (ho : zsh o = (0, 3)) {q : Int} (hq : f_S_get o v1 v2 μ = some q) : zCT l G yX3_get cX3_get 3 (some .int) 4 [zR o, zI v1, zI v2] μ (some (zI q)) μ := by
  refine zMet (lv := [some (zR o), some (zI v1), some (zI v2)]) (k := 0) pl_X3 rfl (Nat.le_of_ble_eq_true rfl) (fun X hl hX hF _ _ => ?_)
  exact w_S_get_e hX hF ho (zP_of hq rfl)
set_option maxRecDepth 100000 in
set_option maxHeartbeats 4000000 in
theorem w_X_lay_e {X : zX} {G : zG} {v1 : Int} {v2 : Int} {v3 : Int} {μ : zM} {rv : Option zV} {ν : zM} (hX : zOk X G cX5_lay RX5 4 (some .int) 5) (hF : zFin X G rv ν) (h : zP (fun r : (Int × zM) => (some (zI r.1), r.2) = (rv, ν)) (f_X_lay v1 v2 v3 μ)) : zW X G 4 0 [some (zR 0), some (zI v1), some (zI v2), some (zI v3)] [] μ := by
  refine zr_aload_n hX dX5_lay_0 rfl rfl ?_
  refine zr_getr hX dX5_lay_1 (k := 0) (q := 1) rfl rfl ww_199 rfl ?_
  refine zr_iload_n hX dX5_lay_4 rfl rfl ?_
  refine zr_callV hX dX5_lay_5 (m_S_knows rfl) rfl rfl rfl (z5 ww_240 ww_241 ww_242 ww_71 ww_243) hy_X3_knows rfl (Nat.le_of_ble_eq_true rfl) (Nat.le_of_ble_eq_true rfl) (Nat.le_of_ble_eq_true rfl) ?_
  refine zr_ifne (tgt := 13) hX dX5_lay_8 rfl h (fun h => ?_) (fun h => ?_)
  · refine zr_aload_n hX dX5_lay_13 rfl rfl ?_
    refine zr_getr hX dX5_lay_14 (k := 0) (q := 1) rfl rfl ww_199 rfl ?_
    refine zr_iload_n hX dX5_lay_17 rfl rfl ?_
    refine zP_bind h (fun q1 hq1 h => ?_)
    refine zr_callV hX dX5_lay_18 (m_S_isThere rfl hq1) rfl rfl rfl (z5 ww_269 ww_270 ww_271 ww_71 ww_272) hy_X3_isThere rfl (Nat.le_of_ble_eq_true rfl) (Nat.le_of_ble_eq_true rfl) (Nat.le_of_ble_eq_true rfl) ?_
    refine zr_ifne (tgt := 30) hX dX5_lay_21 rfl h (fun h => ?_) (fun h => ?_)
    · refine zr_aload_n hX dX5_lay_30 rfl rfl ?_
      refine zr_getr hX dX5_lay_31 (k := 0) (q := 1) rfl rfl ww_199 rfl ?_
      refine zr_iload_n hX dX5_lay_34 rfl rfl ?_
      refine zr_iload_n hX dX5_lay_35 rfl rfl ?_
      refine zP_bind h (fun q2 hq2 h => ?_)
      refine zr_callV hX dX5_lay_36 (m_S_has rfl hq2) rfl rfl rfl (z5 ww_273 ww_258 ww_259 ww_71 ww_260) hy_X3_has rfl (Nat.le_of_ble_eq_true rfl) (Nat.le_of_ble_eq_true rfl) (Nat.le_of_ble_eq_true rfl) ?_
      refine zr_ifne (tgt := 48) hX dX5_lay_39 rfl h (fun h => ?_) (fun h => ?_)
      · refine zr_aload_n hX dX5_lay_48 rfl rfl ?_
        refine zr_aload_n hX dX5_lay_49 rfl rfl ?_
        refine zr_getr hX dX5_lay_50 (k := 0) (q := 1) rfl rfl ww_199 rfl ?_
        refine zr_iload_n hX dX5_lay_53 rfl rfl ?_
        refine zr_iload_n hX dX5_lay_54 rfl rfl ?_
        refine zP_bind h (fun q3 hq3 h => ?_)
        refine zr_callV hX dX5_lay_55 (m_S_get rfl hq3) rfl rfl rfl (z5 ww_274 ww_275 ww_276 ww_71 ww_277) hy_X3_get rfl (Nat.le_of_ble_eq_true rfl) (Nat.le_of_ble_eq_true rfl) (Nat.le_of_ble_eq_true rfl) ?_
        refine zr_puti hX dX5_lay_58 (k := 9) rfl rfl ww_208 rfl (by decide +kernel) ?_
        refine zr_aload_n hX dX5_lay_61 rfl rfl ?_
        refine zr_getr hX dX5_lay_62 (k := 0) (q := 1) rfl rfl ww_199 rfl ?_
        refine zr_iload_n hX dX5_lay_65 rfl rfl ?_
        refine zr_iload_n hX dX5_lay_66 rfl rfl ?_
        refine zr_iload_n hX dX5_lay_67 rfl rfl ?_
        refine zP_bind h (fun q4 hq4 h => ?_)
        refine zr_callV hX dX5_lay_68 (m_S_set rfl hq4) rfl rfl rfl (z5 ww_278 ww_254 ww_255 ww_71 ww_256) hy_X3_set rfl (Nat.le_of_ble_eq_true rfl) (Nat.le_of_ble_eq_true rfl) (Nat.le_of_ble_eq_true rfl) ?_
        refine zr_iconst hX dX5_lay_71 (zrl rfl) ?_
        exact zr_iret hX dX5_lay_72 hF h
      · refine zr_aload_n hX dX5_lay_42 rfl rfl ?_
        refine zr_iconst hX dX5_lay_43 (zrl rfl) ?_
        refine zP_bind h (fun q5 hq5 h => ?_)
        refine zr_callV hX dX5_lay_44 (m_X_found hq5) rfl rfl rfl (z5 ww_244 ww_246 ww_0 ww_70 ww_247) hy_X5_found rfl (Nat.le_of_ble_eq_true rfl) (Nat.le_of_ble_eq_true rfl) (Nat.le_of_ble_eq_true rfl) ?_
        exact zr_iret hX dX5_lay_47 hF h
    · refine zr_aload_n hX dX5_lay_24 rfl rfl ?_
      refine zr_iconst hX dX5_lay_25 (zrl rfl) ?_
      refine zP_bind h (fun q6 hq6 h => ?_)
      refine zr_callV hX dX5_lay_26 (m_X_found hq6) rfl rfl rfl (z5 ww_244 ww_246 ww_0 ww_70 ww_247) hy_X5_found rfl (Nat.le_of_ble_eq_true rfl) (Nat.le_of_ble_eq_true rfl) (Nat.le_of_ble_eq_true rfl) ?_
      exact zr_iret hX dX5_lay_29 hF h
  · refine zr_iconst hX dX5_lay_11 (zrl rfl) ?_
    exact zr_iret hX dX5_lay_12 hF h
set_option maxRecDepth 100000 in
theorem m_X_lay {l : Launch} {G : zG} {v1 : Int} {v2 : Int} {v3 : Int} {μ : zM} {q : Int × zM} (hq : f_X_lay v1 v2 v3 μ = some q) : zCT l G yX5_lay cX5_lay 4 (some .int) 5 [zR 0, zI v1, zI v2, zI v3] μ (some (zI q.1)) q.2 := by
  refine zMet (lv := [some (zR 0), some (zI v1), some (zI v2), some (zI v3)]) (k := 0) pl_X5 rfl (Nat.le_of_ble_eq_true rfl) (fun X hl hX hF _ _ => ?_)
  exact w_X_lay_e hX hF (zP_of hq rfl)
set_option maxRecDepth 100000 in
set_option maxHeartbeats 4000000 in
theorem w_X_at_e {X : zX} {G : zG} {v1 : Int} {v2 : Int} {μ : zM} {rv : Option zV} {ν : zM} (hX : zOk X G cX5_at RX5 3 (some .int) 5) (hF : zFin X G rv ν) (h : zP (fun r : (Int × zM) => (some (zI r.1), r.2) = (rv, ν)) (f_X_at v1 v2 μ)) : zW X G 3 0 [some (zR 0), some (zI v1), some (zI v2)] [] μ := by
  refine zr_aload_n hX dX5_at_0 rfl rfl ?_
  refine zr_getr hX dX5_at_1 (k := 0) (q := 1) rfl rfl ww_199 rfl ?_
  refine zr_iload_n hX dX5_at_4 rfl rfl ?_
  refine zr_callV hX dX5_at_5 (m_S_knows rfl) rfl rfl rfl (z5 ww_240 ww_241 ww_242 ww_71 ww_243) hy_X3_knows rfl (Nat.le_of_ble_eq_true rfl) (Nat.le_of_ble_eq_true rfl) (Nat.le_of_ble_eq_true rfl) ?_
  refine zr_ifne (tgt := 13) hX dX5_at_8 rfl h (fun h => ?_) (fun h => ?_)
  · refine zr_aload_n hX dX5_at_13 rfl rfl ?_
    refine zr_getr hX dX5_at_14 (k := 0) (q := 1) rfl rfl ww_199 rfl ?_
    refine zr_iload_n hX dX5_at_17 rfl rfl ?_
    refine zP_bind h (fun q1 hq1 h => ?_)
    refine zr_callV hX dX5_at_18 (m_S_isThere rfl hq1) rfl rfl rfl (z5 ww_269 ww_270 ww_271 ww_71 ww_272) hy_X3_isThere rfl (Nat.le_of_ble_eq_true rfl) (Nat.le_of_ble_eq_true rfl) (Nat.le_of_ble_eq_true rfl) ?_
    refine zr_ifne (tgt := 30) hX dX5_at_21 rfl h (fun h => ?_) (fun h => ?_)
    · refine zr_aload_n hX dX5_at_30 rfl rfl ?_
      refine zr_getr hX dX5_at_31 (k := 0) (q := 1) rfl rfl ww_199 rfl ?_
      refine zr_iload_n hX dX5_at_34 rfl rfl ?_
      refine zr_iload_n hX dX5_at_35 rfl rfl ?_
      refine zP_bind h (fun q2 hq2 h => ?_)
      refine zr_callV hX dX5_at_36 (m_S_has rfl hq2) rfl rfl rfl (z5 ww_273 ww_258 ww_259 ww_71 ww_260) hy_X3_has rfl (Nat.le_of_ble_eq_true rfl) (Nat.le_of_ble_eq_true rfl) (Nat.le_of_ble_eq_true rfl) ?_
      refine zr_ifne (tgt := 48) hX dX5_at_39 rfl h (fun h => ?_) (fun h => ?_)
      · refine zr_aload_n hX dX5_at_48 rfl rfl ?_
        refine zr_aload_n hX dX5_at_49 rfl rfl ?_
        refine zr_getr hX dX5_at_50 (k := 0) (q := 1) rfl rfl ww_199 rfl ?_
        refine zr_iload_n hX dX5_at_53 rfl rfl ?_
        refine zr_iload_n hX dX5_at_54 rfl rfl ?_
        refine zP_bind h (fun q3 hq3 h => ?_)
        refine zr_callV hX dX5_at_55 (m_S_get rfl hq3) rfl rfl rfl (z5 ww_274 ww_275 ww_276 ww_71 ww_277) hy_X3_get rfl (Nat.le_of_ble_eq_true rfl) (Nat.le_of_ble_eq_true rfl) (Nat.le_of_ble_eq_true rfl) ?_
        refine zr_puti hX dX5_at_58 (k := 9) rfl rfl ww_208 rfl (by decide +kernel) ?_
        refine zr_iconst hX dX5_at_61 (zrl rfl) ?_
        exact zr_iret hX dX5_at_62 hF h
      · refine zr_aload_n hX dX5_at_42 rfl rfl ?_
        refine zr_iconst hX dX5_at_43 (zrl rfl) ?_
        refine zP_bind h (fun q4 hq4 h => ?_)
        refine zr_callV hX dX5_at_44 (m_X_found hq4) rfl rfl rfl (z5 ww_244 ww_246 ww_0 ww_70 ww_247) hy_X5_found rfl (Nat.le_of_ble_eq_true rfl) (Nat.le_of_ble_eq_true rfl) (Nat.le_of_ble_eq_true rfl) ?_
        exact zr_iret hX dX5_at_47 hF h
    · refine zr_aload_n hX dX5_at_24 rfl rfl ?_
      refine zr_iconst hX dX5_at_25 (zrl rfl) ?_
      refine zP_bind h (fun q5 hq5 h => ?_)
      refine zr_callV hX dX5_at_26 (m_X_found hq5) rfl rfl rfl (z5 ww_244 ww_246 ww_0 ww_70 ww_247) hy_X5_found rfl (Nat.le_of_ble_eq_true rfl) (Nat.le_of_ble_eq_true rfl) (Nat.le_of_ble_eq_true rfl) ?_
      exact zr_iret hX dX5_at_29 hF h
  · refine zr_iconst hX dX5_at_11 (zrl rfl) ?_
    exact zr_iret hX dX5_at_12 hF h
set_option maxRecDepth 100000 in
theorem m_X_at {l : Launch} {G : zG} {v1 : Int} {v2 : Int} {μ : zM} {q : Int × zM} (hq : f_X_at v1 v2 μ = some q) : zCT l G yX5_at cX5_at 3 (some .int) 5 [zR 0, zI v1, zI v2] μ (some (zI q.1)) q.2 := by
  refine zMet (lv := [some (zR 0), some (zI v1), some (zI v2)]) (k := 0) pl_X5 rfl (Nat.le_of_ble_eq_true rfl) (fun X hl hX hF _ _ => ?_)
  exact w_X_at_e hX hF (zP_of hq rfl)
set_option maxRecDepth 100000 in
set_option maxHeartbeats 4000000 in
theorem w_S_drop_e {X : zX} {G : zG} {o : Nat} {v1 : Int} {μ : zM} {rv : Option zV} {ν : zM} (hX : zOk X G cX3_drop RX3 2 none 2) (hF : zFin X G rv ν) (ho : zsh o = (0, 3)) (h : zP (fun r : zM => ((none : Option zV), r) = (rv, ν)) (f_S_drop o v1 μ)) : zW X G 2 0 [some (zR o), some (zI v1)] [] μ := by
  refine zr_aload_n hX dX3_drop_0 rfl rfl ?_
  refine zr_iload_n hX dX3_drop_1 rfl rfl ?_
  refine zr_callV hX dX3_drop_2 (m_S_knows ho) ho rfl rfl (z5 ww_252 ww_241 ww_242 ww_71 ww_243) hy_X3_knows rfl (Nat.le_of_ble_eq_true rfl) (Nat.le_of_ble_eq_true rfl) (Nat.le_of_ble_eq_true rfl) ?_
  refine zr_ifeq (tgt := 15) hX dX3_drop_5 rfl h (fun h => ?_) (fun h => ?_)
  · exact zr_vret hX dX3_drop_15 hF h
  · refine zr_aload_n hX dX3_drop_8 rfl rfl ?_
    refine zr_getr hX dX3_drop_9 (k := 2) (q := (o + 1)) ho rfl ww_99 rfl ?_
    refine zr_iload_n hX dX3_drop_12 rfl rfl ?_
    refine zr_iconst hX dX3_drop_13 (zrl rfl) ?_
    refine zr_iast (N := zsz (o + 1)) hX dX3_drop_14 (zk31 ho) rfl h (fun h => ?_)
    exact zr_vret hX dX3_drop_15 hF h
set_option maxRecDepth 100000 in
theorem m_S_drop {l : Launch} {G : zG} {o : Nat} {v1 : Int} {μ : zM} (ho : zsh o = (0, 3)) {q : zM} (hq : f_S_drop o v1 μ = some q) : zCT l G yX3_drop cX3_drop 2 none 2 [zR o, zI v1] μ (none) q := by
  refine zMet (lv := [some (zR o), some (zI v1)]) (k := 0) pl_X3 rfl (Nat.le_of_ble_eq_true rfl) (fun X hl hX hF _ _ => ?_)
  exact w_S_drop_e hX hF ho (zP_of hq rfl)
set_option maxRecDepth 100000 in
set_option maxHeartbeats 4000000 in
theorem w_X_tear_e {X : zX} {G : zG} {v1 : Int} {μ : zM} {rv : Option zV} {ν : zM} (hX : zOk X G cX5_tear RX5 2 (some .int) 4) (hF : zFin X G rv ν) (h : zP (fun r : (Int × zM) => (some (zI r.1), r.2) = (rv, ν)) (f_X_tear v1 μ)) : zW X G 2 0 [some (zR 0), some (zI v1)] [] μ := by
  refine zr_aload_n hX dX5_tear_0 rfl rfl ?_
  refine zr_getr hX dX5_tear_1 (k := 0) (q := 1) rfl rfl ww_199 rfl ?_
  refine zr_iload_n hX dX5_tear_4 rfl rfl ?_
  refine zr_callV hX dX5_tear_5 (m_S_knows rfl) rfl rfl rfl (z5 ww_240 ww_241 ww_242 ww_71 ww_243) hy_X3_knows rfl (Nat.le_of_ble_eq_true rfl) (Nat.le_of_ble_eq_true rfl) (Nat.le_of_ble_eq_true rfl) ?_
  refine zr_ifne (tgt := 13) hX dX5_tear_8 rfl h (fun h => ?_) (fun h => ?_)
  · refine zr_aload_n hX dX5_tear_13 rfl rfl ?_
    refine zr_getr hX dX5_tear_14 (k := 0) (q := 1) rfl rfl ww_199 rfl ?_
    refine zr_iload_n hX dX5_tear_17 rfl rfl ?_
    refine zP_bind h (fun q1 hq1 h => ?_)
    refine zr_callV hX dX5_tear_18 (m_S_isThere rfl hq1) rfl rfl rfl (z5 ww_269 ww_270 ww_271 ww_71 ww_272) hy_X3_isThere rfl (Nat.le_of_ble_eq_true rfl) (Nat.le_of_ble_eq_true rfl) (Nat.le_of_ble_eq_true rfl) ?_
    refine zr_ifne (tgt := 30) hX dX5_tear_21 rfl h (fun h => ?_) (fun h => ?_)
    · refine zr_aload_n hX dX5_tear_30 rfl rfl ?_
      refine zr_getr hX dX5_tear_31 (k := 0) (q := 1) rfl rfl ww_199 rfl ?_
      refine zr_iload_n hX dX5_tear_34 rfl rfl ?_
      refine zP_bind h (fun q2 hq2 h => ?_)
      refine zr_callV hX dX5_tear_35 (m_S_drop rfl hq2) rfl rfl rfl (z5 ww_287 ww_288 ww_289 ww_71 ww_290) hy_X3_drop rfl (Nat.le_of_ble_eq_true rfl) (Nat.le_of_ble_eq_true rfl) (Nat.le_of_ble_eq_true rfl) ?_
      refine zr_iconst hX dX5_tear_38 (zrl rfl) ?_
      exact zr_iret hX dX5_tear_39 hF h
    · refine zr_aload_n hX dX5_tear_24 rfl rfl ?_
      refine zr_iconst hX dX5_tear_25 (zrl rfl) ?_
      refine zP_bind h (fun q3 hq3 h => ?_)
      refine zr_callV hX dX5_tear_26 (m_X_found hq3) rfl rfl rfl (z5 ww_244 ww_246 ww_0 ww_70 ww_247) hy_X5_found rfl (Nat.le_of_ble_eq_true rfl) (Nat.le_of_ble_eq_true rfl) (Nat.le_of_ble_eq_true rfl) ?_
      exact zr_iret hX dX5_tear_29 hF h
  · refine zr_iconst hX dX5_tear_11 (zrl rfl) ?_
    exact zr_iret hX dX5_tear_12 hF h
set_option maxRecDepth 100000 in
theorem m_X_tear {l : Launch} {G : zG} {v1 : Int} {μ : zM} {q : Int × zM} (hq : f_X_tear v1 μ = some q) : zCT l G yX5_tear cX5_tear 2 (some .int) 4 [zR 0, zI v1] μ (some (zI q.1)) q.2 := by
  refine zMet (lv := [some (zR 0), some (zI v1)]) (k := 0) pl_X5 rfl (Nat.le_of_ble_eq_true rfl) (fun X hl hX hF _ _ => ?_)
  exact w_X_tear_e hX hF (zP_of hq rfl)
set_option maxRecDepth 100000 in
set_option maxHeartbeats 4000000 in
theorem w_S_hasSpan_e {X : zX} {G : zG} {o : Nat} {v1 : Int} {v2 : Int} {v3 : Int} {μ : zM} {rv : Option zV} {ν : zM} (hX : zOk X G cX3_hasSpan RX3 5 (some .boolean) 3) (hF : zFin X G rv ν) (ho : zsh o = (0, 3)) (h : zP (fun r : Int => (some (zI r), μ) = (rv, ν)) (f_S_hasSpan o v1 v2 v3 μ)) : zW X G 5 0 [some (zR o), some (zI v1), some (zI v2), some (zI v3), none] [] μ := by
  refine zr_aload_n hX dX3_hasSpan_0 rfl rfl ?_
  refine zr_iload_n hX dX3_hasSpan_1 rfl rfl ?_
  refine zP_bind h (fun q1 hq1 h => ?_)
  refine zr_callV hX dX3_hasSpan_2 (m_S_sizeOf ho hq1) ho rfl rfl (z5 ww_261 ww_262 ww_263 ww_71 ww_264) hy_X3_sizeOf rfl (Nat.le_of_ble_eq_true rfl) (Nat.le_of_ble_eq_true rfl) (Nat.le_of_ble_eq_true rfl) ?_
  refine zr_istore hX dX3_hasSpan_5 (Nat.le_of_ble_eq_true rfl) ?_
  refine zr_iload_n hX dX3_hasSpan_7 rfl rfl ?_
  refine zr_iflt (tgt := 33) hX dX3_hasSpan_8 rfl h (fun h => ?_) (fun h => ?_)
  · refine zr_iconst hX dX3_hasSpan_33 (zrl rfl) ?_
    exact zr_bretc hX dX3_hasSpan_34 hF (Or.inl rfl) h
  · refine zr_iload_n hX dX3_hasSpan_11 rfl rfl ?_
    refine zr_iflt (tgt := 33) hX dX3_hasSpan_12 rfl h (fun h => ?_) (fun h => ?_)
    · refine zr_iconst hX dX3_hasSpan_33 (zrl rfl) ?_
      exact zr_bretc hX dX3_hasSpan_34 hF (Or.inl rfl) h
    · refine zr_iload_n hX dX3_hasSpan_15 rfl rfl ?_
      refine zr_iload hX dX3_hasSpan_16 rfl ?_
      refine zr_icmpgt (tgt := 33) hX dX3_hasSpan_18 rfl h (fun h => ?_) (fun h => ?_)
      · refine zr_iconst hX dX3_hasSpan_33 (zrl rfl) ?_
        exact zr_bretc hX dX3_hasSpan_34 hF (Or.inl rfl) h
      · refine zr_iload_n hX dX3_hasSpan_21 rfl rfl ?_
        refine zr_iload hX dX3_hasSpan_22 rfl ?_
        refine zr_iload_n hX dX3_hasSpan_24 rfl rfl ?_
        refine zr_isub hX dX3_hasSpan_25 ?_
        refine zr_icmpgt (tgt := 33) hX dX3_hasSpan_26 rfl h (fun h => ?_) (fun h => ?_)
        · refine zr_iconst hX dX3_hasSpan_33 (zrl rfl) ?_
          exact zr_bretc hX dX3_hasSpan_34 hF (Or.inl rfl) h
        · refine zr_iconst hX dX3_hasSpan_29 (zrl rfl) ?_
          refine zr_goto hX dX3_hasSpan_30 (tgt := 34) rfl ?_
          exact zr_bretc hX dX3_hasSpan_34 hF (Or.inr rfl) h
set_option maxRecDepth 100000 in
theorem m_S_hasSpan {l : Launch} {G : zG} {o : Nat} {v1 : Int} {v2 : Int} {v3 : Int} {μ : zM} (ho : zsh o = (0, 3)) {q : Int} (hq : f_S_hasSpan o v1 v2 v3 μ = some q) : zCT l G yX3_hasSpan cX3_hasSpan 5 (some .boolean) 3 [zR o, zI v1, zI v2, zI v3] μ (some (zI q)) μ := by
  refine zMet (lv := [some (zR o), some (zI v1), some (zI v2), some (zI v3), none]) (k := 1) pl_X3 rfl (Nat.le_of_ble_eq_true rfl) (fun X hl hX hF _ _ => ?_)
  exact w_S_hasSpan_e hX hF ho (zP_of hq rfl)
set_option maxRecDepth 100000 in
set_option maxHeartbeats 4000000 in
theorem w_S_move_e {X : zX} {G : zG} {o : Nat} {v1 : Int} {v2 : Int} {v3 : Int} {v4 : Int} {v5 : Int} {μ : zM} {rv : Option zV} {ν : zM} (hX : zOk X G cX3_move RX3 6 none 4) (hF : zFin X G rv ν) (ho : zsh o = (0, 3)) (h : zP (fun r : zM => ((none : Option zV), r) = (rv, ν)) (f_S_move o v1 v2 v3 v4 v5 μ)) : zW X G 6 0 [some (zR o), some (zI v1), some (zI v2), some (zI v3), some (zI v4), some (zI v5)] [] μ := by
  refine zr_aload_n hX dX3_move_0 rfl rfl ?_
  refine zr_iload_n hX dX3_move_1 rfl rfl ?_
  refine zr_iload_n hX dX3_move_2 rfl rfl ?_
  refine zr_iload hX dX3_move_3 rfl ?_
  refine zP_bind h (fun q1 hq1 h => ?_)
  refine zr_callV hX dX3_move_5 (m_S_hasSpan ho hq1) ho rfl rfl (z5 ww_303 ww_296 ww_297 ww_71 ww_298) hy_X3_hasSpan rfl (Nat.le_of_ble_eq_true rfl) (Nat.le_of_ble_eq_true rfl) (Nat.le_of_ble_eq_true rfl) ?_
  refine zr_ifeq (tgt := 53) hX dX3_move_8 rfl h (fun h => ?_) (fun h => ?_)
  · exact zr_vret hX dX3_move_53 hF h
  · refine zr_aload_n hX dX3_move_11 rfl rfl ?_
    refine zr_iload_n hX dX3_move_12 rfl rfl ?_
    refine zr_iload hX dX3_move_13 rfl ?_
    refine zr_iload hX dX3_move_15 rfl ?_
    refine zP_bind h (fun q2 hq2 h => ?_)
    refine zr_callV hX dX3_move_17 (m_S_hasSpan ho hq2) ho rfl rfl (z5 ww_303 ww_296 ww_297 ww_71 ww_298) hy_X3_hasSpan rfl (Nat.le_of_ble_eq_true rfl) (Nat.le_of_ble_eq_true rfl) (Nat.le_of_ble_eq_true rfl) ?_
    refine zr_ifeq (tgt := 53) hX dX3_move_20 rfl h (fun h => ?_) (fun h => ?_)
    · exact zr_vret hX dX3_move_53 hF h
    · refine zr_aload_n hX dX3_move_23 rfl rfl ?_
      refine zr_getr hX dX3_move_24 (k := 3) (q := (o + 2)) ho rfl ww_100 rfl ?_
      refine zr_iload_n hX dX3_move_27 rfl rfl ?_
      refine zr_aload_n hX dX3_move_28 rfl rfl ?_
      refine zr_geti hX dX3_move_29 (k := 0) ho rfl ww_97 ?_
      refine zr_imul hX dX3_move_32 ?_
      refine zr_iload_n hX dX3_move_33 rfl rfl ?_
      refine zr_iadd hX dX3_move_34 ?_
      refine zr_aload_n hX dX3_move_35 rfl rfl ?_
      refine zr_getr hX dX3_move_36 (k := 3) (q := (o + 2)) ho rfl ww_100 rfl ?_
      refine zr_iload_n hX dX3_move_39 rfl rfl ?_
      refine zr_aload_n hX dX3_move_40 rfl rfl ?_
      refine zr_geti hX dX3_move_41 (k := 0) ho rfl ww_97 ?_
      refine zr_imul hX dX3_move_44 ?_
      refine zr_iload hX dX3_move_45 rfl ?_
      refine zr_iadd hX dX3_move_47 ?_
      refine zr_iload hX dX3_move_48 rfl ?_
      refine zr_copy (Na := 240) (Nb := 240) hX dX3_move_50 (by decide +kernel) (zkid_of zk_3_2 ho) (zkid_of zk_3_2 ho) rfl rfl (Nat.le_of_ble_eq_true rfl) (Nat.le_of_ble_eq_true rfl) h (fun h => ?_)
      exact zr_vret hX dX3_move_53 hF h
set_option maxRecDepth 100000 in
theorem m_S_move {l : Launch} {G : zG} {o : Nat} {v1 : Int} {v2 : Int} {v3 : Int} {v4 : Int} {v5 : Int} {μ : zM} (ho : zsh o = (0, 3)) {q : zM} (hq : f_S_move o v1 v2 v3 v4 v5 μ = some q) : zCT l G yX3_move cX3_move 6 none 4 [zR o, zI v1, zI v2, zI v3, zI v4, zI v5] μ (none) q := by
  refine zMet (lv := [some (zR o), some (zI v1), some (zI v2), some (zI v3), some (zI v4), some (zI v5)]) (k := 0) pl_X3 rfl (Nat.le_of_ble_eq_true rfl) (fun X hl hX hF _ _ => ?_)
  exact w_S_move_e hX hF ho (zP_of hq rfl)
set_option maxRecDepth 100000 in
set_option maxHeartbeats 4000000 in
theorem w_X_copy_e {X : zX} {G : zG} {v1 : Int} {v2 : Int} {v3 : Int} {v4 : Int} {v5 : Int} {μ : zM} {rv : Option zV} {ν : zM} (hX : zOk X G cX5_copy RX5 6 (some .int) 5) (hF : zFin X G rv ν) (h : zP (fun r : (Int × zM) => (some (zI r.1), r.2) = (rv, ν)) (f_X_copy v1 v2 v3 v4 v5 μ)) : zW X G 6 0 [some (zR 0), some (zI v1), some (zI v2), some (zI v3), some (zI v4), some (zI v5)] [] μ := by
  refine zr_aload_n hX dX5_copy_0 rfl rfl ?_
  refine zr_getr hX dX5_copy_1 (k := 0) (q := 1) rfl rfl ww_199 rfl ?_
  refine zr_iload_n hX dX5_copy_4 rfl rfl ?_
  refine zr_callV hX dX5_copy_5 (m_S_knows rfl) rfl rfl rfl (z5 ww_240 ww_241 ww_242 ww_71 ww_243) hy_X3_knows rfl (Nat.le_of_ble_eq_true rfl) (Nat.le_of_ble_eq_true rfl) (Nat.le_of_ble_eq_true rfl) ?_
  refine zr_ifeq (tgt := 22) hX dX5_copy_8 rfl h (fun h => ?_) (fun h => ?_)
  · refine zr_iconst hX dX5_copy_22 (zrl rfl) ?_
    exact zr_iret hX dX5_copy_23 hF h
  · refine zr_aload_n hX dX5_copy_11 rfl rfl ?_
    refine zr_getr hX dX5_copy_12 (k := 0) (q := 1) rfl rfl ww_199 rfl ?_
    refine zr_iload_n hX dX5_copy_15 rfl rfl ?_
    refine zr_callV hX dX5_copy_16 (m_S_knows rfl) rfl rfl rfl (z5 ww_240 ww_241 ww_242 ww_71 ww_243) hy_X3_knows rfl (Nat.le_of_ble_eq_true rfl) (Nat.le_of_ble_eq_true rfl) (Nat.le_of_ble_eq_true rfl) ?_
    refine zr_ifne (tgt := 24) hX dX5_copy_19 rfl h (fun h => ?_) (fun h => ?_)
    · refine zr_iload hX dX5_copy_24 rfl ?_
      refine zr_ifge (tgt := 35) hX dX5_copy_26 rfl h (fun h => ?_) (fun h => ?_)
      · refine zr_aload_n hX dX5_copy_35 rfl rfl ?_
        refine zr_getr hX dX5_copy_36 (k := 0) (q := 1) rfl rfl ww_199 rfl ?_
        refine zr_iload_n hX dX5_copy_39 rfl rfl ?_
        refine zP_bind h (fun q1 hq1 h => ?_)
        refine zr_callV hX dX5_copy_40 (m_S_isThere rfl hq1) rfl rfl rfl (z5 ww_269 ww_270 ww_271 ww_71 ww_272) hy_X3_isThere rfl (Nat.le_of_ble_eq_true rfl) (Nat.le_of_ble_eq_true rfl) (Nat.le_of_ble_eq_true rfl) ?_
        refine zr_ifeq (tgt := 57) hX dX5_copy_43 rfl h (fun h => ?_) (fun h => ?_)
        · refine zr_aload_n hX dX5_copy_57 rfl rfl ?_
          refine zr_iconst hX dX5_copy_58 (zrl rfl) ?_
          refine zP_bind h (fun q2 hq2 h => ?_)
          refine zr_callV hX dX5_copy_59 (m_X_found hq2) rfl rfl rfl (z5 ww_244 ww_246 ww_0 ww_70 ww_247) hy_X5_found rfl (Nat.le_of_ble_eq_true rfl) (Nat.le_of_ble_eq_true rfl) (Nat.le_of_ble_eq_true rfl) ?_
          exact zr_iret hX dX5_copy_62 hF h
        · refine zr_aload_n hX dX5_copy_46 rfl rfl ?_
          refine zr_getr hX dX5_copy_47 (k := 0) (q := 1) rfl rfl ww_199 rfl ?_
          refine zr_iload_n hX dX5_copy_50 rfl rfl ?_
          refine zP_bind h (fun q3 hq3 h => ?_)
          refine zr_callV hX dX5_copy_51 (m_S_isThere rfl hq3) rfl rfl rfl (z5 ww_269 ww_270 ww_271 ww_71 ww_272) hy_X3_isThere rfl (Nat.le_of_ble_eq_true rfl) (Nat.le_of_ble_eq_true rfl) (Nat.le_of_ble_eq_true rfl) ?_
          refine zr_ifne (tgt := 63) hX dX5_copy_54 rfl h (fun h => ?_) (fun h => ?_)
          · refine zr_aload_n hX dX5_copy_63 rfl rfl ?_
            refine zr_getr hX dX5_copy_64 (k := 0) (q := 1) rfl rfl ww_199 rfl ?_
            refine zr_iload_n hX dX5_copy_67 rfl rfl ?_
            refine zr_iload_n hX dX5_copy_68 rfl rfl ?_
            refine zr_iload hX dX5_copy_69 rfl ?_
            refine zP_bind h (fun q4 hq4 h => ?_)
            refine zr_callV hX dX5_copy_71 (m_S_hasSpan rfl hq4) rfl rfl rfl (z5 ww_295 ww_296 ww_297 ww_71 ww_298) hy_X3_hasSpan rfl (Nat.le_of_ble_eq_true rfl) (Nat.le_of_ble_eq_true rfl) (Nat.le_of_ble_eq_true rfl) ?_
            refine zr_ifeq (tgt := 92) hX dX5_copy_74 rfl h (fun h => ?_) (fun h => ?_)
            · refine zr_aload_n hX dX5_copy_92 rfl rfl ?_
              refine zr_iconst hX dX5_copy_93 (zrl rfl) ?_
              refine zP_bind h (fun q5 hq5 h => ?_)
              refine zr_callV hX dX5_copy_94 (m_X_found hq5) rfl rfl rfl (z5 ww_244 ww_246 ww_0 ww_70 ww_247) hy_X5_found rfl (Nat.le_of_ble_eq_true rfl) (Nat.le_of_ble_eq_true rfl) (Nat.le_of_ble_eq_true rfl) ?_
              exact zr_iret hX dX5_copy_97 hF h
            · refine zr_aload_n hX dX5_copy_77 rfl rfl ?_
              refine zr_getr hX dX5_copy_78 (k := 0) (q := 1) rfl rfl ww_199 rfl ?_
              refine zr_iload_n hX dX5_copy_81 rfl rfl ?_
              refine zr_iload hX dX5_copy_82 rfl ?_
              refine zr_iload hX dX5_copy_84 rfl ?_
              refine zP_bind h (fun q6 hq6 h => ?_)
              refine zr_callV hX dX5_copy_86 (m_S_hasSpan rfl hq6) rfl rfl rfl (z5 ww_295 ww_296 ww_297 ww_71 ww_298) hy_X3_hasSpan rfl (Nat.le_of_ble_eq_true rfl) (Nat.le_of_ble_eq_true rfl) (Nat.le_of_ble_eq_true rfl) ?_
              refine zr_ifne (tgt := 98) hX dX5_copy_89 rfl h (fun h => ?_) (fun h => ?_)
              · refine zr_aload_n hX dX5_copy_98 rfl rfl ?_
                refine zr_getr hX dX5_copy_99 (k := 0) (q := 1) rfl rfl ww_199 rfl ?_
                refine zr_iload_n hX dX5_copy_102 rfl rfl ?_
                refine zr_iload_n hX dX5_copy_103 rfl rfl ?_
                refine zr_iload_n hX dX5_copy_104 rfl rfl ?_
                refine zr_iload hX dX5_copy_105 rfl ?_
                refine zr_iload hX dX5_copy_107 rfl ?_
                refine zP_bind h (fun q7 hq7 h => ?_)
                refine zr_callV hX dX5_copy_109 (m_S_move rfl hq7) rfl rfl rfl (z5 ww_299 ww_300 ww_301 ww_71 ww_302) hy_X3_move rfl (Nat.le_of_ble_eq_true rfl) (Nat.le_of_ble_eq_true rfl) (Nat.le_of_ble_eq_true rfl) ?_
                refine zr_iconst hX dX5_copy_112 (zrl rfl) ?_
                exact zr_iret hX dX5_copy_113 hF h
              · refine zr_aload_n hX dX5_copy_92 rfl rfl ?_
                refine zr_iconst hX dX5_copy_93 (zrl rfl) ?_
                refine zP_bind h (fun q8 hq8 h => ?_)
                refine zr_callV hX dX5_copy_94 (m_X_found hq8) rfl rfl rfl (z5 ww_244 ww_246 ww_0 ww_70 ww_247) hy_X5_found rfl (Nat.le_of_ble_eq_true rfl) (Nat.le_of_ble_eq_true rfl) (Nat.le_of_ble_eq_true rfl) ?_
                exact zr_iret hX dX5_copy_97 hF h
          · refine zr_aload_n hX dX5_copy_57 rfl rfl ?_
            refine zr_iconst hX dX5_copy_58 (zrl rfl) ?_
            refine zP_bind h (fun q9 hq9 h => ?_)
            refine zr_callV hX dX5_copy_59 (m_X_found hq9) rfl rfl rfl (z5 ww_244 ww_246 ww_0 ww_70 ww_247) hy_X5_found rfl (Nat.le_of_ble_eq_true rfl) (Nat.le_of_ble_eq_true rfl) (Nat.le_of_ble_eq_true rfl) ?_
            exact zr_iret hX dX5_copy_62 hF h
      · refine zr_aload_n hX dX5_copy_29 rfl rfl ?_
        refine zr_iconst hX dX5_copy_30 (zrl rfl) ?_
        refine zP_bind h (fun q10 hq10 h => ?_)
        refine zr_callV hX dX5_copy_31 (m_X_found hq10) rfl rfl rfl (z5 ww_244 ww_246 ww_0 ww_70 ww_247) hy_X5_found rfl (Nat.le_of_ble_eq_true rfl) (Nat.le_of_ble_eq_true rfl) (Nat.le_of_ble_eq_true rfl) ?_
        exact zr_iret hX dX5_copy_34 hF h
    · refine zr_iconst hX dX5_copy_22 (zrl rfl) ?_
      exact zr_iret hX dX5_copy_23 hF h
set_option maxRecDepth 100000 in
theorem m_X_copy {l : Launch} {G : zG} {v1 : Int} {v2 : Int} {v3 : Int} {v4 : Int} {v5 : Int} {μ : zM} {q : Int × zM} (hq : f_X_copy v1 v2 v3 v4 v5 μ = some q) : zCT l G yX5_copy cX5_copy 6 (some .int) 5 [zR 0, zI v1, zI v2, zI v3, zI v4, zI v5] μ (some (zI q.1)) q.2 := by
  refine zMet (lv := [some (zR 0), some (zI v1), some (zI v2), some (zI v3), some (zI v4), some (zI v5)]) (k := 0) pl_X5 rfl (Nat.le_of_ble_eq_true rfl) (fun X hl hX hF _ _ => ?_)
  exact w_X_copy_e hX hF (zP_of hq rfl)
def k_S_sumOf (X : zX) (G : zG) (o : Nat) (v1 : Int) (μ : zM) : (Int × Int) → Prop := fun s => zW X G 5 5 [some (zR o), some (zI v1), some (zJ s.1), none, some (zI s.2)] [] μ
theorem k_S_sumOf_5 {X : zX} {G : zG} {o : Nat} {v1 : Int} {μ : zM} {F : Int → Prop} {v2 v4 : Int} (h : zP (Sum.elim (k_S_sumOf X G o v1 μ) F) (some (.inl ((v2, v4))))) : zW X G 5 5 [some (zR o), some (zI v1), some (zJ v2), none, some (zI v4)] [] μ := h
set_option maxRecDepth 100000 in
set_option maxHeartbeats 4000000 in
theorem w_S_sumOf_5 {X : zX} {G : zG} {o : Nat} {v1 : Int} {μ : zM} {rv : Option zV} {ν : zM} (hX : zOk X G cX3_sumOf RX3 5 (some .long) 5) (hF : zFin X G rv ν) (ho : zsh o = (0, 3)) {v2 v4 : Int} (h : zP (Sum.elim (k_S_sumOf X G o v1 μ) (fun r : Int => (some (zJ r), μ) = (rv, ν))) (b_S_sumOf_5 o v1 v2 v4 μ)) : zW X G 5 5 [some (zR o), some (zI v1), some (zJ v2), none, some (zI v4)] [] μ := by
  refine zr_iload hX dX3_sumOf_5 rfl ?_
  refine zr_aload_n hX dX3_sumOf_7 rfl rfl ?_
  refine zr_iload_n hX dX3_sumOf_8 rfl rfl ?_
  refine zP_bind h (fun q1 hq1 h => ?_)
  refine zr_callV hX dX3_sumOf_9 (m_S_sizeOf ho hq1) ho rfl rfl (z5 ww_261 ww_262 ww_263 ww_71 ww_264) hy_X3_sizeOf rfl (Nat.le_of_ble_eq_true rfl) (Nat.le_of_ble_eq_true rfl) (Nat.le_of_ble_eq_true rfl) ?_
  refine zr_icmpge (tgt := 32) hX dX3_sumOf_12 rfl h (fun h => ?_) (fun h => ?_)
  · refine zr_lload_n hX dX3_sumOf_32 rfl rfl ?_
    exact zr_lret hX dX3_sumOf_33 hF h
  · refine zr_lload_n hX dX3_sumOf_15 rfl rfl ?_
    refine zr_aload_n hX dX3_sumOf_16 rfl rfl ?_
    refine zr_iload_n hX dX3_sumOf_17 rfl rfl ?_
    refine zr_iload hX dX3_sumOf_18 rfl ?_
    refine zP_bind h (fun q2 hq2 h => ?_)
    refine zr_callV hX dX3_sumOf_20 (m_S_get ho hq2) ho rfl rfl (z5 ww_316 ww_275 ww_276 ww_71 ww_277) hy_X3_get rfl (Nat.le_of_ble_eq_true rfl) (Nat.le_of_ble_eq_true rfl) (Nat.le_of_ble_eq_true rfl) ?_
    refine zr_i2l hX dX3_sumOf_23 ?_
    refine zr_ladd hX dX3_sumOf_24 ?_
    refine zr_lstore_n hX dX3_sumOf_25 rfl (Nat.le_of_ble_eq_true rfl) ?_
    refine zr_iinc hX dX3_sumOf_26 rfl (Nat.le_of_ble_eq_true rfl) ?_
    refine zr_goto hX dX3_sumOf_29 (tgt := 5) rfl ?_
    exact zW_lf (k_S_sumOf_5 h) (And.intro rfl (And.intro rfl (And.intro rfl (And.intro rfl trivial))))
set_option maxRecDepth 100000 in
set_option maxHeartbeats 4000000 in
theorem w_S_sumOf_e {X : zX} {G : zG} {o : Nat} {v1 : Int} {μ : zM} {rv : Option zV} {ν : zM} (hX : zOk X G cX3_sumOf RX3 5 (some .long) 5) (hF : zFin X G rv ν) (ho : zsh o = (0, 3)) (h : zP (Sum.elim (k_S_sumOf X G o v1 μ) (fun r : Int => (some (zJ r), μ) = (rv, ν))) (e_S_sumOf o v1 μ)) : zW X G 5 0 [some (zR o), some (zI v1), none, none, none] [] μ := by
  refine zr_lconst hX dX3_sumOf_0 (n := 0) rfl (zrlJ rfl) ?_
  refine zr_lstore_n hX dX3_sumOf_1 rfl (Nat.le_of_ble_eq_true rfl) ?_
  refine zr_iconst hX dX3_sumOf_2 (zrl rfl) ?_
  refine zr_istore hX dX3_sumOf_3 (Nat.le_of_ble_eq_true rfl) ?_
  exact zW_lf (k_S_sumOf_5 h) (And.intro rfl (And.intro rfl (And.intro rfl (And.intro rfl trivial))))
set_option maxRecDepth 100000 in
theorem m_S_sumOf {l : Launch} {G : zG} {o : Nat} {v1 : Int} {μ : zM} (ho : zsh o = (0, 3)) {q : Int} (hq : f_S_sumOf o v1 μ = some q) : zCT l G yX3_sumOf cX3_sumOf 5 (some .long) 5 [zR o, zI v1] μ (some (zJ q)) μ := by
  refine zMet (lv := [some (zR o), some (zI v1), none, none, none]) (k := 3) pl_X3 rfl (Nat.le_of_ble_eq_true rfl) (fun X hl hX hF _ _ => ?_)
  refine w_S_sumOf_e hX hF ho (zgo_K (r := q) (step := t_S_sumOf o v1 μ) (fun s h => ?_) rfl hq)
  exact w_S_sumOf_5 hX hF ho h
set_option maxRecDepth 100000 in
set_option maxHeartbeats 4000000 in
theorem w_X_mean_e {X : zX} {G : zG} {v1 : Int} {μ : zM} {rv : Option zV} {ν : zM} (hX : zOk X G cX5_mean RX5 3 (some .int) 6) (hF : zFin X G rv ν) (h : zP (fun r : (Int × zM) => (some (zI r.1), r.2) = (rv, ν)) (f_X_mean v1 μ)) : zW X G 3 0 [some (zR 0), some (zI v1), none] [] μ := by
  refine zr_aload_n hX dX5_mean_0 rfl rfl ?_
  refine zr_getr hX dX5_mean_1 (k := 0) (q := 1) rfl rfl ww_199 rfl ?_
  refine zr_iload_n hX dX5_mean_4 rfl rfl ?_
  refine zr_callV hX dX5_mean_5 (m_S_knows rfl) rfl rfl rfl (z5 ww_240 ww_241 ww_242 ww_71 ww_243) hy_X3_knows rfl (Nat.le_of_ble_eq_true rfl) (Nat.le_of_ble_eq_true rfl) (Nat.le_of_ble_eq_true rfl) ?_
  refine zr_ifne (tgt := 13) hX dX5_mean_8 rfl h (fun h => ?_) (fun h => ?_)
  · refine zr_aload_n hX dX5_mean_13 rfl rfl ?_
    refine zr_getr hX dX5_mean_14 (k := 0) (q := 1) rfl rfl ww_199 rfl ?_
    refine zr_iload_n hX dX5_mean_17 rfl rfl ?_
    refine zP_bind h (fun q1 hq1 h => ?_)
    refine zr_callV hX dX5_mean_18 (m_S_isThere rfl hq1) rfl rfl rfl (z5 ww_269 ww_270 ww_271 ww_71 ww_272) hy_X3_isThere rfl (Nat.le_of_ble_eq_true rfl) (Nat.le_of_ble_eq_true rfl) (Nat.le_of_ble_eq_true rfl) ?_
    refine zr_ifne (tgt := 30) hX dX5_mean_21 rfl h (fun h => ?_) (fun h => ?_)
    · refine zr_aload_n hX dX5_mean_30 rfl rfl ?_
      refine zr_getr hX dX5_mean_31 (k := 0) (q := 1) rfl rfl ww_199 rfl ?_
      refine zr_iload_n hX dX5_mean_34 rfl rfl ?_
      refine zP_bind h (fun q2 hq2 h => ?_)
      refine zr_callV hX dX5_mean_35 (m_S_sizeOf rfl hq2) rfl rfl rfl (z5 ww_311 ww_262 ww_263 ww_71 ww_264) hy_X3_sizeOf rfl (Nat.le_of_ble_eq_true rfl) (Nat.le_of_ble_eq_true rfl) (Nat.le_of_ble_eq_true rfl) ?_
      refine zr_istore_n hX dX5_mean_38 rfl (Nat.le_of_ble_eq_true rfl) ?_
      refine zr_iload_n hX dX5_mean_39 rfl rfl ?_
      refine zr_ifne (tgt := 49) hX dX5_mean_40 rfl h (fun h => ?_) (fun h => ?_)
      · refine zr_aload_n hX dX5_mean_49 rfl rfl ?_
        refine zr_aload_n hX dX5_mean_50 rfl rfl ?_
        refine zr_getr hX dX5_mean_51 (k := 0) (q := 1) rfl rfl ww_199 rfl ?_
        refine zr_iload_n hX dX5_mean_54 rfl rfl ?_
        refine zP_bind h (fun q3 hq3 h => ?_)
        refine zr_callV hX dX5_mean_55 (m_S_sumOf rfl hq3) rfl rfl rfl (z5 ww_312 ww_313 ww_314 ww_71 ww_315) hy_X3_sumOf rfl (Nat.le_of_ble_eq_true rfl) (Nat.le_of_ble_eq_true rfl) (Nat.le_of_ble_eq_true rfl) ?_
        refine zr_iload_n hX dX5_mean_58 rfl rfl ?_
        refine zr_i2l hX dX5_mean_59 ?_
        refine zr_ldiv hX dX5_mean_60 h (fun h => ?_)
        refine zr_l2i hX dX5_mean_61 ?_
        refine zr_puti hX dX5_mean_62 (k := 9) rfl rfl ww_208 rfl (by decide +kernel) ?_
        refine zr_iconst hX dX5_mean_65 (zrl rfl) ?_
        exact zr_iret hX dX5_mean_66 hF h
      · refine zr_aload_n hX dX5_mean_43 rfl rfl ?_
        refine zr_iconst hX dX5_mean_44 (zrl rfl) ?_
        refine zP_bind h (fun q4 hq4 h => ?_)
        refine zr_callV hX dX5_mean_45 (m_X_found hq4) rfl rfl rfl (z5 ww_244 ww_246 ww_0 ww_70 ww_247) hy_X5_found rfl (Nat.le_of_ble_eq_true rfl) (Nat.le_of_ble_eq_true rfl) (Nat.le_of_ble_eq_true rfl) ?_
        exact zr_iret hX dX5_mean_48 hF h
    · refine zr_aload_n hX dX5_mean_24 rfl rfl ?_
      refine zr_iconst hX dX5_mean_25 (zrl rfl) ?_
      refine zP_bind h (fun q5 hq5 h => ?_)
      refine zr_callV hX dX5_mean_26 (m_X_found hq5) rfl rfl rfl (z5 ww_244 ww_246 ww_0 ww_70 ww_247) hy_X5_found rfl (Nat.le_of_ble_eq_true rfl) (Nat.le_of_ble_eq_true rfl) (Nat.le_of_ble_eq_true rfl) ?_
      exact zr_iret hX dX5_mean_29 hF h
  · refine zr_iconst hX dX5_mean_11 (zrl rfl) ?_
    exact zr_iret hX dX5_mean_12 hF h
set_option maxRecDepth 100000 in
theorem m_X_mean {l : Launch} {G : zG} {v1 : Int} {μ : zM} {q : Int × zM} (hq : f_X_mean v1 μ = some q) : zCT l G yX5_mean cX5_mean 3 (some .int) 6 [zR 0, zI v1] μ (some (zI q.1)) q.2 := by
  refine zMet (lv := [some (zR 0), some (zI v1), none]) (k := 1) pl_X5 rfl (Nat.le_of_ble_eq_true rfl) (fun X hl hX hF _ _ => ?_)
  exact w_X_mean_e hX hF (zP_of hq rfl)
set_option maxRecDepth 100000 in
set_option maxHeartbeats 4000000 in
theorem w_X_text_e {X : zX} {G : zG} {v1 : Int} {v2 : Int} {μ : zM} {rv : Option zV} {ν : zM} (hX : zOk X G cX5_text RX5 3 (some .int) 6) (hF : zFin X G rv ν) (h : zP (fun r : (Int × zM) => (some (zI r.1), r.2) = (rv, ν)) (f_X_text v1 v2 μ)) : zW X G 3 0 [some (zR 0), some (zI v1), some (zI v2)] [] μ := by
  refine zr_aload_n hX dX5_text_0 rfl rfl ?_
  refine zr_getr hX dX5_text_1 (k := 1) (q := 4) rfl rfl ww_200 rfl ?_
  refine zr_iload_n hX dX5_text_4 rfl rfl ?_
  refine zr_callV hX dX5_text_5 (m_S_knows rfl) rfl rfl rfl (z5 ww_240 ww_241 ww_242 ww_71 ww_243) hy_X3_knows rfl (Nat.le_of_ble_eq_true rfl) (Nat.le_of_ble_eq_true rfl) (Nat.le_of_ble_eq_true rfl) ?_
  refine zr_ifeq (tgt := 17) hX dX5_text_8 rfl h (fun h => ?_) (fun h => ?_)
  · refine zr_iconst hX dX5_text_17 (zrl rfl) ?_
    exact zr_iret hX dX5_text_18 hF h
  · refine zr_iload_n hX dX5_text_11 rfl rfl ?_
    refine zr_bipush hX dX5_text_12 rfl ?_
    refine zr_icmple (tgt := 19) hX dX5_text_14 rfl h (fun h => ?_) (fun h => ?_)
    · refine zr_iload_n hX dX5_text_19 rfl rfl ?_
      refine zr_ifge (tgt := 29) hX dX5_text_20 rfl h (fun h => ?_) (fun h => ?_)
      · refine zr_aload_n hX dX5_text_29 rfl rfl ?_
        refine zr_getr hX dX5_text_30 (k := 1) (q := 4) rfl rfl ww_200 rfl ?_
        refine zr_iload_n hX dX5_text_33 rfl rfl ?_
        refine zr_iload_n hX dX5_text_34 rfl rfl ?_
        refine zP_bind h (fun q1 hq1 h => ?_)
        refine zr_callV hX dX5_text_35 (m_S_make rfl hq1) rfl rfl rfl (z5 ww_248 ww_249 ww_250 ww_71 ww_251) hy_X3_make rfl (Nat.le_of_ble_eq_true rfl) (Nat.le_of_ble_eq_true rfl) (Nat.le_of_ble_eq_true rfl) ?_
        refine zr_iload_n hX dX5_text_38 rfl rfl ?_
        exact zr_iret hX dX5_text_39 hF h
      · refine zr_aload_n hX dX5_text_23 rfl rfl ?_
        refine zr_iconst hX dX5_text_24 (zrl rfl) ?_
        refine zP_bind h (fun q2 hq2 h => ?_)
        refine zr_callV hX dX5_text_25 (m_X_found hq2) rfl rfl rfl (z5 ww_244 ww_246 ww_0 ww_70 ww_247) hy_X5_found rfl (Nat.le_of_ble_eq_true rfl) (Nat.le_of_ble_eq_true rfl) (Nat.le_of_ble_eq_true rfl) ?_
        exact zr_iret hX dX5_text_28 hF h
    · refine zr_iconst hX dX5_text_17 (zrl rfl) ?_
      exact zr_iret hX dX5_text_18 hF h
set_option maxRecDepth 100000 in
theorem m_X_text {l : Launch} {G : zG} {v1 : Int} {v2 : Int} {μ : zM} {q : Int × zM} (hq : f_X_text v1 v2 μ = some q) : zCT l G yX5_text cX5_text 3 (some .int) 6 [zR 0, zI v1, zI v2] μ (some (zI q.1)) q.2 := by
  refine zMet (lv := [some (zR 0), some (zI v1), some (zI v2)]) (k := 0) pl_X5 rfl (Nat.le_of_ble_eq_true rfl) (fun X hl hX hF _ _ => ?_)
  exact w_X_text_e hX hF (zP_of hq rfl)
set_option maxRecDepth 100000 in
set_option maxHeartbeats 4000000 in
theorem w_X_put_e {X : zX} {G : zG} {v1 : Int} {v2 : Int} {v3 : Int} {μ : zM} {rv : Option zV} {ν : zM} (hX : zOk X G cX5_put RX5 5 (some .int) 5) (hF : zFin X G rv ν) (h : zP (fun r : (Int × zM) => (some (zI r.1), r.2) = (rv, ν)) (f_X_put v1 v2 v3 μ)) : zW X G 5 0 [some (zR 0), some (zI v1), some (zI v2), some (zI v3), none] [] μ := by
  refine zr_aload_n hX dX5_put_0 rfl rfl ?_
  refine zr_getr hX dX5_put_1 (k := 1) (q := 4) rfl rfl ww_200 rfl ?_
  refine zr_iload_n hX dX5_put_4 rfl rfl ?_
  refine zr_callV hX dX5_put_5 (m_S_knows rfl) rfl rfl rfl (z5 ww_240 ww_241 ww_242 ww_71 ww_243) hy_X3_knows rfl (Nat.le_of_ble_eq_true rfl) (Nat.le_of_ble_eq_true rfl) (Nat.le_of_ble_eq_true rfl) ?_
  refine zr_ifne (tgt := 13) hX dX5_put_8 rfl h (fun h => ?_) (fun h => ?_)
  · refine zr_aload_n hX dX5_put_13 rfl rfl ?_
    refine zr_getr hX dX5_put_14 (k := 1) (q := 4) rfl rfl ww_200 rfl ?_
    refine zr_iload_n hX dX5_put_17 rfl rfl ?_
    refine zP_bind h (fun q1 hq1 h => ?_)
    refine zr_callV hX dX5_put_18 (m_S_isThere rfl hq1) rfl rfl rfl (z5 ww_269 ww_270 ww_271 ww_71 ww_272) hy_X3_isThere rfl (Nat.le_of_ble_eq_true rfl) (Nat.le_of_ble_eq_true rfl) (Nat.le_of_ble_eq_true rfl) ?_
    refine zr_ifne (tgt := 30) hX dX5_put_21 rfl h (fun h => ?_) (fun h => ?_)
    · refine zr_aload_n hX dX5_put_30 rfl rfl ?_
      refine zr_getr hX dX5_put_31 (k := 1) (q := 4) rfl rfl ww_200 rfl ?_
      refine zr_iload_n hX dX5_put_34 rfl rfl ?_
      refine zr_iload_n hX dX5_put_35 rfl rfl ?_
      refine zP_bind h (fun q2 hq2 h => ?_)
      refine zr_callV hX dX5_put_36 (m_S_has rfl hq2) rfl rfl rfl (z5 ww_273 ww_258 ww_259 ww_71 ww_260) hy_X3_has rfl (Nat.le_of_ble_eq_true rfl) (Nat.le_of_ble_eq_true rfl) (Nat.le_of_ble_eq_true rfl) ?_
      refine zr_ifne (tgt := 48) hX dX5_put_39 rfl h (fun h => ?_) (fun h => ?_)
      · refine zr_aload_n hX dX5_put_48 rfl rfl ?_
        refine zr_getr hX dX5_put_49 (k := 1) (q := 4) rfl rfl ww_200 rfl ?_
        refine zr_iload_n hX dX5_put_52 rfl rfl ?_
        refine zr_iload_n hX dX5_put_53 rfl rfl ?_
        refine zP_bind h (fun q3 hq3 h => ?_)
        refine zr_callV hX dX5_put_54 (m_S_get rfl hq3) rfl rfl rfl (z5 ww_274 ww_275 ww_276 ww_71 ww_277) hy_X3_get rfl (Nat.le_of_ble_eq_true rfl) (Nat.le_of_ble_eq_true rfl) (Nat.le_of_ble_eq_true rfl) ?_
        refine zr_istore hX dX5_put_57 (Nat.le_of_ble_eq_true rfl) ?_
        refine zr_aload_n hX dX5_put_59 rfl rfl ?_
        refine zr_getr hX dX5_put_60 (k := 1) (q := 4) rfl rfl ww_200 rfl ?_
        refine zr_iload_n hX dX5_put_63 rfl rfl ?_
        refine zr_iload_n hX dX5_put_64 rfl rfl ?_
        refine zr_iload_n hX dX5_put_65 rfl rfl ?_
        refine zr_i2b hX dX5_put_66 ?_
        refine zP_bind h (fun q4 hq4 h => ?_)
        refine zr_callV hX dX5_put_67 (m_S_set rfl hq4) rfl rfl rfl (z5 ww_278 ww_254 ww_255 ww_71 ww_256) hy_X3_set rfl (Nat.le_of_ble_eq_true rfl) (Nat.le_of_ble_eq_true rfl) (Nat.le_of_ble_eq_true rfl) ?_
        refine zr_iload hX dX5_put_70 rfl ?_
        refine zr_sipush hX dX5_put_72 rfl ?_
        refine zr_iadd hX dX5_put_75 ?_
        exact zr_iret hX dX5_put_76 hF h
      · refine zr_aload_n hX dX5_put_42 rfl rfl ?_
        refine zr_iconst hX dX5_put_43 (zrl rfl) ?_
        refine zP_bind h (fun q5 hq5 h => ?_)
        refine zr_callV hX dX5_put_44 (m_X_found hq5) rfl rfl rfl (z5 ww_244 ww_246 ww_0 ww_70 ww_247) hy_X5_found rfl (Nat.le_of_ble_eq_true rfl) (Nat.le_of_ble_eq_true rfl) (Nat.le_of_ble_eq_true rfl) ?_
        exact zr_iret hX dX5_put_47 hF h
    · refine zr_aload_n hX dX5_put_24 rfl rfl ?_
      refine zr_iconst hX dX5_put_25 (zrl rfl) ?_
      refine zP_bind h (fun q6 hq6 h => ?_)
      refine zr_callV hX dX5_put_26 (m_X_found hq6) rfl rfl rfl (z5 ww_244 ww_246 ww_0 ww_70 ww_247) hy_X5_found rfl (Nat.le_of_ble_eq_true rfl) (Nat.le_of_ble_eq_true rfl) (Nat.le_of_ble_eq_true rfl) ?_
      exact zr_iret hX dX5_put_29 hF h
  · refine zr_iconst hX dX5_put_11 (zrl rfl) ?_
    exact zr_iret hX dX5_put_12 hF h
set_option maxRecDepth 100000 in
theorem m_X_put {l : Launch} {G : zG} {v1 : Int} {v2 : Int} {v3 : Int} {μ : zM} {q : Int × zM} (hq : f_X_put v1 v2 v3 μ = some q) : zCT l G yX5_put cX5_put 5 (some .int) 5 [zR 0, zI v1, zI v2, zI v3] μ (some (zI q.1)) q.2 := by
  refine zMet (lv := [some (zR 0), some (zI v1), some (zI v2), some (zI v3), none]) (k := 1) pl_X5 rfl (Nat.le_of_ble_eq_true rfl) (fun X hl hX hF _ _ => ?_)
  exact w_X_put_e hX hF (zP_of hq rfl)
def k_R_clear (X : zX) (G : zG) (o : Nat) : ((Int × zM) ⊕ (Int × zM)) → Prop := fun s => match s with
  | .inl (s) => zW X G 2 12 [some (zR o), some (zI s.1)] [] s.2
  | .inr (s) => zW X G 2 36 [some (zR o), some (zI s.1)] [] s.2
theorem k_R_clear_12 {X : zX} {G : zG} {o : Nat} {F : zM → Prop} {v1 : Int} {κ : zM} (h : zP (Sum.elim (k_R_clear X G o) F) (some (.inl (.inl ((v1, κ)))))) : zW X G 2 12 [some (zR o), some (zI v1)] [] κ := h
theorem k_R_clear_36 {X : zX} {G : zG} {o : Nat} {F : zM → Prop} {v1 : Int} {κ : zM} (h : zP (Sum.elim (k_R_clear X G o) F) (some (.inl (.inr ((v1, κ)))))) : zW X G 2 36 [some (zR o), some (zI v1)] [] κ := h
set_option maxRecDepth 100000 in
set_option maxHeartbeats 4000000 in
theorem w_R_clear_12 {X : zX} {G : zG} {o : Nat} {μ : zM} {rv : Option zV} {ν : zM} (hX : zOk X G cX1_clear RX1 2 none 1) (hF : zFin X G rv ν) (ho : zsh o = (0, 1)) {v1 : Int} (h : zP (Sum.elim (k_R_clear X G o) (fun r : zM => ((none : Option zV), r) = (rv, ν))) (b_R_clear_12 o v1 μ)) : zW X G 2 12 [some (zR o), some (zI v1)] [] μ := by
  refine zr_iload_n hX dX1_clear_12 rfl rfl ?_
  refine zr_aload_n hX dX1_clear_13 rfl rfl ?_
  refine zr_getr hX dX1_clear_14 (k := 2) (q := (o + 1)) ho rfl ww_125 rfl ?_
  refine zr_alen hX dX1_clear_17 (N := 5) (zkid_of zk_1_1 ho) rfl (zrl rfl) ?_
  refine zr_icmpge (tgt := 34) hX dX1_clear_18 rfl h (fun h => ?_) (fun h => ?_)
  · refine zr_iconst hX dX1_clear_34 (zrl rfl) ?_
    refine zr_istore_n hX dX1_clear_35 rfl (Nat.le_of_ble_eq_true rfl) ?_
    exact zW_lf (k_R_clear_36 h) (And.intro rfl (And.intro rfl trivial))
  · refine zr_aload_n hX dX1_clear_21 rfl rfl ?_
    refine zr_getr hX dX1_clear_22 (k := 2) (q := (o + 1)) ho rfl ww_125 rfl ?_
    refine zr_iload_n hX dX1_clear_25 rfl rfl ?_
    refine zr_iconst hX dX1_clear_26 (zrl rfl) ?_
    refine zr_iast (N := 5) hX dX1_clear_27 (zkid_of zk_1_1 ho) rfl h (fun h => ?_)
    refine zr_iinc hX dX1_clear_28 rfl (Nat.le_of_ble_eq_true rfl) ?_
    refine zr_goto hX dX1_clear_31 (tgt := 12) rfl ?_
    exact zW_lf (k_R_clear_12 h) (And.intro rfl (And.intro rfl trivial))
set_option maxRecDepth 100000 in
set_option maxHeartbeats 4000000 in
theorem w_R_clear_36 {X : zX} {G : zG} {o : Nat} {μ : zM} {rv : Option zV} {ν : zM} (hX : zOk X G cX1_clear RX1 2 none 1) (hF : zFin X G rv ν) (ho : zsh o = (0, 1)) {v1 : Int} (h : zP (Sum.elim (k_R_clear X G o) (fun r : zM => ((none : Option zV), r) = (rv, ν))) (b_R_clear_36 o v1 μ)) : zW X G 2 36 [some (zR o), some (zI v1)] [] μ := by
  refine zr_iload_n hX dX1_clear_36 rfl rfl ?_
  refine zr_aload_n hX dX1_clear_37 rfl rfl ?_
  refine zr_getr hX dX1_clear_38 (k := 3) (q := (o + 2)) ho rfl ww_126 rfl ?_
  refine zr_alen hX dX1_clear_41 (N := 30) (zkid_of zk_1_2 ho) rfl (zrl rfl) ?_
  refine zr_icmpge (tgt := 58) hX dX1_clear_42 rfl h (fun h => ?_) (fun h => ?_)
  · exact zr_vret hX dX1_clear_58 hF h
  · refine zr_aload_n hX dX1_clear_45 rfl rfl ?_
    refine zr_getr hX dX1_clear_46 (k := 3) (q := (o + 2)) ho rfl ww_126 rfl ?_
    refine zr_iload_n hX dX1_clear_49 rfl rfl ?_
    refine zr_iconst hX dX1_clear_50 (zrl rfl) ?_
    refine zr_iast (N := 30) hX dX1_clear_51 (zkid_of zk_1_2 ho) rfl h (fun h => ?_)
    refine zr_iinc hX dX1_clear_52 rfl (Nat.le_of_ble_eq_true rfl) ?_
    refine zr_goto hX dX1_clear_55 (tgt := 36) rfl ?_
    exact zW_lf (k_R_clear_36 h) (And.intro rfl (And.intro rfl trivial))
set_option maxRecDepth 100000 in
set_option maxHeartbeats 4000000 in
theorem w_R_clear_e {X : zX} {G : zG} {o : Nat} {μ : zM} {rv : Option zV} {ν : zM} (hX : zOk X G cX1_clear RX1 2 none 1) (hF : zFin X G rv ν) (ho : zsh o = (0, 1)) (h : zP (Sum.elim (k_R_clear X G o) (fun r : zM => ((none : Option zV), r) = (rv, ν))) (e_R_clear o μ)) : zW X G 2 0 [some (zR o), none] [] μ := by
  refine zr_aload_n hX dX1_clear_0 rfl rfl ?_
  refine zr_iconst hX dX1_clear_1 (zrl rfl) ?_
  refine zr_puti hX dX1_clear_2 (k := 0) ho rfl ww_123 rfl (by decide +kernel) ?_
  refine zr_aload_n hX dX1_clear_5 rfl rfl ?_
  refine zr_iconst hX dX1_clear_6 (zrl rfl) ?_
  refine zr_puti hX dX1_clear_7 (k := 1) ho rfl ww_124 rfl (by decide +kernel) ?_
  refine zr_iconst hX dX1_clear_10 (zrl rfl) ?_
  refine zr_istore_n hX dX1_clear_11 rfl (Nat.le_of_ble_eq_true rfl) ?_
  exact zW_lf (k_R_clear_12 h) (And.intro rfl (And.intro rfl trivial))
set_option maxRecDepth 100000 in
theorem m_R_clear {l : Launch} {G : zG} {o : Nat} {μ : zM} (ho : zsh o = (0, 1)) {q : zM} (hq : f_R_clear o μ = some q) : zCT l G yX1_clear cX1_clear 2 none 1 [zR o] μ (none) q := by
  refine zMet (lv := [some (zR o), none]) (k := 1) pl_X1 rfl (Nat.le_of_ble_eq_true rfl) (fun X hl hX hF _ _ => ?_)
  refine w_R_clear_e hX hF ho (zgo_K (r := q) (step := t_R_clear o) (fun s h => ?_) rfl hq)
  cases s with
  | inl s => exact w_R_clear_12 hX hF ho h
  | inr s => exact w_R_clear_36 hX hF ho h
set_option maxRecDepth 100000 in
set_option maxHeartbeats 4000000 in
theorem w_R_addTower_e {X : zX} {G : zG} {o : Nat} {μ : zM} {rv : Option zV} {ν : zM} (hX : zOk X G cX1_addTower RX1 1 (some .boolean) 1) (hF : zFin X G rv ν) (ho : zsh o = (0, 1)) (h : zP (fun r : (Int × zM) => (some (zI r.1), r.2) = (rv, ν)) (f_R_addTower o μ)) : zW X G 1 0 [some (zR o)] [] μ := by
  refine zr_aload_n hX dX1_addTower_0 rfl rfl ?_
  refine zr_geti hX dX1_addTower_1 (k := 0) ho rfl ww_123 ?_
  refine zr_iconst hX dX1_addTower_4 (zrl rfl) ?_
  refine zr_icmplt (tgt := 10) hX dX1_addTower_5 rfl h (fun h => ?_) (fun h => ?_)
  · refine zr_aload_n hX dX1_addTower_10 rfl rfl ?_
    refine zr_dup hX dX1_addTower_11 rfl ?_
    refine zr_geti hX dX1_addTower_12 (k := 0) ho rfl ww_123 ?_
    refine zr_iconst hX dX1_addTower_15 (zrl rfl) ?_
    refine zr_iadd hX dX1_addTower_16 ?_
    refine zr_puti hX dX1_addTower_17 (k := 0) ho rfl ww_123 rfl (by decide +kernel) ?_
    refine zr_iconst hX dX1_addTower_20 (zrl rfl) ?_
    exact zr_bretc hX dX1_addTower_21 hF (Or.inr rfl) h
  · refine zr_iconst hX dX1_addTower_8 (zrl rfl) ?_
    exact zr_bretc hX dX1_addTower_9 hF (Or.inl rfl) h
set_option maxRecDepth 100000 in
theorem m_R_addTower {l : Launch} {G : zG} {o : Nat} {μ : zM} (ho : zsh o = (0, 1)) {q : Int × zM} (hq : f_R_addTower o μ = some q) : zCT l G yX1_addTower cX1_addTower 1 (some .boolean) 1 [zR o] μ (some (zI q.1)) q.2 := by
  refine zMet (lv := [some (zR o)]) (k := 0) pl_X1 rfl (Nat.le_of_ble_eq_true rfl) (fun X hl hX hF _ _ => ?_)
  exact w_R_addTower_e hX hF ho (zP_of hq rfl)
set_option maxRecDepth 100000 in
set_option maxHeartbeats 4000000 in
theorem w_R_towerCount_e {X : zX} {G : zG} {o : Nat} {μ : zM} {rv : Option zV} {ν : zM} (hX : zOk X G cX1_towerCount RX1 1 (some .int) 1) (hF : zFin X G rv ν) (ho : zsh o = (0, 1)) (h : zP (fun r : Int => (some (zI r), μ) = (rv, ν)) (fo_R_towerCount o μ)) : zW X G 1 0 [some (zR o)] [] μ := by
  refine zr_aload_n hX dX1_towerCount_0 rfl rfl ?_
  refine zr_geti hX dX1_towerCount_1 (k := 0) ho rfl ww_123 ?_
  exact zr_iret hX dX1_towerCount_4 hF h
set_option maxRecDepth 100000 in
theorem m_R_towerCount {l : Launch} {G : zG} {o : Nat} {μ : zM} (ho : zsh o = (0, 1)) : zCT l G yX1_towerCount cX1_towerCount 1 (some .int) 1 [zR o] μ (some (zI (f_R_towerCount o μ))) μ := by
  refine zMet (lv := [some (zR o)]) (k := 0) pl_X1 rfl (Nat.le_of_ble_eq_true rfl) (fun X hl hX hF _ _ => ?_)
  exact w_R_towerCount_e hX hF ho (by rw [fo_R_towerCount_eq]; rfl)
def k_X_kindOfLetter (X : zX) (G : zG) (v0 : Int) (μ : zM) : Int → Prop := fun s => zW X G 2 2 [some (zI v0), some (zI s)] [] μ
theorem k_X_kindOfLetter_2 {X : zX} {G : zG} {v0 : Int} {μ : zM} {F : Int → Prop} {v1 : Int} (h : zP (Sum.elim (k_X_kindOfLetter X G v0 μ) F) (some (.inl (v1)))) : zW X G 2 2 [some (zI v0), some (zI v1)] [] μ := h
set_option maxRecDepth 100000 in
set_option maxHeartbeats 4000000 in
theorem w_X_kindOfLetter_2 {X : zX} {G : zG} {v0 : Int} {μ : zM} {rv : Option zV} {ν : zM} (hX : zOk X G cX5_kindOfLetter RX5 2 (some .int) 1) (hF : zFin X G rv ν) {v1 : Int} (h : zP (Sum.elim (k_X_kindOfLetter X G v0 μ) (fun r : Int => (some (zI r), μ) = (rv, ν))) (b_X_kindOfLetter_2 v0 v1 μ)) : zW X G 2 2 [some (zI v0), some (zI v1)] [] μ := by
  refine zr_iload_n hX dX5_kindOfLetter_2 rfl rfl ?_
  refine zr_gets hX dX5_kindOfLetter_3 (j := 0) (Nat.le_of_ble_eq_true rfl) ww_348 ?_
  refine zr_slen hX dX5_kindOfLetter_6 (N := 6) (Nat.le_of_ble_eq_true rfl) rfl (zrl rfl) ?_
  refine zr_icmpge (tgt := 27) hX dX5_kindOfLetter_7 rfl h (fun h => ?_) (fun h => ?_)
  · refine zr_iconst hX dX5_kindOfLetter_27 (zrl rfl) ?_
    exact zr_iret hX dX5_kindOfLetter_28 hF h
  · refine zr_gets hX dX5_kindOfLetter_10 (j := 0) (Nat.le_of_ble_eq_true rfl) ww_348 ?_
    refine zr_iload_n hX dX5_kindOfLetter_13 rfl rfl ?_
    refine zr_sald (j := 0) (N := 6) hX dX5_kindOfLetter_14 (Nat.le_of_ble_eq_true rfl) rfl h (fun h => ?_)
    refine zr_iload_n hX dX5_kindOfLetter_15 rfl rfl ?_
    refine zr_icmpne (tgt := 21) hX dX5_kindOfLetter_16 rfl h (fun h => ?_) (fun h => ?_)
    · refine zr_iinc hX dX5_kindOfLetter_21 rfl (Nat.le_of_ble_eq_true rfl) ?_
      refine zr_goto hX dX5_kindOfLetter_24 (tgt := 2) rfl ?_
      exact zW_lf (k_X_kindOfLetter_2 h) (And.intro rfl (And.intro rfl trivial))
    · refine zr_iload_n hX dX5_kindOfLetter_19 rfl rfl ?_
      exact zr_iret hX dX5_kindOfLetter_20 hF h
set_option maxRecDepth 100000 in
set_option maxHeartbeats 4000000 in
theorem w_X_kindOfLetter_e {X : zX} {G : zG} {v0 : Int} {μ : zM} {rv : Option zV} {ν : zM} (hX : zOk X G cX5_kindOfLetter RX5 2 (some .int) 1) (hF : zFin X G rv ν) (h : zP (Sum.elim (k_X_kindOfLetter X G v0 μ) (fun r : Int => (some (zI r), μ) = (rv, ν))) (e_X_kindOfLetter v0 μ)) : zW X G 2 0 [some (zI v0), none] [] μ := by
  refine zr_iconst hX dX5_kindOfLetter_0 (zrl rfl) ?_
  refine zr_istore_n hX dX5_kindOfLetter_1 rfl (Nat.le_of_ble_eq_true rfl) ?_
  exact zW_lf (k_X_kindOfLetter_2 h) (And.intro rfl (And.intro rfl trivial))
set_option maxRecDepth 100000 in
theorem m_X_kindOfLetter {l : Launch} {G : zG} {v0 : Int} {μ : zM} {q : Int} (hq : f_X_kindOfLetter v0 μ = some q) : zCT l G yX5_kindOfLetter cX5_kindOfLetter 2 (some .int) 1 [zI v0] μ (some (zI q)) μ := by
  refine zMet (lv := [some (zI v0), none]) (k := 1) pl_X5 rfl (Nat.le_of_ble_eq_true rfl) (fun X hl hX hF _ _ => ?_)
  refine w_X_kindOfLetter_e hX hF (zgo_K (r := q) (step := t_X_kindOfLetter v0 μ) (fun s h => ?_) rfl hq)
  exact w_X_kindOfLetter_2 hX hF h
set_option maxRecDepth 100000 in
set_option maxHeartbeats 4000000 in
theorem w_R_isTower_e {X : zX} {G : zG} {o : Nat} {v1 : Int} {μ : zM} {rv : Option zV} {ν : zM} (hX : zOk X G cX1_isTower RX1 2 (some .boolean) 1) (hF : zFin X G rv ν) (ho : zsh o = (0, 1)) (h : zP (fun r : Int => (some (zI r), μ) = (rv, ν)) (fo_R_isTower o v1 μ)) : zW X G 2 0 [some (zR o), some (zI v1)] [] μ := by
  refine zr_iload_n hX dX1_isTower_0 rfl rfl ?_
  refine zr_iflt (tgt := 16) hX dX1_isTower_1 rfl h (fun h => ?_) (fun h => ?_)
  · refine zr_iconst hX dX1_isTower_16 (zrl rfl) ?_
    exact zr_bretc hX dX1_isTower_17 hF (Or.inl rfl) h
  · refine zr_iload_n hX dX1_isTower_4 rfl rfl ?_
    refine zr_aload_n hX dX1_isTower_5 rfl rfl ?_
    refine zr_geti hX dX1_isTower_6 (k := 0) ho rfl ww_123 ?_
    refine zr_icmpge (tgt := 16) hX dX1_isTower_9 rfl h (fun h => ?_) (fun h => ?_)
    · refine zr_iconst hX dX1_isTower_16 (zrl rfl) ?_
      exact zr_bretc hX dX1_isTower_17 hF (Or.inl rfl) h
    · refine zr_iconst hX dX1_isTower_12 (zrl rfl) ?_
      refine zr_goto hX dX1_isTower_13 (tgt := 17) rfl ?_
      exact zr_bretc hX dX1_isTower_17 hF (Or.inr rfl) h
set_option maxRecDepth 100000 in
theorem m_R_isTower {l : Launch} {G : zG} {o : Nat} {v1 : Int} {μ : zM} (ho : zsh o = (0, 1)) : zCT l G yX1_isTower cX1_isTower 2 (some .boolean) 1 [zR o, zI v1] μ (some (zI (f_R_isTower o v1 μ))) μ := by
  refine zMet (lv := [some (zR o), some (zI v1)]) (k := 0) pl_X1 rfl (Nat.le_of_ble_eq_true rfl) (fun X hl hX hF _ _ => ?_)
  exact w_R_isTower_e hX hF ho (by rw [fo_R_isTower_eq]; rfl)
set_option maxRecDepth 100000 in
set_option maxHeartbeats 4000000 in
theorem w_R_heightOf_e {X : zX} {G : zG} {o : Nat} {v1 : Int} {μ : zM} {rv : Option zV} {ν : zM} (hX : zOk X G cX1_heightOf RX1 2 (some .int) 1) (hF : zFin X G rv ν) (ho : zsh o = (0, 1)) (h : zP (fun r : Int => (some (zI r), μ) = (rv, ν)) (f_R_heightOf o v1 μ)) : zW X G 2 0 [some (zR o), some (zI v1)] [] μ := by
  refine zr_iload_n hX dX1_heightOf_0 rfl rfl ?_
  refine zr_iflt (tgt := 22) hX dX1_heightOf_1 rfl h (fun h => ?_) (fun h => ?_)
  · refine zr_iconst hX dX1_heightOf_22 (zrl rfl) ?_
    exact zr_iret hX dX1_heightOf_23 hF h
  · refine zr_iload_n hX dX1_heightOf_4 rfl rfl ?_
    refine zr_aload_n hX dX1_heightOf_5 rfl rfl ?_
    refine zr_getr hX dX1_heightOf_6 (k := 2) (q := (o + 1)) ho rfl ww_125 rfl ?_
    refine zr_alen hX dX1_heightOf_9 (N := 5) (zkid_of zk_1_1 ho) rfl (zrl rfl) ?_
    refine zr_icmpge (tgt := 22) hX dX1_heightOf_10 rfl h (fun h => ?_) (fun h => ?_)
    · refine zr_iconst hX dX1_heightOf_22 (zrl rfl) ?_
      exact zr_iret hX dX1_heightOf_23 hF h
    · refine zr_aload_n hX dX1_heightOf_13 rfl rfl ?_
      refine zr_getr hX dX1_heightOf_14 (k := 2) (q := (o + 1)) ho rfl ww_125 rfl ?_
      refine zr_iload_n hX dX1_heightOf_17 rfl rfl ?_
      refine zr_iald (N := 5) hX dX1_heightOf_18 (zkid_of zk_1_1 ho) rfl h (fun h => ?_)
      refine zr_goto hX dX1_heightOf_19 (tgt := 23) rfl ?_
      exact zr_iret hX dX1_heightOf_23 hF h
set_option maxRecDepth 100000 in
theorem m_R_heightOf {l : Launch} {G : zG} {o : Nat} {v1 : Int} {μ : zM} (ho : zsh o = (0, 1)) {q : Int} (hq : f_R_heightOf o v1 μ = some q) : zCT l G yX1_heightOf cX1_heightOf 2 (some .int) 1 [zR o, zI v1] μ (some (zI q)) μ := by
  refine zMet (lv := [some (zR o), some (zI v1)]) (k := 0) pl_X1 rfl (Nat.le_of_ble_eq_true rfl) (fun X hl hX hF _ _ => ?_)
  exact w_R_heightOf_e hX hF ho (zP_of hq rfl)
set_option maxRecDepth 100000 in
set_option maxHeartbeats 4000000 in
theorem w_R_hasRoom_e {X : zX} {G : zG} {o : Nat} {v1 : Int} {μ : zM} {rv : Option zV} {ν : zM} (hX : zOk X G cX1_hasRoom RX1 2 (some .boolean) 2) (hF : zFin X G rv ν) (ho : zsh o = (0, 1)) (h : zP (fun r : Int => (some (zI r), μ) = (rv, ν)) (f_R_hasRoom o v1 μ)) : zW X G 2 0 [some (zR o), some (zI v1)] [] μ := by
  refine zr_aload_n hX dX1_hasRoom_0 rfl rfl ?_
  refine zr_iload_n hX dX1_hasRoom_1 rfl rfl ?_
  refine zr_callV hX dX1_hasRoom_2 (m_R_isTower ho) ho rfl rfl (z5 ww_354 ww_355 ww_356 ww_74 ww_357) hy_X1_isTower rfl (Nat.le_of_ble_eq_true rfl) (Nat.le_of_ble_eq_true rfl) (Nat.le_of_ble_eq_true rfl) ?_
  refine zr_ifeq (tgt := 31) hX dX1_hasRoom_5 rfl h (fun h => ?_) (fun h => ?_)
  · refine zr_iconst hX dX1_hasRoom_31 (zrl rfl) ?_
    exact zr_bretc hX dX1_hasRoom_32 hF (Or.inl rfl) h
  · refine zr_aload_n hX dX1_hasRoom_8 rfl rfl ?_
    refine zr_iload_n hX dX1_hasRoom_9 rfl rfl ?_
    refine zP_bind h (fun q1 hq1 h => ?_)
    refine zr_callV hX dX1_hasRoom_10 (m_R_heightOf ho hq1) ho rfl rfl (z5 ww_358 ww_359 ww_360 ww_74 ww_361) hy_X1_heightOf rfl (Nat.le_of_ble_eq_true rfl) (Nat.le_of_ble_eq_true rfl) (Nat.le_of_ble_eq_true rfl) ?_
    refine zr_bipush hX dX1_hasRoom_13 rfl ?_
    refine zr_icmpge (tgt := 31) hX dX1_hasRoom_15 rfl h (fun h => ?_) (fun h => ?_)
    · refine zr_iconst hX dX1_hasRoom_31 (zrl rfl) ?_
      exact zr_bretc hX dX1_hasRoom_32 hF (Or.inl rfl) h
    · refine zr_aload_n hX dX1_hasRoom_18 rfl rfl ?_
      refine zr_geti hX dX1_hasRoom_19 (k := 1) ho rfl ww_124 ?_
      refine zr_bipush hX dX1_hasRoom_22 rfl ?_
      refine zr_icmpge (tgt := 31) hX dX1_hasRoom_24 rfl h (fun h => ?_) (fun h => ?_)
      · refine zr_iconst hX dX1_hasRoom_31 (zrl rfl) ?_
        exact zr_bretc hX dX1_hasRoom_32 hF (Or.inl rfl) h
      · refine zr_iconst hX dX1_hasRoom_27 (zrl rfl) ?_
        refine zr_goto hX dX1_hasRoom_28 (tgt := 32) rfl ?_
        exact zr_bretc hX dX1_hasRoom_32 hF (Or.inr rfl) h
set_option maxRecDepth 100000 in
theorem m_R_hasRoom {l : Launch} {G : zG} {o : Nat} {v1 : Int} {μ : zM} (ho : zsh o = (0, 1)) {q : Int} (hq : f_R_hasRoom o v1 μ = some q) : zCT l G yX1_hasRoom cX1_hasRoom 2 (some .boolean) 2 [zR o, zI v1] μ (some (zI q)) μ := by
  refine zMet (lv := [some (zR o), some (zI v1)]) (k := 0) pl_X1 rfl (Nat.le_of_ble_eq_true rfl) (fun X hl hX hF _ _ => ?_)
  exact w_R_hasRoom_e hX hF ho (zP_of hq rfl)
set_option maxRecDepth 100000 in
set_option maxHeartbeats 4000000 in
theorem w_X_isBorne_e {X : zX} {G : zG} {v0 : Int} {μ : zM} {rv : Option zV} {ν : zM} (hX : zOk X G cX5_isBorne RX5 1 (some .boolean) 1) (hF : zFin X G rv ν) (h : zP (fun r : Int => (some (zI r), μ) = (rv, ν)) (fo_X_isBorne v0)) : zW X G 1 0 [some (zI v0)] [] μ := by
  refine zr_iload_n hX dX5_isBorne_0 rfl rfl ?_
  refine zr_iflt (tgt := 14) hX dX5_isBorne_1 rfl h (fun h => ?_) (fun h => ?_)
  · refine zr_iconst hX dX5_isBorne_14 (zrl rfl) ?_
    exact zr_bretc hX dX5_isBorne_15 hF (Or.inl rfl) h
  · refine zr_iload_n hX dX5_isBorne_4 rfl rfl ?_
    refine zr_bipush hX dX5_isBorne_5 rfl ?_
    refine zr_icmpgt (tgt := 14) hX dX5_isBorne_7 rfl h (fun h => ?_) (fun h => ?_)
    · refine zr_iconst hX dX5_isBorne_14 (zrl rfl) ?_
      exact zr_bretc hX dX5_isBorne_15 hF (Or.inl rfl) h
    · refine zr_iconst hX dX5_isBorne_10 (zrl rfl) ?_
      refine zr_goto hX dX5_isBorne_11 (tgt := 15) rfl ?_
      exact zr_bretc hX dX5_isBorne_15 hF (Or.inr rfl) h
set_option maxRecDepth 100000 in
theorem m_X_isBorne {l : Launch} {G : zG} {v0 : Int} {μ : zM} : zCT l G yX5_isBorne cX5_isBorne 1 (some .boolean) 1 [zI v0] μ (some (zI (f_X_isBorne v0))) μ := by
  refine zMet (lv := [some (zI v0)]) (k := 0) pl_X5 rfl (Nat.le_of_ble_eq_true rfl) (fun X hl hX hF _ _ => ?_)
  exact w_X_isBorne_e hX hF (by rw [fo_X_isBorne_eq]; rfl)
set_option maxRecDepth 100000 in
set_option maxHeartbeats 4000000 in
theorem w_R_has_e {X : zX} {G : zG} {o : Nat} {v1 : Int} {v2 : Int} {μ : zM} {rv : Option zV} {ν : zM} (hX : zOk X G cX1_has RX1 3 (some .boolean) 1) (hF : zFin X G rv ν) (ho : zsh o = (0, 1)) (h : zP (fun r : Int => (some (zI r), μ) = (rv, ν)) (f_R_has o v1 v2 μ)) : zW X G 3 0 [some (zR o), some (zI v1), some (zI v2)] [] μ := by
  refine zr_iload_n hX dX1_has_0 rfl rfl ?_
  refine zr_iflt (tgt := 31) hX dX1_has_1 rfl h (fun h => ?_) (fun h => ?_)
  · refine zr_iconst hX dX1_has_31 (zrl rfl) ?_
    exact zr_bretc hX dX1_has_32 hF (Or.inl rfl) h
  · refine zr_iload_n hX dX1_has_4 rfl rfl ?_
    refine zr_aload_n hX dX1_has_5 rfl rfl ?_
    refine zr_getr hX dX1_has_6 (k := 2) (q := (o + 1)) ho rfl ww_125 rfl ?_
    refine zr_alen hX dX1_has_9 (N := 5) (zkid_of zk_1_1 ho) rfl (zrl rfl) ?_
    refine zr_icmpge (tgt := 31) hX dX1_has_10 rfl h (fun h => ?_) (fun h => ?_)
    · refine zr_iconst hX dX1_has_31 (zrl rfl) ?_
      exact zr_bretc hX dX1_has_32 hF (Or.inl rfl) h
    · refine zr_iload_n hX dX1_has_13 rfl rfl ?_
      refine zr_iflt (tgt := 31) hX dX1_has_14 rfl h (fun h => ?_) (fun h => ?_)
      · refine zr_iconst hX dX1_has_31 (zrl rfl) ?_
        exact zr_bretc hX dX1_has_32 hF (Or.inl rfl) h
      · refine zr_iload_n hX dX1_has_17 rfl rfl ?_
        refine zr_aload_n hX dX1_has_18 rfl rfl ?_
        refine zr_getr hX dX1_has_19 (k := 2) (q := (o + 1)) ho rfl ww_125 rfl ?_
        refine zr_iload_n hX dX1_has_22 rfl rfl ?_
        refine zr_iald (N := 5) hX dX1_has_23 (zkid_of zk_1_1 ho) rfl h (fun h => ?_)
        refine zr_icmpge (tgt := 31) hX dX1_has_24 rfl h (fun h => ?_) (fun h => ?_)
        · refine zr_iconst hX dX1_has_31 (zrl rfl) ?_
          exact zr_bretc hX dX1_has_32 hF (Or.inl rfl) h
        · refine zr_iconst hX dX1_has_27 (zrl rfl) ?_
          refine zr_goto hX dX1_has_28 (tgt := 32) rfl ?_
          exact zr_bretc hX dX1_has_32 hF (Or.inr rfl) h
set_option maxRecDepth 100000 in
theorem m_R_has {l : Launch} {G : zG} {o : Nat} {v1 : Int} {v2 : Int} {μ : zM} (ho : zsh o = (0, 1)) {q : Int} (hq : f_R_has o v1 v2 μ = some q) : zCT l G yX1_has cX1_has 3 (some .boolean) 1 [zR o, zI v1, zI v2] μ (some (zI q)) μ := by
  refine zMet (lv := [some (zR o), some (zI v1), some (zI v2)]) (k := 0) pl_X1 rfl (Nat.le_of_ble_eq_true rfl) (fun X hl hX hF _ _ => ?_)
  exact w_R_has_e hX hF ho (zP_of hq rfl)
set_option maxRecDepth 100000 in
set_option maxHeartbeats 4000000 in
theorem w_R_change_e {X : zX} {G : zG} {o : Nat} {v1 : Int} {v2 : Int} {v3 : Int} {v4 : Int} {μ : zM} {rv : Option zV} {ν : zM} (hX : zOk X G cX1_change RX1 5 none 2) (hF : zFin X G rv ν) (ho : zsh o = (0, 1)) (h : zP (fun r : zM => ((none : Option zV), r) = (rv, ν)) (f_R_change o v1 v2 v3 v4 μ)) : zW X G 5 0 [some (zR o), some (zI v1), some (zI v2), some (zI v3), some (zI v4)] [] μ := by
  refine zr_aload_n hX dX1_change_0 rfl rfl ?_
  refine zr_iload_n hX dX1_change_1 rfl rfl ?_
  refine zr_iload_n hX dX1_change_2 rfl rfl ?_
  refine zP_bind h (fun q1 hq1 h => ?_)
  refine zr_callV hX dX1_change_3 (m_R_has ho hq1) ho rfl rfl (z5 ww_374 ww_375 ww_376 ww_74 ww_377) hy_X1_has rfl (Nat.le_of_ble_eq_true rfl) (Nat.le_of_ble_eq_true rfl) (Nat.le_of_ble_eq_true rfl) ?_
  refine zr_ifeq (tgt := 29) hX dX1_change_6 rfl h (fun h => ?_) (fun h => ?_)
  · exact zr_vret hX dX1_change_29 hF h
  · refine zr_aload_n hX dX1_change_9 rfl rfl ?_
    refine zr_getr hX dX1_change_10 (k := 3) (q := (o + 2)) ho rfl ww_126 rfl ?_
    refine zr_iload_n hX dX1_change_13 rfl rfl ?_
    refine zr_bipush hX dX1_change_14 rfl ?_
    refine zr_imul hX dX1_change_16 ?_
    refine zr_iload_n hX dX1_change_17 rfl rfl ?_
    refine zr_iadd hX dX1_change_18 ?_
    refine zr_bipush hX dX1_change_19 rfl ?_
    refine zr_iload_n hX dX1_change_21 rfl rfl ?_
    refine zr_imul hX dX1_change_22 ?_
    refine zr_iload hX dX1_change_23 rfl ?_
    refine zr_iadd hX dX1_change_25 ?_
    refine zr_iconst hX dX1_change_26 (zrl rfl) ?_
    refine zr_iadd hX dX1_change_27 ?_
    refine zr_iast (N := 30) hX dX1_change_28 (zkid_of zk_1_2 ho) rfl h (fun h => ?_)
    exact zr_vret hX dX1_change_29 hF h
set_option maxRecDepth 100000 in
theorem m_R_change {l : Launch} {G : zG} {o : Nat} {v1 : Int} {v2 : Int} {v3 : Int} {v4 : Int} {μ : zM} (ho : zsh o = (0, 1)) {q : zM} (hq : f_R_change o v1 v2 v3 v4 μ = some q) : zCT l G yX1_change cX1_change 5 none 2 [zR o, zI v1, zI v2, zI v3, zI v4] μ (none) q := by
  refine zMet (lv := [some (zR o), some (zI v1), some (zI v2), some (zI v3), some (zI v4)]) (k := 0) pl_X1 rfl (Nat.le_of_ble_eq_true rfl) (fun X hl hX hF _ _ => ?_)
  exact w_R_change_e hX hF ho (zP_of hq rfl)
set_option maxRecDepth 100000 in
set_option maxHeartbeats 4000000 in
theorem w_R_push_e {X : zX} {G : zG} {o : Nat} {v1 : Int} {v2 : Int} {v3 : Int} {μ : zM} {rv : Option zV} {ν : zM} (hX : zOk X G cX1_push RX1 4 (some .boolean) 3) (hF : zFin X G rv ν) (ho : zsh o = (0, 1)) (h : zP (fun r : (Int × zM) => (some (zI r.1), r.2) = (rv, ν)) (f_R_push o v1 v2 v3 μ)) : zW X G 4 0 [some (zR o), some (zI v1), some (zI v2), some (zI v3)] [] μ := by
  refine zr_aload_n hX dX1_push_0 rfl rfl ?_
  refine zr_iload_n hX dX1_push_1 rfl rfl ?_
  refine zP_bind h (fun q1 hq1 h => ?_)
  refine zr_callV hX dX1_push_2 (m_R_hasRoom ho hq1) ho rfl rfl (z5 ww_369 ww_351 ww_352 ww_74 ww_353) hy_X1_hasRoom rfl (Nat.le_of_ble_eq_true rfl) (Nat.le_of_ble_eq_true rfl) (Nat.le_of_ble_eq_true rfl) ?_
  refine zr_ifne (tgt := 10) hX dX1_push_5 rfl h (fun h => ?_) (fun h => ?_)
  · refine zr_aload_n hX dX1_push_10 rfl rfl ?_
    refine zr_getr hX dX1_push_11 (k := 2) (q := (o + 1)) ho rfl ww_125 rfl ?_
    refine zr_iload_n hX dX1_push_14 rfl rfl ?_
    refine zr_dup2 hX dX1_push_15 rfl rfl ?_
    refine zr_iald (N := 5) hX dX1_push_16 (zkid_of zk_1_1 ho) rfl h (fun h => ?_)
    refine zr_iconst hX dX1_push_17 (zrl rfl) ?_
    refine zr_iadd hX dX1_push_18 ?_
    refine zr_iast (N := 5) hX dX1_push_19 (zkid_of zk_1_1 ho) rfl h (fun h => ?_)
    refine zr_aload_n hX dX1_push_20 rfl rfl ?_
    refine zr_dup hX dX1_push_21 rfl ?_
    refine zr_geti hX dX1_push_22 (k := 1) ho rfl ww_124 ?_
    refine zr_iconst hX dX1_push_25 (zrl rfl) ?_
    refine zr_iadd hX dX1_push_26 ?_
    refine zr_puti hX dX1_push_27 (k := 1) ho rfl ww_124 rfl (by decide +kernel) ?_
    refine zr_aload_n hX dX1_push_30 rfl rfl ?_
    refine zr_iload_n hX dX1_push_31 rfl rfl ?_
    refine zr_aload_n hX dX1_push_32 rfl rfl ?_
    refine zr_getr hX dX1_push_33 (k := 2) (q := (o + 1)) ho rfl ww_125 rfl ?_
    refine zr_iload_n hX dX1_push_36 rfl rfl ?_
    refine zr_iald (N := 5) hX dX1_push_37 (zkid_of zk_1_1 ho) rfl h (fun h => ?_)
    refine zr_iconst hX dX1_push_38 (zrl rfl) ?_
    refine zr_isub hX dX1_push_39 ?_
    refine zr_iload_n hX dX1_push_40 rfl rfl ?_
    refine zr_iload_n hX dX1_push_41 rfl rfl ?_
    refine zP_bind h (fun q2 hq2 h => ?_)
    refine zr_callV hX dX1_push_42 (m_R_change ho hq2) ho rfl rfl (z5 ww_370 ww_371 ww_372 ww_74 ww_373) hy_X1_change rfl (Nat.le_of_ble_eq_true rfl) (Nat.le_of_ble_eq_true rfl) (Nat.le_of_ble_eq_true rfl) ?_
    refine zr_iconst hX dX1_push_45 (zrl rfl) ?_
    exact zr_bretc hX dX1_push_46 hF (Or.inr rfl) h
  · refine zr_iconst hX dX1_push_8 (zrl rfl) ?_
    exact zr_bretc hX dX1_push_9 hF (Or.inl rfl) h
set_option maxRecDepth 100000 in
theorem m_R_push {l : Launch} {G : zG} {o : Nat} {v1 : Int} {v2 : Int} {v3 : Int} {μ : zM} (ho : zsh o = (0, 1)) {q : Int × zM} (hq : f_R_push o v1 v2 v3 μ = some q) : zCT l G yX1_push cX1_push 4 (some .boolean) 3 [zR o, zI v1, zI v2, zI v3] μ (some (zI q.1)) q.2 := by
  refine zMet (lv := [some (zR o), some (zI v1), some (zI v2), some (zI v3)]) (k := 0) pl_X1 rfl (Nat.le_of_ble_eq_true rfl) (fun X hl hX hF _ _ => ?_)
  exact w_R_push_e hX hF ho (zP_of hq rfl)
def k_X_readAside (X : zX) (G : zG) (v1 : Int) : (Int × Int × zM) → Prop := fun s => zW X G 8 18 [some (zR 0), some (zI v1), some (zI s.1), some (zI s.2.1), none, none, none, none] [] s.2.2
theorem k_X_readAside_18 {X : zX} {G : zG} {v1 : Int} {F : (Int × zM) → Prop} {v2 v3 : Int} {κ : zM} (h : zP (Sum.elim (k_X_readAside X G v1) F) (some (.inl ((v2, v3, κ))))) : zW X G 8 18 [some (zR 0), some (zI v1), some (zI v2), some (zI v3), none, none, none, none] [] κ := h
set_option maxRecDepth 100000 in
set_option maxHeartbeats 4000000 in
theorem w_X_readAside_53 {X : zX} {G : zG} {v1 : Int} {μ : zM} {rv : Option zV} {ν : zM} (hX : zOk X G cX5_readAside RX5 8 (some .int) 5) (hF : zFin X G rv ν) {v2 v3 v4 : Int} (h : zP (Sum.elim (k_X_readAside X G v1) (fun r : (Int × zM) => (some (zI r.1), r.2) = (rv, ν))) (j_X_readAside_53 v1 v2 v3 v4 μ)) : zW X G 8 53 [some (zR 0), some (zI v1), some (zI v2), some (zI v3), some (zI v4), none, none, none] [] μ := by
  refine zr_iload hX dX5_readAside_53 rfl ?_
  refine zr_bipush hX dX5_readAside_55 rfl ?_
  refine zr_icmpeq (tgt := 67) hX dX5_readAside_57 rfl h (fun h => ?_) (fun h => ?_)
  · refine zr_iinc hX dX5_readAside_67 rfl (Nat.le_of_ble_eq_true rfl) ?_
    refine zr_goto hX dX5_readAside_70 (tgt := 18) rfl ?_
    exact zW_lf (k_X_readAside_18 h) (And.intro rfl (And.intro rfl (And.intro rfl (And.intro rfl trivial))))
  · refine zr_iload hX dX5_readAside_60 rfl ?_
    refine zr_bipush hX dX5_readAside_62 rfl ?_
    refine zr_icmpne (tgt := 73) hX dX5_readAside_64 rfl h (fun h => ?_) (fun h => ?_)
    · refine zr_aload_n hX dX5_readAside_73 rfl rfl ?_
      refine zr_getr hX dX5_readAside_74 (k := 4) (q := 13) rfl rfl ww_203 rfl ?_
      refine zr_callV hX dX5_readAside_77 (m_R_towerCount rfl) rfl rfl rfl (z5 ww_341 ww_342 ww_343 ww_74 ww_344) hy_X1_towerCount rfl (Nat.le_of_ble_eq_true rfl) (Nat.le_of_ble_eq_true rfl) (Nat.le_of_ble_eq_true rfl) ?_
      refine zr_iconst hX dX5_readAside_80 (zrl rfl) ?_
      refine zr_isub hX dX5_readAside_81 ?_
      refine zr_istore hX dX5_readAside_82 (Nat.le_of_ble_eq_true rfl) ?_
      refine zr_iload hX dX5_readAside_84 rfl ?_
      refine zP_bind h (fun q5 hq5 h => ?_)
      refine zr_callS hX dX5_readAside_86 (m_X_kindOfLetter hq5) rfl (z4 ww_345 ww_346 ww_70 ww_347) hy_X5_kindOfLetter rfl (Nat.le_of_ble_eq_true rfl) (Nat.le_of_ble_eq_true rfl) (Nat.le_of_ble_eq_true rfl) ?_
      refine zr_istore hX dX5_readAside_89 (Nat.le_of_ble_eq_true rfl) ?_
      refine zr_iload hX dX5_readAside_91 rfl ?_
      refine zr_iconst hX dX5_readAside_93 (zrl rfl) ?_
      refine zr_icmpeq (tgt := 109) hX dX5_readAside_94 rfl h (fun h => ?_) (fun h => ?_)
      · refine zr_iload_n hX dX5_readAside_109 rfl rfl ?_
        exact zr_iret hX dX5_readAside_110 hF h
      · refine zr_aload_n hX dX5_readAside_97 rfl rfl ?_
        refine zr_getr hX dX5_readAside_98 (k := 4) (q := 13) rfl rfl ww_203 rfl ?_
        refine zr_iload hX dX5_readAside_101 rfl ?_
        refine zP_bind h (fun q6 hq6 h => ?_)
        refine zr_callV hX dX5_readAside_103 (m_R_hasRoom rfl hq6) rfl rfl rfl (z5 ww_350 ww_351 ww_352 ww_74 ww_353) hy_X1_hasRoom rfl (Nat.le_of_ble_eq_true rfl) (Nat.le_of_ble_eq_true rfl) (Nat.le_of_ble_eq_true rfl) ?_
        refine zr_ifne (tgt := 111) hX dX5_readAside_106 rfl h (fun h => ?_) (fun h => ?_)
        · refine zr_aload_n hX dX5_readAside_111 rfl rfl ?_
          refine zr_getr hX dX5_readAside_112 (k := 1) (q := 4) rfl rfl ww_200 rfl ?_
          refine zr_iload_n hX dX5_readAside_115 rfl rfl ?_
          refine zr_iload_n hX dX5_readAside_116 rfl rfl ?_
          refine zr_iconst hX dX5_readAside_117 (zrl rfl) ?_
          refine zr_iadd hX dX5_readAside_118 ?_
          refine zP_bind h (fun q7 hq7 h => ?_)
          refine zr_callV hX dX5_readAside_119 (m_S_get rfl hq7) rfl rfl rfl (z5 ww_274 ww_275 ww_276 ww_71 ww_277) hy_X3_get rfl (Nat.le_of_ble_eq_true rfl) (Nat.le_of_ble_eq_true rfl) (Nat.le_of_ble_eq_true rfl) ?_
          refine zr_bipush hX dX5_readAside_122 rfl ?_
          refine zr_isub hX dX5_readAside_124 ?_
          refine zr_istore hX dX5_readAside_125 (Nat.le_of_ble_eq_true rfl) ?_
          refine zr_iload_n hX dX5_readAside_127 rfl rfl ?_
          refine zr_iconst hX dX5_readAside_128 (zrl rfl) ?_
          refine zr_iadd hX dX5_readAside_129 ?_
          refine zr_iload_n hX dX5_readAside_130 rfl rfl ?_
          refine zr_icmpge (tgt := 142) hX dX5_readAside_131 rfl h (fun h => ?_) (fun h => ?_)
          · refine zr_iload_n hX dX5_readAside_142 rfl rfl ?_
            refine zr_iconst hX dX5_readAside_143 (zrl rfl) ?_
            refine zr_iadd hX dX5_readAside_144 ?_
            exact zr_iret hX dX5_readAside_145 hF h
          · refine zr_iload hX dX5_readAside_134 rfl ?_
            refine zr_callS hX dX5_readAside_136 (m_X_isBorne) rfl (z4 ww_362 ww_363 ww_70 ww_364) hy_X5_isBorne rfl (Nat.le_of_ble_eq_true rfl) (Nat.le_of_ble_eq_true rfl) (Nat.le_of_ble_eq_true rfl) ?_
            refine zr_ifne (tgt := 146) hX dX5_readAside_139 rfl h (fun h => ?_) (fun h => ?_)
            · refine zr_aload_n hX dX5_readAside_146 rfl rfl ?_
              refine zr_getr hX dX5_readAside_147 (k := 4) (q := 13) rfl rfl ww_203 rfl ?_
              refine zr_iload hX dX5_readAside_150 rfl ?_
              refine zr_iload hX dX5_readAside_152 rfl ?_
              refine zr_iload hX dX5_readAside_154 rfl ?_
              refine zP_bind h (fun q8 hq8 h => ?_)
              refine zr_callV hX dX5_readAside_156 (m_R_push rfl hq8) rfl rfl rfl (z5 ww_365 ww_366 ww_367 ww_74 ww_368) hy_X1_push rfl (Nat.le_of_ble_eq_true rfl) (Nat.le_of_ble_eq_true rfl) (Nat.le_of_ble_eq_true rfl) ?_
              refine zr_pop hX dX5_readAside_159 rfl ?_
              refine zr_iinc hX dX5_readAside_160 rfl (Nat.le_of_ble_eq_true rfl) ?_
              refine zr_goto hX dX5_readAside_163 (tgt := 18) rfl ?_
              exact zW_lf (k_X_readAside_18 h) (And.intro rfl (And.intro rfl (And.intro rfl (And.intro rfl trivial))))
            · refine zr_iload_n hX dX5_readAside_142 rfl rfl ?_
              refine zr_iconst hX dX5_readAside_143 (zrl rfl) ?_
              refine zr_iadd hX dX5_readAside_144 ?_
              exact zr_iret hX dX5_readAside_145 hF h
        · refine zr_iload_n hX dX5_readAside_109 rfl rfl ?_
          exact zr_iret hX dX5_readAside_110 hF h
    · refine zr_iinc hX dX5_readAside_67 rfl (Nat.le_of_ble_eq_true rfl) ?_
      refine zr_goto hX dX5_readAside_70 (tgt := 18) rfl ?_
      exact zW_lf (k_X_readAside_18 h) (And.intro rfl (And.intro rfl (And.intro rfl (And.intro rfl trivial))))
set_option maxRecDepth 100000 in
set_option maxHeartbeats 4000000 in
theorem w_X_readAside_18 {X : zX} {G : zG} {v1 : Int} {μ : zM} {rv : Option zV} {ν : zM} (hX : zOk X G cX5_readAside RX5 8 (some .int) 5) (hF : zFin X G rv ν) {v2 v3 : Int} (h : zP (Sum.elim (k_X_readAside X G v1) (fun r : (Int × zM) => (some (zI r.1), r.2) = (rv, ν))) (b_X_readAside_18 v1 v2 v3 μ)) : zW X G 8 18 [some (zR 0), some (zI v1), some (zI v2), some (zI v3), none, none, none, none] [] μ := by
  refine zr_iload_n hX dX5_readAside_18 rfl rfl ?_
  refine zr_iload_n hX dX5_readAside_19 rfl rfl ?_
  refine zr_icmpge (tgt := 166) hX dX5_readAside_20 rfl h (fun h => ?_) (fun h => ?_)
  · refine zr_aload_n hX dX5_readAside_166 rfl rfl ?_
    refine zr_getr hX dX5_readAside_167 (k := 4) (q := 13) rfl rfl ww_203 rfl ?_
    refine zr_callV hX dX5_readAside_170 (m_R_towerCount rfl) rfl rfl rfl (z5 ww_341 ww_342 ww_343 ww_74 ww_344) hy_X1_towerCount rfl (Nat.le_of_ble_eq_true rfl) (Nat.le_of_ble_eq_true rfl) (Nat.le_of_ble_eq_true rfl) ?_
    refine zr_ifne (tgt := 180) hX dX5_readAside_173 rfl h (fun h => ?_) (fun h => ?_)
    · refine zr_bipush hX dX5_readAside_180 rfl ?_
      exact zr_iret hX dX5_readAside_182 hF h
    · refine zr_iload_n hX dX5_readAside_176 rfl rfl ?_
      refine zr_goto hX dX5_readAside_177 (tgt := 182) rfl ?_
      exact zr_iret hX dX5_readAside_182 hF h
  · refine zr_aload_n hX dX5_readAside_23 rfl rfl ?_
    refine zr_getr hX dX5_readAside_24 (k := 1) (q := 4) rfl rfl ww_200 rfl ?_
    refine zr_iload_n hX dX5_readAside_27 rfl rfl ?_
    refine zr_iload_n hX dX5_readAside_28 rfl rfl ?_
    refine zP_bind h (fun q3 hq3 h => ?_)
    refine zr_callV hX dX5_readAside_29 (m_S_get rfl hq3) rfl rfl rfl (z5 ww_274 ww_275 ww_276 ww_71 ww_277) hy_X3_get rfl (Nat.le_of_ble_eq_true rfl) (Nat.le_of_ble_eq_true rfl) (Nat.le_of_ble_eq_true rfl) ?_
    refine zr_istore hX dX5_readAside_32 (Nat.le_of_ble_eq_true rfl) ?_
    refine zr_iload hX dX5_readAside_34 rfl ?_
    refine zr_bipush hX dX5_readAside_36 rfl ?_
    refine zr_icmpne (tgt := 53) hX dX5_readAside_38 rfl h (fun h => ?_) (fun h => ?_)
    · exact zW_lf (w_X_readAside_53 hX hF h) (And.intro rfl (And.intro rfl (And.intro rfl (And.intro rfl (And.intro rfl trivial)))))
    · refine zr_aload_n hX dX5_readAside_41 rfl rfl ?_
      refine zr_getr hX dX5_readAside_42 (k := 4) (q := 13) rfl rfl ww_203 rfl ?_
      refine zP_bind h (fun q4 hq4 h => ?_)
      refine zr_callV hX dX5_readAside_45 (m_R_addTower rfl hq4) rfl rfl rfl (z5 ww_337 ww_338 ww_339 ww_74 ww_340) hy_X1_addTower rfl (Nat.le_of_ble_eq_true rfl) (Nat.le_of_ble_eq_true rfl) (Nat.le_of_ble_eq_true rfl) ?_
      refine zr_ifne (tgt := 53) hX dX5_readAside_48 rfl h (fun h => ?_) (fun h => ?_)
      · exact zW_lf (w_X_readAside_53 hX hF h) (And.intro rfl (And.intro rfl (And.intro rfl (And.intro rfl (And.intro rfl trivial)))))
      · refine zr_iload_n hX dX5_readAside_51 rfl rfl ?_
        exact zr_iret hX dX5_readAside_52 hF h
set_option maxRecDepth 100000 in
set_option maxHeartbeats 4000000 in
theorem w_X_readAside_e {X : zX} {G : zG} {v1 : Int} {μ : zM} {rv : Option zV} {ν : zM} (hX : zOk X G cX5_readAside RX5 8 (some .int) 5) (hF : zFin X G rv ν) (h : zP (Sum.elim (k_X_readAside X G v1) (fun r : (Int × zM) => (some (zI r.1), r.2) = (rv, ν))) (e_X_readAside v1 μ)) : zW X G 8 0 [some (zR 0), some (zI v1), none, none, none, none, none, none] [] μ := by
  refine zr_aload_n hX dX5_readAside_0 rfl rfl ?_
  refine zr_getr hX dX5_readAside_1 (k := 1) (q := 4) rfl rfl ww_200 rfl ?_
  refine zr_iload_n hX dX5_readAside_4 rfl rfl ?_
  refine zP_bind h (fun q1 hq1 h => ?_)
  refine zr_callV hX dX5_readAside_5 (m_S_sizeOf rfl hq1) rfl rfl rfl (z5 ww_311 ww_262 ww_263 ww_71 ww_264) hy_X3_sizeOf rfl (Nat.le_of_ble_eq_true rfl) (Nat.le_of_ble_eq_true rfl) (Nat.le_of_ble_eq_true rfl) ?_
  refine zr_istore_n hX dX5_readAside_8 rfl (Nat.le_of_ble_eq_true rfl) ?_
  refine zr_aload_n hX dX5_readAside_9 rfl rfl ?_
  refine zr_getr hX dX5_readAside_10 (k := 4) (q := 13) rfl rfl ww_203 rfl ?_
  refine zP_bind h (fun q2 hq2 h => ?_)
  refine zr_callV hX dX5_readAside_13 (m_R_clear rfl hq2) rfl rfl rfl (z5 ww_333 ww_334 ww_335 ww_74 ww_336) hy_X1_clear rfl (Nat.le_of_ble_eq_true rfl) (Nat.le_of_ble_eq_true rfl) (Nat.le_of_ble_eq_true rfl) ?_
  refine zr_iconst hX dX5_readAside_16 (zrl rfl) ?_
  refine zr_istore_n hX dX5_readAside_17 rfl (Nat.le_of_ble_eq_true rfl) ?_
  exact zW_lf (k_X_readAside_18 h) (And.intro rfl (And.intro rfl (And.intro rfl (And.intro rfl trivial))))
set_option maxRecDepth 100000 in
theorem m_X_readAside {l : Launch} {G : zG} {v1 : Int} {μ : zM} {q : Int × zM} (hq : f_X_readAside v1 μ = some q) : zCT l G yX5_readAside cX5_readAside 8 (some .int) 5 [zR 0, zI v1] μ (some (zI q.1)) q.2 := by
  refine zMet (lv := [some (zR 0), some (zI v1), none, none, none, none, none, none]) (k := 6) pl_X5 rfl (Nat.le_of_ble_eq_true rfl) (fun X hl hX hF _ _ => ?_)
  refine w_X_readAside_e hX hF (zgo_K (r := q) (step := t_X_readAside v1) (fun s h => ?_) rfl hq)
  exact w_X_readAside_18 hX hF h
set_option maxRecDepth 100000 in
set_option maxHeartbeats 4000000 in
theorem w_X_fault_e {X : zX} {G : zG} {v1 : Int} {μ : zM} {rv : Option zV} {ν : zM} (hX : zOk X G cX5_fault RX5 2 (some .int) 6) (hF : zFin X G rv ν) (h : zP (fun r : (Int × zM) => (some (zI r.1), r.2) = (rv, ν)) (f_X_fault v1 μ)) : zW X G 2 0 [some (zR 0), some (zI v1)] [] μ := by
  refine zr_aload_n hX dX5_fault_0 rfl rfl ?_
  refine zr_getr hX dX5_fault_1 (k := 1) (q := 4) rfl rfl ww_200 rfl ?_
  refine zr_iload_n hX dX5_fault_4 rfl rfl ?_
  refine zr_callV hX dX5_fault_5 (m_S_knows rfl) rfl rfl rfl (z5 ww_240 ww_241 ww_242 ww_71 ww_243) hy_X3_knows rfl (Nat.le_of_ble_eq_true rfl) (Nat.le_of_ble_eq_true rfl) (Nat.le_of_ble_eq_true rfl) ?_
  refine zr_ifne (tgt := 13) hX dX5_fault_8 rfl h (fun h => ?_) (fun h => ?_)
  · refine zr_aload_n hX dX5_fault_13 rfl rfl ?_
    refine zr_getr hX dX5_fault_14 (k := 1) (q := 4) rfl rfl ww_200 rfl ?_
    refine zr_iload_n hX dX5_fault_17 rfl rfl ?_
    refine zP_bind h (fun q1 hq1 h => ?_)
    refine zr_callV hX dX5_fault_18 (m_S_isThere rfl hq1) rfl rfl rfl (z5 ww_269 ww_270 ww_271 ww_71 ww_272) hy_X3_isThere rfl (Nat.le_of_ble_eq_true rfl) (Nat.le_of_ble_eq_true rfl) (Nat.le_of_ble_eq_true rfl) ?_
    refine zr_ifne (tgt := 30) hX dX5_fault_21 rfl h (fun h => ?_) (fun h => ?_)
    · refine zr_aload_n hX dX5_fault_30 rfl rfl ?_
      refine zr_iload_n hX dX5_fault_31 rfl rfl ?_
      refine zP_bind h (fun q2 hq2 h => ?_)
      refine zr_callV hX dX5_fault_32 (m_X_readAside hq2) rfl rfl rfl (z5 ww_329 ww_331 ww_1 ww_70 ww_332) hy_X5_readAside rfl (Nat.le_of_ble_eq_true rfl) (Nat.le_of_ble_eq_true rfl) (Nat.le_of_ble_eq_true rfl) ?_
      exact zr_iret hX dX5_fault_35 hF h
    · refine zr_aload_n hX dX5_fault_24 rfl rfl ?_
      refine zr_iconst hX dX5_fault_25 (zrl rfl) ?_
      refine zP_bind h (fun q3 hq3 h => ?_)
      refine zr_callV hX dX5_fault_26 (m_X_found hq3) rfl rfl rfl (z5 ww_244 ww_246 ww_0 ww_70 ww_247) hy_X5_found rfl (Nat.le_of_ble_eq_true rfl) (Nat.le_of_ble_eq_true rfl) (Nat.le_of_ble_eq_true rfl) ?_
      exact zr_iret hX dX5_fault_29 hF h
  · refine zr_iconst hX dX5_fault_11 (zrl rfl) ?_
    exact zr_iret hX dX5_fault_12 hF h
set_option maxRecDepth 100000 in
theorem m_X_fault {l : Launch} {G : zG} {v1 : Int} {μ : zM} {q : Int × zM} (hq : f_X_fault v1 μ = some q) : zCT l G yX5_fault cX5_fault 2 (some .int) 6 [zR 0, zI v1] μ (some (zI q.1)) q.2 := by
  refine zMet (lv := [some (zR 0), some (zI v1)]) (k := 0) pl_X5 rfl (Nat.le_of_ble_eq_true rfl) (fun X hl hX hF _ _ => ?_)
  exact w_X_fault_e hX hF (zP_of hq rfl)
set_option maxRecDepth 100000 in
set_option maxHeartbeats 4000000 in
theorem w_R_kindAt_e {X : zX} {G : zG} {o : Nat} {v1 : Int} {v2 : Int} {μ : zM} {rv : Option zV} {ν : zM} (hX : zOk X G cX1_kindAt RX1 3 (some .int) 2) (hF : zFin X G rv ν) (ho : zsh o = (0, 1)) (h : zP (fun r : Int => (some (zI r), μ) = (rv, ν)) (f_R_kindAt o v1 v2 μ)) : zW X G 3 0 [some (zR o), some (zI v1), some (zI v2)] [] μ := by
  refine zr_aload_n hX dX1_kindAt_0 rfl rfl ?_
  refine zr_iload_n hX dX1_kindAt_1 rfl rfl ?_
  refine zr_iload_n hX dX1_kindAt_2 rfl rfl ?_
  refine zP_bind h (fun q1 hq1 h => ?_)
  refine zr_callV hX dX1_kindAt_3 (m_R_has ho hq1) ho rfl rfl (z5 ww_374 ww_375 ww_376 ww_74 ww_377) hy_X1_has rfl (Nat.le_of_ble_eq_true rfl) (Nat.le_of_ble_eq_true rfl) (Nat.le_of_ble_eq_true rfl) ?_
  refine zr_ifeq (tgt := 28) hX dX1_kindAt_6 rfl h (fun h => ?_) (fun h => ?_)
  · refine zr_iconst hX dX1_kindAt_28 (zrl rfl) ?_
    exact zr_iret hX dX1_kindAt_29 hF h
  · refine zr_aload_n hX dX1_kindAt_9 rfl rfl ?_
    refine zr_getr hX dX1_kindAt_10 (k := 3) (q := (o + 2)) ho rfl ww_126 rfl ?_
    refine zr_iload_n hX dX1_kindAt_13 rfl rfl ?_
    refine zr_bipush hX dX1_kindAt_14 rfl ?_
    refine zr_imul hX dX1_kindAt_16 ?_
    refine zr_iload_n hX dX1_kindAt_17 rfl rfl ?_
    refine zr_iadd hX dX1_kindAt_18 ?_
    refine zr_iald (N := 30) hX dX1_kindAt_19 (zkid_of zk_1_2 ho) rfl h (fun h => ?_)
    refine zr_iconst hX dX1_kindAt_20 (zrl rfl) ?_
    refine zr_isub hX dX1_kindAt_21 ?_
    refine zr_bipush hX dX1_kindAt_22 rfl ?_
    refine zr_idivc hX dX1_kindAt_24 (by decide) ?_
    refine zr_goto hX dX1_kindAt_25 (tgt := 29) rfl ?_
    exact zr_iret hX dX1_kindAt_29 hF h
set_option maxRecDepth 100000 in
theorem m_R_kindAt {l : Launch} {G : zG} {o : Nat} {v1 : Int} {v2 : Int} {μ : zM} (ho : zsh o = (0, 1)) {q : Int} (hq : f_R_kindAt o v1 v2 μ = some q) : zCT l G yX1_kindAt cX1_kindAt 3 (some .int) 2 [zR o, zI v1, zI v2] μ (some (zI q)) μ := by
  refine zMet (lv := [some (zR o), some (zI v1), some (zI v2)]) (k := 0) pl_X1 rfl (Nat.le_of_ble_eq_true rfl) (fun X hl hX hF _ _ => ?_)
  exact w_R_kindAt_e hX hF ho (zP_of hq rfl)
set_option maxRecDepth 100000 in
set_option maxHeartbeats 4000000 in
theorem w_R_borneAt_e {X : zX} {G : zG} {o : Nat} {v1 : Int} {v2 : Int} {μ : zM} {rv : Option zV} {ν : zM} (hX : zOk X G cX1_borneAt RX1 3 (some .int) 2) (hF : zFin X G rv ν) (ho : zsh o = (0, 1)) (h : zP (fun r : Int => (some (zI r), μ) = (rv, ν)) (f_R_borneAt o v1 v2 μ)) : zW X G 3 0 [some (zR o), some (zI v1), some (zI v2)] [] μ := by
  refine zr_aload_n hX dX1_borneAt_0 rfl rfl ?_
  refine zr_iload_n hX dX1_borneAt_1 rfl rfl ?_
  refine zr_iload_n hX dX1_borneAt_2 rfl rfl ?_
  refine zP_bind h (fun q1 hq1 h => ?_)
  refine zr_callV hX dX1_borneAt_3 (m_R_has ho hq1) ho rfl rfl (z5 ww_374 ww_375 ww_376 ww_74 ww_377) hy_X1_has rfl (Nat.le_of_ble_eq_true rfl) (Nat.le_of_ble_eq_true rfl) (Nat.le_of_ble_eq_true rfl) ?_
  refine zr_ifeq (tgt := 28) hX dX1_borneAt_6 rfl h (fun h => ?_) (fun h => ?_)
  · refine zr_iconst hX dX1_borneAt_28 (zrl rfl) ?_
    exact zr_iret hX dX1_borneAt_29 hF h
  · refine zr_aload_n hX dX1_borneAt_9 rfl rfl ?_
    refine zr_getr hX dX1_borneAt_10 (k := 3) (q := (o + 2)) ho rfl ww_126 rfl ?_
    refine zr_iload_n hX dX1_borneAt_13 rfl rfl ?_
    refine zr_bipush hX dX1_borneAt_14 rfl ?_
    refine zr_imul hX dX1_borneAt_16 ?_
    refine zr_iload_n hX dX1_borneAt_17 rfl rfl ?_
    refine zr_iadd hX dX1_borneAt_18 ?_
    refine zr_iald (N := 30) hX dX1_borneAt_19 (zkid_of zk_1_2 ho) rfl h (fun h => ?_)
    refine zr_iconst hX dX1_borneAt_20 (zrl rfl) ?_
    refine zr_isub hX dX1_borneAt_21 ?_
    refine zr_bipush hX dX1_borneAt_22 rfl ?_
    refine zr_iremc hX dX1_borneAt_24 (by decide) ?_
    refine zr_goto hX dX1_borneAt_25 (tgt := 29) rfl ?_
    exact zr_iret hX dX1_borneAt_29 hF h
set_option maxRecDepth 100000 in
theorem m_R_borneAt {l : Launch} {G : zG} {o : Nat} {v1 : Int} {v2 : Int} {μ : zM} (ho : zsh o = (0, 1)) {q : Int} (hq : f_R_borneAt o v1 v2 μ = some q) : zCT l G yX1_borneAt cX1_borneAt 3 (some .int) 2 [zR o, zI v1, zI v2] μ (some (zI q)) μ := by
  refine zMet (lv := [some (zR o), some (zI v1), some (zI v2)]) (k := 0) pl_X1 rfl (Nat.le_of_ble_eq_true rfl) (fun X hl hX hF _ _ => ?_)
  exact w_R_borneAt_e hX hF ho (zP_of hq rfl)
def k_R_takeWithout (X : zX) (G : zG) (o : Nat) (o1 : Nat) (v2 : Int) : ((Int × Int × zM) ⊕ (Int × Int × Int × zM)) → Prop := fun s => match s with
  | .inl (s) => zW X G 6 9 [some (zR o), some (zR o1), some (zI v2), some (zI s.1), some (zI s.2.1), none] [] s.2.2
  | .inr (s) => zW X G 6 26 [some (zR o), some (zR o1), some (zI v2), some (zI s.1), some (zI s.2.1), some (zI s.2.2.1)] [] s.2.2.2
theorem k_R_takeWithout_9 {X : zX} {G : zG} {o : Nat} {o1 : Nat} {v2 : Int} {F : zM → Prop} {v3 v4 : Int} {κ : zM} (h : zP (Sum.elim (k_R_takeWithout X G o o1 v2) F) (some (.inl (.inl ((v3, v4, κ)))))) : zW X G 6 9 [some (zR o), some (zR o1), some (zI v2), some (zI v3), some (zI v4), none] [] κ := h
theorem k_R_takeWithout_26 {X : zX} {G : zG} {o : Nat} {o1 : Nat} {v2 : Int} {F : zM → Prop} {v3 v4 v5 : Int} {κ : zM} (h : zP (Sum.elim (k_R_takeWithout X G o o1 v2) F) (some (.inl (.inr ((v3, v4, v5, κ)))))) : zW X G 6 26 [some (zR o), some (zR o1), some (zI v2), some (zI v3), some (zI v4), some (zI v5)] [] κ := h
set_option maxRecDepth 100000 in
set_option maxHeartbeats 4000000 in
theorem w_R_takeWithout_9 {X : zX} {G : zG} {o : Nat} {o1 : Nat} {v2 : Int} {μ : zM} {rv : Option zV} {ν : zM} (hX : zOk X G cX1_takeWithout RX1 6 none 4) (hF : zFin X G rv ν) (ho : zsh o = (0, 1)) (ho1 : zsh o1 = (0, 1)) {v3 v4 : Int} (h : zP (Sum.elim (k_R_takeWithout X G o o1 v2) (fun r : zM => ((none : Option zV), r) = (rv, ν))) (b_R_takeWithout_9 o o1 v2 v3 v4 μ)) : zW X G 6 9 [some (zR o), some (zR o1), some (zI v2), some (zI v3), some (zI v4), none] [] μ := by
  refine zr_iload hX dX1_takeWithout_9 rfl ?_
  refine zr_aload_n hX dX1_takeWithout_11 rfl rfl ?_
  refine zr_geti hX dX1_takeWithout_12 (k := 0) ho1 rfl ww_123 ?_
  refine zr_icmpge (tgt := 83) hX dX1_takeWithout_15 rfl h (fun h => ?_) (fun h => ?_)
  · exact zr_vret hX dX1_takeWithout_83 hF h
  · refine zr_aload_n hX dX1_takeWithout_18 rfl rfl ?_
    refine zP_bind h (fun q2 hq2 h => ?_)
    refine zr_callV hX dX1_takeWithout_19 (m_R_addTower ho hq2) ho rfl rfl (z5 ww_395 ww_338 ww_339 ww_74 ww_340) hy_X1_addTower rfl (Nat.le_of_ble_eq_true rfl) (Nat.le_of_ble_eq_true rfl) (Nat.le_of_ble_eq_true rfl) ?_
    refine zr_pop hX dX1_takeWithout_22 rfl ?_
    refine zr_iconst hX dX1_takeWithout_23 (zrl rfl) ?_
    refine zr_istore hX dX1_takeWithout_24 (Nat.le_of_ble_eq_true rfl) ?_
    exact zW_lf (k_R_takeWithout_26 h) (And.intro rfl (And.intro rfl (And.intro rfl (And.intro rfl (And.intro rfl (And.intro rfl trivial))))))
set_option maxRecDepth 100000 in
set_option maxHeartbeats 4000000 in
theorem w_R_takeWithout_26 {X : zX} {G : zG} {o : Nat} {o1 : Nat} {v2 : Int} {μ : zM} {rv : Option zV} {ν : zM} (hX : zOk X G cX1_takeWithout RX1 6 none 4) (hF : zFin X G rv ν) (ho : zsh o = (0, 1)) (ho1 : zsh o1 = (0, 1)) {v3 v4 v5 : Int} (h : zP (Sum.elim (k_R_takeWithout X G o o1 v2) (fun r : zM => ((none : Option zV), r) = (rv, ν))) (b_R_takeWithout_26 o o1 v2 v3 v4 v5 μ)) : zW X G 6 26 [some (zR o), some (zR o1), some (zI v2), some (zI v3), some (zI v4), some (zI v5)] [] μ := by
  refine zr_iload hX dX1_takeWithout_26 rfl ?_
  refine zr_aload_n hX dX1_takeWithout_28 rfl rfl ?_
  refine zr_iload hX dX1_takeWithout_29 rfl ?_
  refine zP_bind h (fun q3 hq3 h => ?_)
  refine zr_callV hX dX1_takeWithout_31 (m_R_heightOf ho1 hq3) ho1 rfl rfl (z5 ww_358 ww_359 ww_360 ww_74 ww_361) hy_X1_heightOf rfl (Nat.le_of_ble_eq_true rfl) (Nat.le_of_ble_eq_true rfl) (Nat.le_of_ble_eq_true rfl) ?_
  refine zr_icmpge (tgt := 77) hX dX1_takeWithout_34 rfl h (fun h => ?_) (fun h => ?_)
  · refine zr_iinc hX dX1_takeWithout_77 rfl (Nat.le_of_ble_eq_true rfl) ?_
    refine zr_goto hX dX1_takeWithout_80 (tgt := 9) rfl ?_
    exact zW_lf (k_R_takeWithout_9 h) (And.intro rfl (And.intro rfl (And.intro rfl (And.intro rfl (And.intro rfl trivial)))))
  · refine zr_iload_n hX dX1_takeWithout_37 rfl rfl ?_
    refine zr_iload_n hX dX1_takeWithout_38 rfl rfl ?_
    refine zr_ishr hX dX1_takeWithout_39 ?_
    refine zr_iconst hX dX1_takeWithout_40 (zrl rfl) ?_
    refine zr_iand hX dX1_takeWithout_41 ?_
    refine zr_ifne (tgt := 68) hX dX1_takeWithout_42 rfl h (fun h => ?_) (fun h => ?_)
    · refine zr_iinc hX dX1_takeWithout_68 rfl (Nat.le_of_ble_eq_true rfl) ?_
      refine zr_iinc hX dX1_takeWithout_71 rfl (Nat.le_of_ble_eq_true rfl) ?_
      refine zr_goto hX dX1_takeWithout_74 (tgt := 26) rfl ?_
      exact zW_lf (k_R_takeWithout_26 h) (And.intro rfl (And.intro rfl (And.intro rfl (And.intro rfl (And.intro rfl (And.intro rfl trivial))))))
    · refine zr_aload_n hX dX1_takeWithout_45 rfl rfl ?_
      refine zr_iload hX dX1_takeWithout_46 rfl ?_
      refine zr_aload_n hX dX1_takeWithout_48 rfl rfl ?_
      refine zr_iload hX dX1_takeWithout_49 rfl ?_
      refine zr_iload hX dX1_takeWithout_51 rfl ?_
      refine zP_bind h (fun q4 hq4 h => ?_)
      refine zr_callV hX dX1_takeWithout_53 (m_R_kindAt ho1 hq4) ho1 rfl rfl (z5 ww_396 ww_397 ww_398 ww_74 ww_399) hy_X1_kindAt rfl (Nat.le_of_ble_eq_true rfl) (Nat.le_of_ble_eq_true rfl) (Nat.le_of_ble_eq_true rfl) ?_
      refine zr_aload_n hX dX1_takeWithout_56 rfl rfl ?_
      refine zr_iload hX dX1_takeWithout_57 rfl ?_
      refine zr_iload hX dX1_takeWithout_59 rfl ?_
      refine zP_bind h (fun q5 hq5 h => ?_)
      refine zr_callV hX dX1_takeWithout_61 (m_R_borneAt ho1 hq5) ho1 rfl rfl (z5 ww_400 ww_401 ww_402 ww_74 ww_403) hy_X1_borneAt rfl (Nat.le_of_ble_eq_true rfl) (Nat.le_of_ble_eq_true rfl) (Nat.le_of_ble_eq_true rfl) ?_
      refine zP_bind h (fun q6 hq6 h => ?_)
      refine zr_callV hX dX1_takeWithout_64 (m_R_push ho hq6) ho rfl rfl (z5 ww_404 ww_366 ww_367 ww_74 ww_368) hy_X1_push rfl (Nat.le_of_ble_eq_true rfl) (Nat.le_of_ble_eq_true rfl) (Nat.le_of_ble_eq_true rfl) ?_
      refine zr_pop hX dX1_takeWithout_67 rfl ?_
      refine zr_iinc hX dX1_takeWithout_68 rfl (Nat.le_of_ble_eq_true rfl) ?_
      refine zr_iinc hX dX1_takeWithout_71 rfl (Nat.le_of_ble_eq_true rfl) ?_
      refine zr_goto hX dX1_takeWithout_74 (tgt := 26) rfl ?_
      exact zW_lf (k_R_takeWithout_26 h) (And.intro rfl (And.intro rfl (And.intro rfl (And.intro rfl (And.intro rfl (And.intro rfl trivial))))))
set_option maxRecDepth 100000 in
set_option maxHeartbeats 4000000 in
theorem w_R_takeWithout_e {X : zX} {G : zG} {o : Nat} {o1 : Nat} {v2 : Int} {μ : zM} {rv : Option zV} {ν : zM} (hX : zOk X G cX1_takeWithout RX1 6 none 4) (hF : zFin X G rv ν) (ho : zsh o = (0, 1)) (ho1 : zsh o1 = (0, 1)) (h : zP (Sum.elim (k_R_takeWithout X G o o1 v2) (fun r : zM => ((none : Option zV), r) = (rv, ν))) (e_R_takeWithout o o1 v2 μ)) : zW X G 6 0 [some (zR o), some (zR o1), some (zI v2), none, none, none] [] μ := by
  refine zr_aload_n hX dX1_takeWithout_0 rfl rfl ?_
  refine zP_bind h (fun q1 hq1 h => ?_)
  refine zr_callV hX dX1_takeWithout_1 (m_R_clear ho hq1) ho rfl rfl (z5 ww_394 ww_334 ww_335 ww_74 ww_336) hy_X1_clear rfl (Nat.le_of_ble_eq_true rfl) (Nat.le_of_ble_eq_true rfl) (Nat.le_of_ble_eq_true rfl) ?_
  refine zr_iconst hX dX1_takeWithout_4 (zrl rfl) ?_
  refine zr_istore_n hX dX1_takeWithout_5 rfl (Nat.le_of_ble_eq_true rfl) ?_
  refine zr_iconst hX dX1_takeWithout_6 (zrl rfl) ?_
  refine zr_istore hX dX1_takeWithout_7 (Nat.le_of_ble_eq_true rfl) ?_
  exact zW_lf (k_R_takeWithout_9 h) (And.intro rfl (And.intro rfl (And.intro rfl (And.intro rfl (And.intro rfl trivial)))))
set_option maxRecDepth 100000 in
theorem m_R_takeWithout {l : Launch} {G : zG} {o : Nat} {o1 : Nat} {v2 : Int} {μ : zM} (ho : zsh o = (0, 1)) (ho1 : zsh o1 = (0, 1)) {q : zM} (hq : f_R_takeWithout o o1 v2 μ = some q) : zCT l G yX1_takeWithout cX1_takeWithout 6 none 4 [zR o, zR o1, zI v2] μ (none) q := by
  refine zMet (lv := [some (zR o), some (zR o1), some (zI v2), none, none, none]) (k := 3) pl_X1 rfl (Nat.le_of_ble_eq_true rfl) (fun X hl hX hF _ _ => ?_)
  refine w_R_takeWithout_e hX hF ho ho1 (zgo_K (r := q) (step := t_R_takeWithout o o1 v2) (fun s h => ?_) rfl hq)
  cases s with
  | inl s => exact w_R_takeWithout_9 hX hF ho ho1 h
  | inr s => exact w_R_takeWithout_26 hX hF ho ho1 h
set_option maxRecDepth 100000 in
set_option maxHeartbeats 4000000 in
theorem w_R_takeFrom_e {X : zX} {G : zG} {o : Nat} {o1 : Nat} {μ : zM} {rv : Option zV} {ν : zM} (hX : zOk X G cX1_takeFrom RX1 2 none 5) (hF : zFin X G rv ν) (ho : zsh o = (0, 1)) (ho1 : zsh o1 = (0, 1)) (h : zP (fun r : zM => ((none : Option zV), r) = (rv, ν)) (f_R_takeFrom o o1 μ)) : zW X G 2 0 [some (zR o), some (zR o1)] [] μ := by
  refine zr_aload_n hX dX1_takeFrom_0 rfl rfl ?_
  refine zr_aload_n hX dX1_takeFrom_1 rfl rfl ?_
  refine zr_iconst hX dX1_takeFrom_2 (zrl rfl) ?_
  refine zP_bind h (fun q1 hq1 h => ?_)
  refine zr_callV hX dX1_takeFrom_3 (m_R_takeWithout ho ho1 hq1) ho rfl rfl (z5 ww_390 ww_391 ww_392 ww_74 ww_393) hy_X1_takeWithout rfl (Nat.le_of_ble_eq_true rfl) (Nat.le_of_ble_eq_true rfl) (Nat.le_of_ble_eq_true rfl) ?_
  exact zr_vret hX dX1_takeFrom_6 hF h
set_option maxRecDepth 100000 in
theorem m_R_takeFrom {l : Launch} {G : zG} {o : Nat} {o1 : Nat} {μ : zM} (ho : zsh o = (0, 1)) (ho1 : zsh o1 = (0, 1)) {q : zM} (hq : f_R_takeFrom o o1 μ = some q) : zCT l G yX1_takeFrom cX1_takeFrom 2 none 5 [zR o, zR o1] μ (none) q := by
  refine zMet (lv := [some (zR o), some (zR o1)]) (k := 0) pl_X1 rfl (Nat.le_of_ble_eq_true rfl) (fun X hl hX hF _ _ => ?_)
  exact w_R_takeFrom_e hX hF ho ho1 (zP_of hq rfl)
set_option maxRecDepth 100000 in
set_option maxHeartbeats 4000000 in
theorem w_Y_startWith_e {X : zX} {G : zG} {o : Nat} {o1 : Nat} {μ : zM} {rv : Option zV} {ν : zM} (hX : zOk X G cX4_startWith RX4 2 none 6) (hF : zFin X G rv ν) (ho : zsh o = (0, 4)) (ho1 : zsh o1 = (0, 1)) (h : zP (fun r : zM => ((none : Option zV), r) = (rv, ν)) (f_Y_startWith o o1 μ)) : zW X G 2 0 [some (zR o), some (zR o1)] [] μ := by
  refine zr_aload_n hX dX4_startWith_0 rfl rfl ?_
  refine zr_getr hX dX4_startWith_1 (k := 0) (q := (o + 1)) ho rfl ww_136 rfl ?_
  refine zr_aload_n hX dX4_startWith_4 rfl rfl ?_
  refine zP_bind h (fun q1 hq1 h => ?_)
  refine zr_callV hX dX4_startWith_5 (m_R_takeFrom (zkid_of zk_4_1 ho) ho1 hq1) (zkid_of zk_4_1 ho) rfl rfl (z5 ww_386 ww_387 ww_388 ww_74 ww_389) hy_X1_takeFrom rfl (Nat.le_of_ble_eq_true rfl) (Nat.le_of_ble_eq_true rfl) (Nat.le_of_ble_eq_true rfl) ?_
  refine zr_aload_n hX dX4_startWith_8 rfl rfl ?_
  refine zr_iconst hX dX4_startWith_9 (zrl rfl) ?_
  refine zr_puti hX dX4_startWith_10 (k := 2) ho rfl ww_139 rfl (by decide +kernel) ?_
  exact zr_vret hX dX4_startWith_13 hF h
set_option maxRecDepth 100000 in
theorem m_Y_startWith {l : Launch} {G : zG} {o : Nat} {o1 : Nat} {μ : zM} (ho : zsh o = (0, 4)) (ho1 : zsh o1 = (0, 1)) {q : zM} (hq : f_Y_startWith o o1 μ = some q) : zCT l G yX4_startWith cX4_startWith 2 none 6 [zR o, zR o1] μ (none) q := by
  refine zMet (lv := [some (zR o), some (zR o1)]) (k := 0) pl_X4 rfl (Nat.le_of_ble_eq_true rfl) (fun X hl hX hF _ _ => ?_)
  exact w_Y_startWith_e hX hF ho ho1 (zP_of hq rfl)
set_option maxRecDepth 100000 in
set_option maxHeartbeats 4000000 in
theorem w_X_keptAt_e {X : zX} {G : zG} {v1 : Int} {μ : zM} {rv : Option zV} {ν : zM} (hX : zOk X G cX5_keptAt RX5 2 (some (.object "RoofLent$Story")) 1) (hF : zFin X G rv ν) (h : zP (fun r : (Option Nat) => (some (zN r), μ) = (rv, ν)) (f_X_keptAt v1)) : zW X G 2 0 [some (zR 0), some (zI v1)] [] μ := by
  refine zr_iload_n hX dX5_keptAt_0 rfl rfl ?_
  refine zr_iflt (tgt := 22) hX dX5_keptAt_1 rfl h (fun h => ?_) (fun h => ?_)
  · refine zr_null hX dX5_keptAt_22 ?_
    exact zr_aret hX dX5_keptAt_23 hF h
  · refine zr_iload_n hX dX5_keptAt_4 rfl rfl ?_
    refine zr_aload_n hX dX5_keptAt_5 rfl rfl ?_
    refine zr_getr hX dX5_keptAt_6 (k := 3) (q := 12) rfl rfl ww_202 rfl ?_
    refine zr_alenr hX dX5_keptAt_9 (N := 3) rfl rfl (zrl rfl) ?_
    refine zr_icmpge (tgt := 22) hX dX5_keptAt_10 rfl h (fun h => ?_) (fun h => ?_)
    · refine zr_null hX dX5_keptAt_22 ?_
      exact zr_aret hX dX5_keptAt_23 hF h
    · refine zr_aload_n hX dX5_keptAt_13 rfl rfl ?_
      refine zr_getr hX dX5_keptAt_14 (k := 3) (q := 12) rfl rfl ww_202 rfl ?_
      refine zr_iload_n hX dX5_keptAt_17 rfl rfl ?_
      have hc1 := zP_if h (fun c _ => c)
      refine zr_aald (N := 3) hX dX5_keptAt_18 rfl rfl h (fun h => ?_)
      refine zr_goto hX dX5_keptAt_19 (tgt := 23) rfl ?_
      refine zW_RN ?_
      exact zr_aret hX dX5_keptAt_23 hF h
set_option maxRecDepth 100000 in
theorem m_X_keptAt {l : Launch} {G : zG} {v1 : Int} {μ : zM} {q : Option Nat} (hq : f_X_keptAt v1 = some q) : zCT l G yX5_keptAt cX5_keptAt 2 (some (.object "RoofLent$Story")) 1 [zR 0, zI v1] μ (some (zN q)) μ := by
  refine zMet (lv := [some (zR 0), some (zI v1)]) (k := 0) pl_X5 rfl (Nat.le_of_ble_eq_true rfl) (fun X hl hX hF _ _ => ?_)
  exact w_X_keptAt_e hX hF (zP_of hq rfl)
