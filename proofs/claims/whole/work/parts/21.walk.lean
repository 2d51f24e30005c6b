set_option maxRecDepth 100000 in
set_option maxHeartbeats 4000000 in
theorem w_Y_forget_e {X : zX} {G : zG} {o : Nat} {μ : zM} {rv : Option zV} {ν : zM} (hX : zOk X G cX4_forget RX4 1 none 1) (hF : zFin X G rv ν) (ho : zsh o = (0, 4)) (h : zP (fun r : zM => ((none : Option zV), r) = (rv, ν)) (f_Y_forget o μ)) : zW X G 1 0 [some (zR o)] [] μ := by
  refine zr_aload_n hX dX4_forget_0 rfl rfl ?_
  refine zr_iconst hX dX4_forget_1 (zrl rfl) ?_
  refine zr_puti hX dX4_forget_2 (k := 2) ho rfl ww_139 rfl (by decide +kernel) ?_
  exact zr_vret hX dX4_forget_5 hF h
set_option maxRecDepth 100000 in
theorem m_Y_forget {l : Launch} {G : zG} {o : Nat} {μ : zM} (ho : zsh o = (0, 4)) {q : zM} (hq : f_Y_forget o μ = some q) : zCT l G yX4_forget cX4_forget 1 none 1 [zR o] μ (none) q := by
  refine zMet (lv := [some (zR o)]) (k := 0) pl_X4 rfl (Nat.le_of_ble_eq_true rfl) (fun X hl hX hF _ _ => ?_)
  exact w_Y_forget_e hX hF ho (zP_of hq rfl)
def k_X_forgetKept (X : zX) (G : zG) : (Int × zM) → Prop := fun s => zW X G 3 2 [some (zR 0), some (zI s.1), none] [] s.2
theorem k_X_forgetKept_2 {X : zX} {G : zG} {F : zM → Prop} {v1 : Int} {κ : zM} (h : zP (Sum.elim (k_X_forgetKept X G) F) (some (.inl ((v1, κ))))) : zW X G 3 2 [some (zR 0), some (zI v1), none] [] κ := h
set_option maxRecDepth 100000 in
set_option maxHeartbeats 4000000 in
theorem w_X_forgetKept_2 {X : zX} {G : zG} {μ : zM} {rv : Option zV} {ν : zM} (hX : zOk X G cX5_forgetKept RX5 3 none 2) (hF : zFin X G rv ν) {v1 : Int} (h : zP (Sum.elim (k_X_forgetKept X G) (fun r : zM => ((none : Option zV), r) = (rv, ν))) (b_X_forgetKept_2 v1 μ)) : zW X G 3 2 [some (zR 0), some (zI v1), none] [] μ := by
  refine zr_iload_n hX dX5_forgetKept_2 rfl rfl ?_
  refine zr_iconst hX dX5_forgetKept_3 (zrl rfl) ?_
  refine zr_icmpge (tgt := 27) hX dX5_forgetKept_4 rfl h (fun h => ?_) (fun h => ?_)
  · exact zr_vret hX dX5_forgetKept_27 hF h
  · refine zr_aload_n hX dX5_forgetKept_7 rfl rfl ?_
    refine zr_iload_n hX dX5_forgetKept_8 rfl rfl ?_
    refine zP_bind h (fun q1 hq1 h => ?_)
    refine zr_callV hX dX5_forgetKept_9 (m_X_keptAt hq1) rfl rfl rfl (z5 ww_409 ww_411 ww_3 ww_70 ww_412) hy_X5_keptAt rfl (Nat.le_of_ble_eq_true rfl) (Nat.le_of_ble_eq_true rfl) (Nat.le_of_ble_eq_true rfl) ?_
    refine zr_astore_nN hX dX5_forgetKept_12 rfl (Nat.le_of_ble_eq_true rfl) ?_
    refine zr_aload_nN hX dX5_forgetKept_13 rfl rfl ?_
    refine zr_ifnull (tgt := 21) hX dX5_forgetKept_14 rfl h (fun o_2 hn2 h => ?_) (fun _ h => ?_)
    · refine zr_aload_nN hX dX5_forgetKept_17 rfl rfl ?_
      refine zW_nr hn2 ?_
      refine zP_bind h (fun q3 hq3 h => ?_)
      refine zr_callV hX dX5_forgetKept_18 (m_Y_forget (f_X_keptAt_sh hq1 hn2) hq3) (f_X_keptAt_sh hq1 hn2) rfl rfl (z5 ww_413 ww_414 ww_415 ww_73 ww_416) hy_X4_forget rfl (Nat.le_of_ble_eq_true rfl) (Nat.le_of_ble_eq_true rfl) (Nat.le_of_ble_eq_true rfl) ?_
      refine zr_iinc hX dX5_forgetKept_21 rfl (Nat.le_of_ble_eq_true rfl) ?_
      refine zr_goto hX dX5_forgetKept_24 (tgt := 2) rfl ?_
      exact zW_lf (k_X_forgetKept_2 h) (And.intro rfl (And.intro rfl trivial))
    · refine zr_iinc hX dX5_forgetKept_21 rfl (Nat.le_of_ble_eq_true rfl) ?_
      refine zr_goto hX dX5_forgetKept_24 (tgt := 2) rfl ?_
      exact zW_lf (k_X_forgetKept_2 h) (And.intro rfl (And.intro rfl trivial))
set_option maxRecDepth 100000 in
set_option maxHeartbeats 4000000 in
theorem w_X_forgetKept_e {X : zX} {G : zG} {μ : zM} {rv : Option zV} {ν : zM} (hX : zOk X G cX5_forgetKept RX5 3 none 2) (hF : zFin X G rv ν) (h : zP (Sum.elim (k_X_forgetKept X G) (fun r : zM => ((none : Option zV), r) = (rv, ν))) (e_X_forgetKept μ)) : zW X G 3 0 [some (zR 0), none, none] [] μ := by
  refine zr_iconst hX dX5_forgetKept_0 (zrl rfl) ?_
  refine zr_istore_n hX dX5_forgetKept_1 rfl (Nat.le_of_ble_eq_true rfl) ?_
  exact zW_lf (k_X_forgetKept_2 h) (And.intro rfl (And.intro rfl trivial))
set_option maxRecDepth 100000 in
theorem m_X_forgetKept {l : Launch} {G : zG} {μ : zM} {q : zM} (hq : f_X_forgetKept μ = some q) : zCT l G yX5_forgetKept cX5_forgetKept 3 none 2 [zR 0] μ (none) q := by
  refine zMet (lv := [some (zR 0), none, none]) (k := 2) pl_X5 rfl (Nat.le_of_ble_eq_true rfl) (fun X hl hX hF _ _ => ?_)
  refine w_X_forgetKept_e hX hF (zgo_K (r := q) (step := t_X_forgetKept) (fun s h => ?_) rfl hq)
  exact w_X_forgetKept_2 hX hF h
set_option maxRecDepth 100000 in
set_option maxHeartbeats 4000000 in
theorem w_X_rock_e {X : zX} {G : zG} {v1 : Int} {μ : zM} {rv : Option zV} {ν : zM} (hX : zOk X G cX5_rock RX5 2 (some .int) 7) (hF : zFin X G rv ν) (h : zP (fun r : (Int × zM) => (some (zI r.1), r.2) = (rv, ν)) (f_X_rock v1 μ)) : zW X G 2 0 [some (zR 0), some (zI v1)] [] μ := by
  refine zr_aload_n hX dX5_rock_0 rfl rfl ?_
  refine zr_getr hX dX5_rock_1 (k := 1) (q := 4) rfl rfl ww_200 rfl ?_
  refine zr_iload_n hX dX5_rock_4 rfl rfl ?_
  refine zr_callV hX dX5_rock_5 (m_S_knows rfl) rfl rfl rfl (z5 ww_240 ww_241 ww_242 ww_71 ww_243) hy_X3_knows rfl (Nat.le_of_ble_eq_true rfl) (Nat.le_of_ble_eq_true rfl) (Nat.le_of_ble_eq_true rfl) ?_
  refine zr_ifne (tgt := 13) hX dX5_rock_8 rfl h (fun h => ?_) (fun h => ?_)
  · refine zr_aload_n hX dX5_rock_13 rfl rfl ?_
    refine zr_getr hX dX5_rock_14 (k := 1) (q := 4) rfl rfl ww_200 rfl ?_
    refine zr_iload_n hX dX5_rock_17 rfl rfl ?_
    refine zP_bind h (fun q1 hq1 h => ?_)
    refine zr_callV hX dX5_rock_18 (m_S_isThere rfl hq1) rfl rfl rfl (z5 ww_269 ww_270 ww_271 ww_71 ww_272) hy_X3_isThere rfl (Nat.le_of_ble_eq_true rfl) (Nat.le_of_ble_eq_true rfl) (Nat.le_of_ble_eq_true rfl) ?_
    refine zr_ifne (tgt := 30) hX dX5_rock_21 rfl h (fun h => ?_) (fun h => ?_)
    · refine zr_aload_n hX dX5_rock_30 rfl rfl ?_
      refine zr_iload_n hX dX5_rock_31 rfl rfl ?_
      refine zP_bind h (fun q2 hq2 h => ?_)
      refine zr_callV hX dX5_rock_32 (m_X_readAside hq2) rfl rfl rfl (z5 ww_329 ww_331 ww_1 ww_70 ww_332) hy_X5_readAside rfl (Nat.le_of_ble_eq_true rfl) (Nat.le_of_ble_eq_true rfl) (Nat.le_of_ble_eq_true rfl) ?_
      refine zr_bipush hX dX5_rock_35 rfl ?_
      refine zr_icmpeq (tgt := 43) hX dX5_rock_37 rfl h (fun h => ?_) (fun h => ?_)
      · refine zr_aload_n hX dX5_rock_43 rfl rfl ?_
        refine zr_getr hX dX5_rock_44 (k := 2) (q := 7) rfl rfl ww_201 rfl ?_
        refine zr_aload_n hX dX5_rock_47 rfl rfl ?_
        refine zr_getr hX dX5_rock_48 (k := 4) (q := 13) rfl rfl ww_203 rfl ?_
        refine zP_bind h (fun q3 hq3 h => ?_)
        refine zr_callV hX dX5_rock_51 (m_Y_startWith rfl rfl hq3) rfl rfl rfl (z5 ww_382 ww_383 ww_384 ww_73 ww_385) hy_X4_startWith rfl (Nat.le_of_ble_eq_true rfl) (Nat.le_of_ble_eq_true rfl) (Nat.le_of_ble_eq_true rfl) ?_
        refine zr_aload_n hX dX5_rock_54 rfl rfl ?_
        refine zP_bind h (fun q4 hq4 h => ?_)
        refine zr_callV hX dX5_rock_55 (m_X_forgetKept hq4) rfl rfl rfl (z5 ww_405 ww_407 ww_2 ww_70 ww_408) hy_X5_forgetKept rfl (Nat.le_of_ble_eq_true rfl) (Nat.le_of_ble_eq_true rfl) (Nat.le_of_ble_eq_true rfl) ?_
        refine zr_aload_n hX dX5_rock_58 rfl rfl ?_
        refine zr_getr hX dX5_rock_59 (k := 4) (q := 13) rfl rfl ww_203 rfl ?_
        refine zr_callV hX dX5_rock_62 (m_R_towerCount rfl) rfl rfl rfl (z5 ww_341 ww_342 ww_343 ww_74 ww_344) hy_X1_towerCount rfl (Nat.le_of_ble_eq_true rfl) (Nat.le_of_ble_eq_true rfl) (Nat.le_of_ble_eq_true rfl) ?_
        exact zr_iret hX dX5_rock_65 hF h
      · refine zr_bipush hX dX5_rock_40 rfl ?_
        exact zr_iret hX dX5_rock_42 hF h
    · refine zr_aload_n hX dX5_rock_24 rfl rfl ?_
      refine zr_iconst hX dX5_rock_25 (zrl rfl) ?_
      refine zP_bind h (fun q5 hq5 h => ?_)
      refine zr_callV hX dX5_rock_26 (m_X_found hq5) rfl rfl rfl (z5 ww_244 ww_246 ww_0 ww_70 ww_247) hy_X5_found rfl (Nat.le_of_ble_eq_true rfl) (Nat.le_of_ble_eq_true rfl) (Nat.le_of_ble_eq_true rfl) ?_
      exact zr_iret hX dX5_rock_29 hF h
  · refine zr_iconst hX dX5_rock_11 (zrl rfl) ?_
    exact zr_iret hX dX5_rock_12 hF h
set_option maxRecDepth 100000 in
theorem m_X_rock {l : Launch} {G : zG} {v1 : Int} {μ : zM} {q : Int × zM} (hq : f_X_rock v1 μ = some q) : zCT l G yX5_rock cX5_rock 2 (some .int) 7 [zR 0, zI v1] μ (some (zI q.1)) q.2 := by
  refine zMet (lv := [some (zR 0), some (zI v1)]) (k := 0) pl_X5 rfl (Nat.le_of_ble_eq_true rfl) (fun X hl hX hF _ _ => ?_)
  exact w_X_rock_e hX hF (zP_of hq rfl)
set_option maxRecDepth 100000 in
set_option maxHeartbeats 4000000 in
theorem w_X_tower_e {X : zX} {G : zG} {v1 : Int} {μ : zM} {rv : Option zV} {ν : zM} (hX : zOk X G cX5_tower RX5 2 (some .int) 2) (hF : zFin X G rv ν) (h : zP (fun r : Int => (some (zI r), μ) = (rv, ν)) (f_X_tower v1 μ)) : zW X G 2 0 [some (zR 0), some (zI v1)] [] μ := by
  refine zr_aload_n hX dX5_tower_0 rfl rfl ?_
  refine zr_getr hX dX5_tower_1 (k := 2) (q := 7) rfl rfl ww_201 rfl ?_
  refine zr_getrN hX dX5_tower_4 (k := 0) (q := 8) rfl rfl nf_X5_125 rfl ?_
  refine zr_iload_n hX dX5_tower_7 rfl rfl ?_
  refine zr_callV hX dX5_tower_8 (m_R_isTower rfl) rfl rfl rfl (z5 ww_421 ww_355 ww_356 ww_74 ww_357) hy_X1_isTower rfl (Nat.le_of_ble_eq_true rfl) (Nat.le_of_ble_eq_true rfl) (Nat.le_of_ble_eq_true rfl) ?_
  refine zr_ifeq (tgt := 28) hX dX5_tower_11 rfl h (fun h => ?_) (fun h => ?_)
  · refine zr_iconst hX dX5_tower_28 (zrl rfl) ?_
    exact zr_iret hX dX5_tower_29 hF h
  · refine zr_aload_n hX dX5_tower_14 rfl rfl ?_
    refine zr_getr hX dX5_tower_15 (k := 2) (q := 7) rfl rfl ww_201 rfl ?_
    refine zr_getrN hX dX5_tower_18 (k := 0) (q := 8) rfl rfl nf_X5_125 rfl ?_
    refine zr_iload_n hX dX5_tower_21 rfl rfl ?_
    refine zP_bind h (fun q1 hq1 h => ?_)
    refine zr_callV hX dX5_tower_22 (m_R_heightOf rfl hq1) rfl rfl rfl (z5 ww_422 ww_359 ww_360 ww_74 ww_361) hy_X1_heightOf rfl (Nat.le_of_ble_eq_true rfl) (Nat.le_of_ble_eq_true rfl) (Nat.le_of_ble_eq_true rfl) ?_
    refine zr_goto hX dX5_tower_25 (tgt := 29) rfl ?_
    exact zr_iret hX dX5_tower_29 hF h
set_option maxRecDepth 100000 in
theorem m_X_tower {l : Launch} {G : zG} {v1 : Int} {μ : zM} {q : Int} (hq : f_X_tower v1 μ = some q) : zCT l G yX5_tower cX5_tower 2 (some .int) 2 [zR 0, zI v1] μ (some (zI q)) μ := by
  refine zMet (lv := [some (zR 0), some (zI v1)]) (k := 0) pl_X5 rfl (Nat.le_of_ble_eq_true rfl) (fun X hl hX hF _ _ => ?_)
  exact w_X_tower_e hX hF (zP_of hq rfl)
set_option maxRecDepth 100000 in
set_option maxHeartbeats 4000000 in
theorem w_X_isNoPlace_e {X : zX} {G : zG} {v1 : Int} {v2 : Int} {μ : zM} {rv : Option zV} {ν : zM} (hX : zOk X G cX5_isNoPlace RX5 3 (some .boolean) 2) (hF : zFin X G rv ν) (h : zP (fun r : Int => (some (zI r), μ) = (rv, ν)) (fo_X_isNoPlace v1 v2 μ)) : zW X G 3 0 [some (zR 0), some (zI v1), some (zI v2)] [] μ := by
  refine zr_aload_n hX dX5_isNoPlace_0 rfl rfl ?_
  refine zr_getr hX dX5_isNoPlace_1 (k := 2) (q := 7) rfl rfl ww_201 rfl ?_
  refine zr_getrN hX dX5_isNoPlace_4 (k := 0) (q := 8) rfl rfl nf_X5_125 rfl ?_
  refine zr_iload_n hX dX5_isNoPlace_7 rfl rfl ?_
  refine zr_callV hX dX5_isNoPlace_8 (m_R_isTower rfl) rfl rfl rfl (z5 ww_421 ww_355 ww_356 ww_74 ww_357) hy_X1_isTower rfl (Nat.le_of_ble_eq_true rfl) (Nat.le_of_ble_eq_true rfl) (Nat.le_of_ble_eq_true rfl) ?_
  refine zr_ifeq (tgt := 18) hX dX5_isNoPlace_11 rfl h (fun h => ?_) (fun h => ?_)
  · refine zr_iconst hX dX5_isNoPlace_18 (zrl rfl) ?_
    refine zr_goto hX dX5_isNoPlace_19 (tgt := 23) rfl ?_
    exact zr_bretc hX dX5_isNoPlace_23 hF (Or.inr rfl) h
  · refine zr_iload_n hX dX5_isNoPlace_14 rfl rfl ?_
    refine zr_ifge (tgt := 22) hX dX5_isNoPlace_15 rfl h (fun h => ?_) (fun h => ?_)
    · refine zr_iconst hX dX5_isNoPlace_22 (zrl rfl) ?_
      exact zr_bretc hX dX5_isNoPlace_23 hF (Or.inl rfl) h
    · refine zr_iconst hX dX5_isNoPlace_18 (zrl rfl) ?_
      refine zr_goto hX dX5_isNoPlace_19 (tgt := 23) rfl ?_
      exact zr_bretc hX dX5_isNoPlace_23 hF (Or.inr rfl) h
set_option maxRecDepth 100000 in
theorem m_X_isNoPlace {l : Launch} {G : zG} {v1 : Int} {v2 : Int} {μ : zM} : zCT l G yX5_isNoPlace cX5_isNoPlace 3 (some .boolean) 2 [zR 0, zI v1, zI v2] μ (some (zI (f_X_isNoPlace v1 v2 μ))) μ := by
  refine zMet (lv := [some (zR 0), some (zI v1), some (zI v2)]) (k := 0) pl_X5 rfl (Nat.le_of_ble_eq_true rfl) (fun X hl hX hF _ _ => ?_)
  exact w_X_isNoPlace_e hX hF (by rw [fo_X_isNoPlace_eq]; rfl)
set_option maxRecDepth 100000 in
set_option maxHeartbeats 4000000 in
theorem w_R_houseCount_e {X : zX} {G : zG} {o : Nat} {μ : zM} {rv : Option zV} {ν : zM} (hX : zOk X G cX1_houseCount RX1 1 (some .int) 1) (hF : zFin X G rv ν) (ho : zsh o = (0, 1)) (h : zP (fun r : Int => (some (zI r), μ) = (rv, ν)) (fo_R_houseCount o μ)) : zW X G 1 0 [some (zR o)] [] μ := by
  refine zr_aload_n hX dX1_houseCount_0 rfl rfl ?_
  refine zr_geti hX dX1_houseCount_1 (k := 1) ho rfl ww_124 ?_
  exact zr_iret hX dX1_houseCount_4 hF h
set_option maxRecDepth 100000 in
theorem m_R_houseCount {l : Launch} {G : zG} {o : Nat} {μ : zM} (ho : zsh o = (0, 1)) : zCT l G yX1_houseCount cX1_houseCount 1 (some .int) 1 [zR o] μ (some (zI (f_R_houseCount o μ))) μ := by
  refine zMet (lv := [some (zR o)]) (k := 0) pl_X1 rfl (Nat.le_of_ble_eq_true rfl) (fun X hl hX hF _ _ => ?_)
  exact w_R_houseCount_e hX hF ho (by rw [fo_R_houseCount_eq]; rfl)
set_option maxRecDepth 100000 in
set_option maxHeartbeats 4000000 in
theorem w_L_isNumber_e {X : zX} {G : zG} {v1 : Int} {μ : zM} {rv : Option zV} {ν : zM} (hX : zOk X G cX0_isNumber RX0 2 (some .boolean) 1) (hF : zFin X G rv ν) (h : zP (fun r : Int => (some (zI r), μ) = (rv, ν)) (fo_L_isNumber v1 μ)) : zW X G 2 0 [some (zR 16), some (zI v1)] [] μ := by
  refine zr_iload_n hX dX0_isNumber_0 rfl rfl ?_
  refine zr_iflt (tgt := 16) hX dX0_isNumber_1 rfl h (fun h => ?_) (fun h => ?_)
  · refine zr_iconst hX dX0_isNumber_16 (zrl rfl) ?_
    exact zr_bretc hX dX0_isNumber_17 hF (Or.inl rfl) h
  · refine zr_iload_n hX dX0_isNumber_4 rfl rfl ?_
    refine zr_aload_n hX dX0_isNumber_5 rfl rfl ?_
    refine zr_geti hX dX0_isNumber_6 (k := 0) rfl rfl ww_157 ?_
    refine zr_icmpge (tgt := 16) hX dX0_isNumber_9 rfl h (fun h => ?_) (fun h => ?_)
    · refine zr_iconst hX dX0_isNumber_16 (zrl rfl) ?_
      exact zr_bretc hX dX0_isNumber_17 hF (Or.inl rfl) h
    · refine zr_iconst hX dX0_isNumber_12 (zrl rfl) ?_
      refine zr_goto hX dX0_isNumber_13 (tgt := 17) rfl ?_
      exact zr_bretc hX dX0_isNumber_17 hF (Or.inr rfl) h
set_option maxRecDepth 100000 in
theorem m_L_isNumber {l : Launch} {G : zG} {v1 : Int} {μ : zM} : zCT l G yX0_isNumber cX0_isNumber 2 (some .boolean) 1 [zR 16, zI v1] μ (some (zI (f_L_isNumber v1 μ))) μ := by
  refine zMet (lv := [some (zR 16), some (zI v1)]) (k := 0) pl_X0 rfl (Nat.le_of_ble_eq_true rfl) (fun X hl hX hF _ _ => ?_)
  exact w_L_isNumber_e hX hF (by rw [fo_L_isNumber_eq]; rfl)
def k_R_lampedAbove (X : zX) (G : zG) (o : Nat) (v1 : Int) (v2 : Int) (μ : zM) : (Int × Int) → Prop := fun s => zW X G 5 7 [some (zR o), some (zI v1), none, some (zI s.1), some (zI s.2)] [] μ
theorem k_R_lampedAbove_7 {X : zX} {G : zG} {o : Nat} {v1 : Int} {v2 : Int} {μ : zM} {F : Int → Prop} {v3 v4 : Int} (h : zP (Sum.elim (k_R_lampedAbove X G o v1 v2 μ) F) (some (.inl ((v3, v4))))) : zW X G 5 7 [some (zR o), some (zI v1), none, some (zI v3), some (zI v4)] [] μ := h
set_option maxRecDepth 100000 in
set_option maxHeartbeats 4000000 in
theorem w_R_lampedAbove_7 {X : zX} {G : zG} {o : Nat} {v1 : Int} {v2 : Int} {μ : zM} {rv : Option zV} {ν : zM} (hX : zOk X G cX1_lampedAbove RX1 5 (some .int) 3) (hF : zFin X G rv ν) (ho : zsh o = (0, 1)) {v3 v4 : Int} (h : zP (Sum.elim (k_R_lampedAbove X G o v1 v2 μ) (fun r : Int => (some (zI r), μ) = (rv, ν))) (b_R_lampedAbove_7 o v1 v2 v3 v4 μ)) : zW X G 5 7 [some (zR o), some (zI v1), none, some (zI v3), some (zI v4)] [] μ := by
  refine zr_iload hX dX1_lampedAbove_7 rfl ?_
  refine zr_aload_n hX dX1_lampedAbove_9 rfl rfl ?_
  refine zr_iload_n hX dX1_lampedAbove_10 rfl rfl ?_
  refine zP_bind h (fun q1 hq1 h => ?_)
  refine zr_callV hX dX1_lampedAbove_11 (m_R_heightOf ho hq1) ho rfl rfl (z5 ww_358 ww_359 ww_360 ww_74 ww_361) hy_X1_heightOf rfl (Nat.le_of_ble_eq_true rfl) (Nat.le_of_ble_eq_true rfl) (Nat.le_of_ble_eq_true rfl) ?_
  refine zr_icmpge (tgt := 37) hX dX1_lampedAbove_14 rfl h (fun h => ?_) (fun h => ?_)
  · refine zr_iload_n hX dX1_lampedAbove_37 rfl rfl ?_
    exact zr_iret hX dX1_lampedAbove_38 hF h
  · refine zr_aload_n hX dX1_lampedAbove_17 rfl rfl ?_
    refine zr_iload_n hX dX1_lampedAbove_18 rfl rfl ?_
    refine zr_iload hX dX1_lampedAbove_19 rfl ?_
    refine zP_bind h (fun q2 hq2 h => ?_)
    refine zr_callV hX dX1_lampedAbove_21 (m_R_kindAt ho hq2) ho rfl rfl (z5 ww_396 ww_397 ww_398 ww_74 ww_399) hy_X1_kindAt rfl (Nat.le_of_ble_eq_true rfl) (Nat.le_of_ble_eq_true rfl) (Nat.le_of_ble_eq_true rfl) ?_
    refine zr_iconst hX dX1_lampedAbove_24 (zrl rfl) ?_
    refine zr_icmpne (tgt := 31) hX dX1_lampedAbove_25 rfl h (fun h => ?_) (fun h => ?_)
    · refine zr_iinc hX dX1_lampedAbove_31 rfl (Nat.le_of_ble_eq_true rfl) ?_
      refine zr_goto hX dX1_lampedAbove_34 (tgt := 7) rfl ?_
      exact zW_lf (k_R_lampedAbove_7 h) (And.intro rfl (And.intro rfl (And.intro rfl (And.intro rfl trivial))))
    · refine zr_iinc hX dX1_lampedAbove_28 rfl (Nat.le_of_ble_eq_true rfl) ?_
      refine zr_iinc hX dX1_lampedAbove_31 rfl (Nat.le_of_ble_eq_true rfl) ?_
      refine zr_goto hX dX1_lampedAbove_34 (tgt := 7) rfl ?_
      exact zW_lf (k_R_lampedAbove_7 h) (And.intro rfl (And.intro rfl (And.intro rfl (And.intro rfl trivial))))
set_option maxRecDepth 100000 in
set_option maxHeartbeats 4000000 in
theorem w_R_lampedAbove_e {X : zX} {G : zG} {o : Nat} {v1 : Int} {v2 : Int} {μ : zM} {rv : Option zV} {ν : zM} (hX : zOk X G cX1_lampedAbove RX1 5 (some .int) 3) (hF : zFin X G rv ν) (ho : zsh o = (0, 1)) (h : zP (Sum.elim (k_R_lampedAbove X G o v1 v2 μ) (fun r : Int => (some (zI r), μ) = (rv, ν))) (e_R_lampedAbove o v1 v2 μ)) : zW X G 5 0 [some (zR o), some (zI v1), some (zI v2), none, none] [] μ := by
  refine zr_iconst hX dX1_lampedAbove_0 (zrl rfl) ?_
  refine zr_istore_n hX dX1_lampedAbove_1 rfl (Nat.le_of_ble_eq_true rfl) ?_
  refine zr_iload_n hX dX1_lampedAbove_2 rfl rfl ?_
  refine zr_iconst hX dX1_lampedAbove_3 (zrl rfl) ?_
  refine zr_iadd hX dX1_lampedAbove_4 ?_
  refine zr_istore hX dX1_lampedAbove_5 (Nat.le_of_ble_eq_true rfl) ?_
  exact zW_lf (k_R_lampedAbove_7 h) (And.intro rfl (And.intro rfl (And.intro rfl (And.intro rfl trivial))))
set_option maxRecDepth 100000 in
theorem m_R_lampedAbove {l : Launch} {G : zG} {o : Nat} {v1 : Int} {v2 : Int} {μ : zM} (ho : zsh o = (0, 1)) {q : Int} (hq : f_R_lampedAbove o v1 v2 μ = some q) : zCT l G yX1_lampedAbove cX1_lampedAbove 5 (some .int) 3 [zR o, zI v1, zI v2] μ (some (zI q)) μ := by
  refine zMet (lv := [some (zR o), some (zI v1), some (zI v2), none, none]) (k := 2) pl_X1 rfl (Nat.le_of_ble_eq_true rfl) (fun X hl hX hF _ _ => ?_)
  refine w_R_lampedAbove_e hX hF ho (zgo_K (r := q) (step := t_R_lampedAbove o v1 v2 μ) (fun s h => ?_) rfl hq)
  exact w_R_lampedAbove_7 hX hF ho h
set_option maxRecDepth 100000 in
set_option maxHeartbeats 4000000 in
theorem w_L_lampsAnHour_e {X : zX} {G : zG} {v0 : Int} {μ : zM} {rv : Option zV} {ν : zM} (hX : zOk X G cX0_lampsAnHour RX0 1 (some .int) 1) (hF : zFin X G rv ν) (h : zP (fun r : Int => (some (zI r), μ) = (rv, ν)) (fo_L_lampsAnHour v0)) : zW X G 1 0 [some (zI v0)] [] μ := by
  refine zr_iload_n hX dX0_lampsAnHour_0 rfl rfl ?_
  refine zr_iconst hX dX0_lampsAnHour_1 (zrl rfl) ?_
  refine zr_icmpne (tgt := 9) hX dX0_lampsAnHour_2 rfl h (fun h => ?_) (fun h => ?_)
  · refine zr_iload_n hX dX0_lampsAnHour_9 rfl rfl ?_
    refine zr_iconst hX dX0_lampsAnHour_10 (zrl rfl) ?_
    refine zr_icmpne (tgt := 18) hX dX0_lampsAnHour_11 rfl h (fun h => ?_) (fun h => ?_)
    · refine zr_iconst hX dX0_lampsAnHour_18 (zrl rfl) ?_
      exact zr_iret hX dX0_lampsAnHour_19 hF h
    · refine zr_iconst hX dX0_lampsAnHour_14 (zrl rfl) ?_
      refine zr_goto hX dX0_lampsAnHour_15 (tgt := 19) rfl ?_
      exact zr_iret hX dX0_lampsAnHour_19 hF h
  · refine zr_iconst hX dX0_lampsAnHour_5 (zrl rfl) ?_
    refine zr_goto hX dX0_lampsAnHour_6 (tgt := 19) rfl ?_
    exact zr_iret hX dX0_lampsAnHour_19 hF h
set_option maxRecDepth 100000 in
theorem m_L_lampsAnHour {l : Launch} {G : zG} {v0 : Int} {μ : zM} : zCT l G yX0_lampsAnHour cX0_lampsAnHour 1 (some .int) 1 [zI v0] μ (some (zI (f_L_lampsAnHour v0))) μ := by
  refine zMet (lv := [some (zI v0)]) (k := 0) pl_X0 rfl (Nat.le_of_ble_eq_true rfl) (fun X hl hX hF _ _ => ?_)
  exact w_L_lampsAnHour_e hX hF (by rw [fo_L_lampsAnHour_eq]; rfl)
set_option maxRecDepth 100000 in
set_option maxHeartbeats 4000000 in
theorem w_X_isOf_15 {X : zX} {G : zG} {v0 : Int} {v1 : Int} {μ : zM} {rv : Option zV} {ν : zM} (hX : zOk X G cX5_isOf RX5 2 (some .boolean) 1) (hF : zFin X G rv ν) (h : zP (fun r : Int => (some (zI r), μ) = (rv, ν)) (j_X_isOf_15 v0 v1 )) : zW X G 2 15 [some (zI v0), some (zI v1)] [] μ := by
  refine zr_iload_n hX dX5_isOf_15 rfl rfl ?_
  refine zr_iconst hX dX5_isOf_16 (zrl rfl) ?_
  refine zr_icmpne (tgt := 29) hX dX5_isOf_17 rfl h (fun h => ?_) (fun h => ?_)
  · refine zr_iconst hX dX5_isOf_29 (zrl rfl) ?_
    exact zr_bretc hX dX5_isOf_30 hF (Or.inl rfl) h
  · refine zr_iload_n hX dX5_isOf_20 rfl rfl ?_
    refine zr_iconst hX dX5_isOf_21 (zrl rfl) ?_
    refine zr_icmpne (tgt := 29) hX dX5_isOf_22 rfl h (fun h => ?_) (fun h => ?_)
    · refine zr_iconst hX dX5_isOf_29 (zrl rfl) ?_
      exact zr_bretc hX dX5_isOf_30 hF (Or.inl rfl) h
    · refine zr_iconst hX dX5_isOf_25 (zrl rfl) ?_
      refine zr_goto hX dX5_isOf_26 (tgt := 30) rfl ?_
      exact zr_bretc hX dX5_isOf_30 hF (Or.inr rfl) h
set_option maxRecDepth 100000 in
set_option maxHeartbeats 4000000 in
theorem w_X_isOf_e {X : zX} {G : zG} {v0 : Int} {v1 : Int} {μ : zM} {rv : Option zV} {ν : zM} (hX : zOk X G cX5_isOf RX5 2 (some .boolean) 1) (hF : zFin X G rv ν) (h : zP (fun r : Int => (some (zI r), μ) = (rv, ν)) (f_X_isOf v0 v1)) : zW X G 2 0 [some (zI v0), some (zI v1)] [] μ := by
  refine zr_iload_n hX dX5_isOf_0 rfl rfl ?_
  refine zr_iload_n hX dX5_isOf_1 rfl rfl ?_
  refine zr_icmpeq (tgt := 25) hX dX5_isOf_2 rfl h (fun h => ?_) (fun h => ?_)
  · refine zr_iconst hX dX5_isOf_25 (zrl rfl) ?_
    refine zr_goto hX dX5_isOf_26 (tgt := 30) rfl ?_
    exact zr_bretc hX dX5_isOf_30 hF (Or.inr rfl) h
  · refine zr_iload_n hX dX5_isOf_5 rfl rfl ?_
    refine zr_iconst hX dX5_isOf_6 (zrl rfl) ?_
    refine zr_icmpne (tgt := 15) hX dX5_isOf_7 rfl h (fun h => ?_) (fun h => ?_)
    · exact zW_lf (w_X_isOf_15 hX hF h) (And.intro rfl (And.intro rfl trivial))
    · refine zr_iload_n hX dX5_isOf_10 rfl rfl ?_
      refine zr_iconst hX dX5_isOf_11 (zrl rfl) ?_
      refine zr_icmpeq (tgt := 25) hX dX5_isOf_12 rfl h (fun h => ?_) (fun h => ?_)
      · refine zr_iconst hX dX5_isOf_25 (zrl rfl) ?_
        refine zr_goto hX dX5_isOf_26 (tgt := 30) rfl ?_
        exact zr_bretc hX dX5_isOf_30 hF (Or.inr rfl) h
      · exact zW_lf (w_X_isOf_15 hX hF h) (And.intro rfl (And.intro rfl trivial))
set_option maxRecDepth 100000 in
theorem m_X_isOf {l : Launch} {G : zG} {v0 : Int} {v1 : Int} {μ : zM} {q : Int} (hq : f_X_isOf v0 v1 = some q) : zCT l G yX5_isOf cX5_isOf 2 (some .boolean) 1 [zI v0, zI v1] μ (some (zI q)) μ := by
  refine zMet (lv := [some (zI v0), some (zI v1)]) (k := 0) pl_X5 rfl (Nat.le_of_ble_eq_true rfl) (fun X hl hX hF _ _ => ?_)
  exact w_X_isOf_e hX hF (zP_of hq rfl)
def k_R_numberOf (X : zX) (G : zG) (o : Nat) (v1 : Int) (v2 : Int) (μ : zM) : (Int × Int) → Prop := fun s => zW X G 5 5 [some (zR o), some (zI v1), none, some (zI s.1), some (zI s.2)] [] μ
theorem k_R_numberOf_5 {X : zX} {G : zG} {o : Nat} {v1 : Int} {v2 : Int} {μ : zM} {F : Int → Prop} {v3 v4 : Int} (h : zP (Sum.elim (k_R_numberOf X G o v1 v2 μ) F) (some (.inl ((v3, v4))))) : zW X G 5 5 [some (zR o), some (zI v1), none, some (zI v3), some (zI v4)] [] μ := h
set_option maxRecDepth 100000 in
set_option maxHeartbeats 4000000 in
theorem w_R_numberOf_5 {X : zX} {G : zG} {o : Nat} {v1 : Int} {v2 : Int} {μ : zM} {rv : Option zV} {ν : zM} (hX : zOk X G cX1_numberOf RX1 5 (some .int) 2) (hF : zFin X G rv ν) (ho : zsh o = (0, 1)) {v3 v4 : Int} (h : zP (Sum.elim (k_R_numberOf X G o v1 v2 μ) (fun r : Int => (some (zI r), μ) = (rv, ν))) (b_R_numberOf_5 o v1 v2 v3 v4 μ)) : zW X G 5 5 [some (zR o), some (zI v1), none, some (zI v3), some (zI v4)] [] μ := by
  refine zr_iload hX dX1_numberOf_5 rfl ?_
  refine zr_iload_n hX dX1_numberOf_7 rfl rfl ?_
  refine zr_icmpge (tgt := 26) hX dX1_numberOf_8 rfl h (fun h => ?_) (fun h => ?_)
  · refine zr_iload_n hX dX1_numberOf_26 rfl rfl ?_
    exact zr_iret hX dX1_numberOf_27 hF h
  · refine zr_iload_n hX dX1_numberOf_11 rfl rfl ?_
    refine zr_aload_n hX dX1_numberOf_12 rfl rfl ?_
    refine zr_iload hX dX1_numberOf_13 rfl ?_
    refine zP_bind h (fun q1 hq1 h => ?_)
    refine zr_callV hX dX1_numberOf_15 (m_R_heightOf ho hq1) ho rfl rfl (z5 ww_358 ww_359 ww_360 ww_74 ww_361) hy_X1_heightOf rfl (Nat.le_of_ble_eq_true rfl) (Nat.le_of_ble_eq_true rfl) (Nat.le_of_ble_eq_true rfl) ?_
    refine zr_iadd hX dX1_numberOf_18 ?_
    refine zr_istore_n hX dX1_numberOf_19 rfl (Nat.le_of_ble_eq_true rfl) ?_
    refine zr_iinc hX dX1_numberOf_20 rfl (Nat.le_of_ble_eq_true rfl) ?_
    refine zr_goto hX dX1_numberOf_23 (tgt := 5) rfl ?_
    exact zW_lf (k_R_numberOf_5 h) (And.intro rfl (And.intro rfl (And.intro rfl (And.intro rfl trivial))))
set_option maxRecDepth 100000 in
set_option maxHeartbeats 4000000 in
theorem w_R_numberOf_e {X : zX} {G : zG} {o : Nat} {v1 : Int} {v2 : Int} {μ : zM} {rv : Option zV} {ν : zM} (hX : zOk X G cX1_numberOf RX1 5 (some .int) 2) (hF : zFin X G rv ν) (ho : zsh o = (0, 1)) (h : zP (Sum.elim (k_R_numberOf X G o v1 v2 μ) (fun r : Int => (some (zI r), μ) = (rv, ν))) (e_R_numberOf o v1 v2 μ)) : zW X G 5 0 [some (zR o), some (zI v1), some (zI v2), none, none] [] μ := by
  refine zr_iload_n hX dX1_numberOf_0 rfl rfl ?_
  refine zr_istore_n hX dX1_numberOf_1 rfl (Nat.le_of_ble_eq_true rfl) ?_
  refine zr_iconst hX dX1_numberOf_2 (zrl rfl) ?_
  refine zr_istore hX dX1_numberOf_3 (Nat.le_of_ble_eq_true rfl) ?_
  exact zW_lf (k_R_numberOf_5 h) (And.intro rfl (And.intro rfl (And.intro rfl (And.intro rfl trivial))))
set_option maxRecDepth 100000 in
theorem m_R_numberOf {l : Launch} {G : zG} {o : Nat} {v1 : Int} {v2 : Int} {μ : zM} (ho : zsh o = (0, 1)) {q : Int} (hq : f_R_numberOf o v1 v2 μ = some q) : zCT l G yX1_numberOf cX1_numberOf 5 (some .int) 2 [zR o, zI v1, zI v2] μ (some (zI q)) μ := by
  refine zMet (lv := [some (zR o), some (zI v1), some (zI v2), none, none]) (k := 2) pl_X1 rfl (Nat.le_of_ble_eq_true rfl) (fun X hl hX hF _ _ => ?_)
  refine w_R_numberOf_e hX hF ho (zgo_K (r := q) (step := t_R_numberOf o v1 v2 μ) (fun s h => ?_) rfl hq)
  exact w_R_numberOf_5 hX hF ho h
def k_R_shaderOf (X : zX) (G : zG) (o : Nat) (v1 : Int) (v2 : Int) (v3 : Int) (μ : zM) : Int → Prop := fun s => zW X G 7 26 [some (zR o), some (zI v1), some (zI v2), some (zI v3), some (zI s), none, none] [] μ
theorem k_R_shaderOf_26 {X : zX} {G : zG} {o : Nat} {v1 : Int} {v2 : Int} {v3 : Int} {μ : zM} {F : Int → Prop} {v4 : Int} (h : zP (Sum.elim (k_R_shaderOf X G o v1 v2 v3 μ) F) (some (.inl (v4)))) : zW X G 7 26 [some (zR o), some (zI v1), some (zI v2), some (zI v3), some (zI v4), none, none] [] μ := h
set_option maxRecDepth 100000 in
set_option maxHeartbeats 4000000 in
theorem w_R_shaderOf_26 {X : zX} {G : zG} {o : Nat} {v1 : Int} {v2 : Int} {v3 : Int} {μ : zM} {rv : Option zV} {ν : zM} (hX : zOk X G cX1_shaderOf RX1 7 (some .int) 3) (hF : zFin X G rv ν) (ho : zsh o = (0, 1)) {v4 : Int} (h : zP (Sum.elim (k_R_shaderOf X G o v1 v2 v3 μ) (fun r : Int => (some (zI r), μ) = (rv, ν))) (b_R_shaderOf_26 o v1 v2 v3 v4 μ)) : zW X G 7 26 [some (zR o), some (zI v1), some (zI v2), some (zI v3), some (zI v4), none, none] [] μ := by
  refine zr_iload hX dX1_shaderOf_26 rfl ?_
  refine zr_bipush hX dX1_shaderOf_28 rfl ?_
  refine zr_icmpge (tgt := 98) hX dX1_shaderOf_30 rfl h (fun h => ?_) (fun h => ?_)
  · refine zr_bipush hX dX1_shaderOf_98 rfl ?_
    exact zr_iret hX dX1_shaderOf_100 hF h
  · refine zr_iload_n hX dX1_shaderOf_33 rfl rfl ?_
    refine zr_iload hX dX1_shaderOf_34 rfl ?_
    refine zr_getsN hX dX1_shaderOf_36 (j := 2) (Nat.le_of_ble_eq_true rfl) nf_X1_99 ?_
    refine zr_iload_n hX dX1_shaderOf_39 rfl rfl ?_
    refine zr_sald (j := 2) (N := 5) hX dX1_shaderOf_40 (Nat.le_of_ble_eq_true rfl) rfl h (fun h => ?_)
    refine zr_imul hX dX1_shaderOf_41 ?_
    refine zr_iadd hX dX1_shaderOf_42 ?_
    refine zr_istore hX dX1_shaderOf_43 (Nat.le_of_ble_eq_true rfl) ?_
    refine zr_iload_n hX dX1_shaderOf_45 rfl rfl ?_
    refine zr_iload hX dX1_shaderOf_46 rfl ?_
    refine zr_getsN hX dX1_shaderOf_48 (j := 3) (Nat.le_of_ble_eq_true rfl) nf_X1_102 ?_
    refine zr_iload_n hX dX1_shaderOf_51 rfl rfl ?_
    refine zr_sald (j := 3) (N := 5) hX dX1_shaderOf_52 (Nat.le_of_ble_eq_true rfl) rfl h (fun h => ?_)
    refine zr_imul hX dX1_shaderOf_53 ?_
    refine zr_iadd hX dX1_shaderOf_54 ?_
    refine zr_istore hX dX1_shaderOf_55 (Nat.le_of_ble_eq_true rfl) ?_
    refine zr_aload_n hX dX1_shaderOf_57 rfl rfl ?_
    refine zr_iload hX dX1_shaderOf_58 rfl ?_
    refine zr_iload hX dX1_shaderOf_60 rfl ?_
    refine zP_bind h (fun q1 hq1 h => ?_)
    refine zr_callV hX dX1_shaderOf_62 (m_R_has ho hq1) ho rfl rfl (z5 ww_374 ww_375 ww_376 ww_74 ww_377) hy_X1_has rfl (Nat.le_of_ble_eq_true rfl) (Nat.le_of_ble_eq_true rfl) (Nat.le_of_ble_eq_true rfl) ?_
    refine zr_ifeq (tgt := 92) hX dX1_shaderOf_65 rfl h (fun h => ?_) (fun h => ?_)
    · refine zr_iinc hX dX1_shaderOf_92 rfl (Nat.le_of_ble_eq_true rfl) ?_
      refine zr_goto hX dX1_shaderOf_95 (tgt := 26) rfl ?_
      exact zW_lf (k_R_shaderOf_26 h) (And.intro rfl (And.intro rfl (And.intro rfl (And.intro rfl (And.intro rfl trivial)))))
    · refine zr_aload_n hX dX1_shaderOf_68 rfl rfl ?_
      refine zr_iload hX dX1_shaderOf_69 rfl ?_
      refine zr_iload hX dX1_shaderOf_71 rfl ?_
      refine zP_bind h (fun q2 hq2 h => ?_)
      refine zr_callV hX dX1_shaderOf_73 (m_R_kindAt ho hq2) ho rfl rfl (z5 ww_396 ww_397 ww_398 ww_74 ww_399) hy_X1_kindAt rfl (Nat.le_of_ble_eq_true rfl) (Nat.le_of_ble_eq_true rfl) (Nat.le_of_ble_eq_true rfl) ?_
      refine zr_iconst hX dX1_shaderOf_76 (zrl rfl) ?_
      refine zP_bind h (fun q3 hq3 h => ?_)
      refine zr_callSN hX dX1_shaderOf_77 (m_X_isOf hq3) rfl nm_X1_84 (z3 ww_470 ww_70 ww_471) hy_X5_isOf rfl (Nat.le_of_ble_eq_true rfl) (Nat.le_of_ble_eq_true rfl) (Nat.le_of_ble_eq_true rfl) ?_
      refine zr_ifne (tgt := 92) hX dX1_shaderOf_80 rfl h (fun h => ?_) (fun h => ?_)
      · refine zr_iinc hX dX1_shaderOf_92 rfl (Nat.le_of_ble_eq_true rfl) ?_
        refine zr_goto hX dX1_shaderOf_95 (tgt := 26) rfl ?_
        exact zW_lf (k_R_shaderOf_26 h) (And.intro rfl (And.intro rfl (And.intro rfl (And.intro rfl (And.intro rfl trivial)))))
      · refine zr_aload_n hX dX1_shaderOf_83 rfl rfl ?_
        refine zr_iload hX dX1_shaderOf_84 rfl ?_
        refine zr_iload hX dX1_shaderOf_86 rfl ?_
        refine zP_bind h (fun q4 hq4 h => ?_)
        refine zr_callV hX dX1_shaderOf_88 (m_R_numberOf ho hq4) ho rfl rfl (z5 ww_472 ww_473 ww_474 ww_74 ww_475) hy_X1_numberOf rfl (Nat.le_of_ble_eq_true rfl) (Nat.le_of_ble_eq_true rfl) (Nat.le_of_ble_eq_true rfl) ?_
        exact zr_iret hX dX1_shaderOf_91 hF h
set_option maxRecDepth 100000 in
set_option maxHeartbeats 4000000 in
theorem w_R_shaderOf_e {X : zX} {G : zG} {o : Nat} {v1 : Int} {v2 : Int} {v3 : Int} {μ : zM} {rv : Option zV} {ν : zM} (hX : zOk X G cX1_shaderOf RX1 7 (some .int) 3) (hF : zFin X G rv ν) (ho : zsh o = (0, 1)) (h : zP (Sum.elim (k_R_shaderOf X G o v1 v2 v3 μ) (fun r : Int => (some (zI r), μ) = (rv, ν))) (e_R_shaderOf o v1 v2 v3 μ)) : zW X G 7 0 [some (zR o), some (zI v1), some (zI v2), some (zI v3), none, none, none] [] μ := by
  refine zr_iload_n hX dX1_shaderOf_0 rfl rfl ?_
  refine zr_iflt (tgt := 20) hX dX1_shaderOf_1 rfl h (fun h => ?_) (fun h => ?_)
  · refine zr_bipush hX dX1_shaderOf_20 rfl ?_
    exact zr_iret hX dX1_shaderOf_22 hF h
  · refine zr_iload_n hX dX1_shaderOf_4 rfl rfl ?_
    refine zr_getsN hX dX1_shaderOf_5 (j := 2) (Nat.le_of_ble_eq_true rfl) nf_X1_99 ?_
    refine zr_slen hX dX1_shaderOf_8 (N := 5) (Nat.le_of_ble_eq_true rfl) rfl (zrl rfl) ?_
    refine zr_icmpge (tgt := 20) hX dX1_shaderOf_9 rfl h (fun h => ?_) (fun h => ?_)
    · refine zr_bipush hX dX1_shaderOf_20 rfl ?_
      exact zr_iret hX dX1_shaderOf_22 hF h
    · refine zr_iload_n hX dX1_shaderOf_12 rfl rfl ?_
      refine zr_getsN hX dX1_shaderOf_13 (j := 3) (Nat.le_of_ble_eq_true rfl) nf_X1_102 ?_
      refine zr_slen hX dX1_shaderOf_16 (N := 5) (Nat.le_of_ble_eq_true rfl) rfl (zrl rfl) ?_
      refine zr_icmplt (tgt := 23) hX dX1_shaderOf_17 rfl h (fun h => ?_) (fun h => ?_)
      · refine zr_iconst hX dX1_shaderOf_23 (zrl rfl) ?_
        refine zr_istore hX dX1_shaderOf_24 (Nat.le_of_ble_eq_true rfl) ?_
        exact zW_lf (k_R_shaderOf_26 h) (And.intro rfl (And.intro rfl (And.intro rfl (And.intro rfl (And.intro rfl trivial)))))
      · refine zr_bipush hX dX1_shaderOf_20 rfl ?_
        exact zr_iret hX dX1_shaderOf_22 hF h
set_option maxRecDepth 100000 in
theorem m_R_shaderOf {l : Launch} {G : zG} {o : Nat} {v1 : Int} {v2 : Int} {v3 : Int} {μ : zM} (ho : zsh o = (0, 1)) {q : Int} (hq : f_R_shaderOf o v1 v2 v3 μ = some q) : zCT l G yX1_shaderOf cX1_shaderOf 7 (some .int) 3 [zR o, zI v1, zI v2, zI v3] μ (some (zI q)) μ := by
  refine zMet (lv := [some (zR o), some (zI v1), some (zI v2), some (zI v3), none, none, none]) (k := 3) pl_X1 rfl (Nat.le_of_ble_eq_true rfl) (fun X hl hX hF _ _ => ?_)
  refine w_R_shaderOf_e hX hF ho (zgo_K (r := q) (step := t_R_shaderOf o v1 v2 v3 μ) (fun s h => ?_) rfl hq)
  exact w_R_shaderOf_26 hX hF ho h
set_option maxRecDepth 100000 in
set_option maxHeartbeats 4000000 in
theorem w_L_charge_e {X : zX} {G : zG} {v1 : Int} {v2 : Int} {v3 : Int} {μ : zM} {rv : Option zV} {ν : zM} (hX : zOk X G cX0_charge RX0 4 none 2) (hF : zFin X G rv ν) (h : zP (fun r : zM => ((none : Option zV), r) = (rv, ν)) (f_L_charge v1 v2 v3 μ)) : zW X G 4 0 [some (zR 16), some (zI v1), some (zI v2), some (zI v3)] [] μ := by
  refine zr_aload_n hX dX0_charge_0 rfl rfl ?_
  refine zr_iload_n hX dX0_charge_1 rfl rfl ?_
  refine zr_callV hX dX0_charge_2 (m_L_isNumber) rfl rfl rfl (z5 ww_449 ww_451 ww_6 ww_75 ww_452) hy_X0_isNumber rfl (Nat.le_of_ble_eq_true rfl) (Nat.le_of_ble_eq_true rfl) (Nat.le_of_ble_eq_true rfl) ?_
  refine zr_ifeq (tgt := 61) hX dX0_charge_5 rfl h (fun h => ?_) (fun h => ?_)
  · exact zr_vret hX dX0_charge_61 hF h
  · refine zr_aload_n hX dX0_charge_8 rfl rfl ?_
    refine zr_iload_n hX dX0_charge_9 rfl rfl ?_
    refine zr_callV hX dX0_charge_10 (m_L_isNumber) rfl rfl rfl (z5 ww_449 ww_451 ww_6 ww_75 ww_452) hy_X0_isNumber rfl (Nat.le_of_ble_eq_true rfl) (Nat.le_of_ble_eq_true rfl) (Nat.le_of_ble_eq_true rfl) ?_
    refine zr_ifeq (tgt := 61) hX dX0_charge_13 rfl h (fun h => ?_) (fun h => ?_)
    · exact zr_vret hX dX0_charge_61 hF h
    · refine zr_aload_n hX dX0_charge_16 rfl rfl ?_
      refine zr_getr hX dX0_charge_17 (k := 6) (q := 21) rfl rfl ww_164 rfl ?_
      refine zr_iload_n hX dX0_charge_20 rfl rfl ?_
      refine zr_bipush hX dX0_charge_21 rfl ?_
      refine zr_imul hX dX0_charge_23 ?_
      refine zr_iload_n hX dX0_charge_24 rfl rfl ?_
      refine zr_iadd hX dX0_charge_25 ?_
      refine zr_dup2 hX dX0_charge_26 rfl rfl ?_
      refine zr_iald (N := 144) hX dX0_charge_27 rfl rfl h (fun h => ?_)
      refine zr_iload_n hX dX0_charge_28 rfl rfl ?_
      refine zr_iadd hX dX0_charge_29 ?_
      refine zr_iast (N := 144) hX dX0_charge_30 rfl rfl h (fun h => ?_)
      refine zr_aload_n hX dX0_charge_31 rfl rfl ?_
      refine zr_getr hX dX0_charge_32 (k := 4) (q := 19) rfl rfl ww_162 rfl ?_
      refine zr_iload_n hX dX0_charge_35 rfl rfl ?_
      refine zr_dup2 hX dX0_charge_36 rfl rfl ?_
      refine zr_iald (N := 12) hX dX0_charge_37 rfl rfl h (fun h => ?_)
      refine zr_iload_n hX dX0_charge_38 rfl rfl ?_
      refine zr_iadd hX dX0_charge_39 ?_
      refine zr_iast (N := 12) hX dX0_charge_40 rfl rfl h (fun h => ?_)
      refine zr_aload_n hX dX0_charge_41 rfl rfl ?_
      refine zr_getr hX dX0_charge_42 (k := 5) (q := 20) rfl rfl ww_163 rfl ?_
      refine zr_iload_n hX dX0_charge_45 rfl rfl ?_
      refine zr_dup2 hX dX0_charge_46 rfl rfl ?_
      refine zr_iald (N := 12) hX dX0_charge_47 rfl rfl h (fun h => ?_)
      refine zr_iload_n hX dX0_charge_48 rfl rfl ?_
      refine zr_iadd hX dX0_charge_49 ?_
      refine zr_iast (N := 12) hX dX0_charge_50 rfl rfl h (fun h => ?_)
      refine zr_aload_n hX dX0_charge_51 rfl rfl ?_
      refine zr_dup hX dX0_charge_52 rfl ?_
      refine zr_geti hX dX0_charge_53 (k := 1) rfl rfl ww_158 ?_
      refine zr_iload_n hX dX0_charge_56 rfl rfl ?_
      refine zr_iadd hX dX0_charge_57 ?_
      refine zr_puti hX dX0_charge_58 (k := 1) rfl rfl ww_158 rfl (by decide +kernel) ?_
      exact zr_vret hX dX0_charge_61 hF h
set_option maxRecDepth 100000 in
theorem m_L_charge {l : Launch} {G : zG} {v1 : Int} {v2 : Int} {v3 : Int} {μ : zM} {q : zM} (hq : f_L_charge v1 v2 v3 μ = some q) : zCT l G yX0_charge cX0_charge 4 none 2 [zR 16, zI v1, zI v2, zI v3] μ (none) q := by
  refine zMet (lv := [some (zR 16), some (zI v1), some (zI v2), some (zI v3)]) (k := 0) pl_X0 rfl (Nat.le_of_ble_eq_true rfl) (fun X hl hX hF _ _ => ?_)
  exact w_L_charge_e hX hF (zP_of hq rfl)
def k_L_reckonHouse (X : zX) (G : zG) (o1 : Nat) (v2 : Int) (v3 : Int) (v4 : Int) : (Int × Int × zM) → Prop := fun s => zW X G 8 45 [some (zR 16), some (zR o1), some (zI v2), some (zI v3), some (zI v4), some (zI s.1), some (zI s.2.1), none] [] s.2.2
theorem k_L_reckonHouse_45 {X : zX} {G : zG} {o1 : Nat} {v2 : Int} {v3 : Int} {v4 : Int} {F : zM → Prop} {v5 v6 : Int} {κ : zM} (h : zP (Sum.elim (k_L_reckonHouse X G o1 v2 v3 v4) F) (some (.inl ((v5, v6, κ))))) : zW X G 8 45 [some (zR 16), some (zR o1), some (zI v2), some (zI v3), some (zI v4), some (zI v5), some (zI v6), none] [] κ := h
set_option maxRecDepth 100000 in
set_option maxHeartbeats 4000000 in
theorem w_L_reckonHouse_45 {X : zX} {G : zG} {o1 : Nat} {v2 : Int} {v3 : Int} {v4 : Int} {μ : zM} {rv : Option zV} {ν : zM} (hX : zOk X G cX0_reckonHouse RX0 8 none 4) (hF : zFin X G rv ν) (ho1 : zsh o1 = (0, 1)) {v5 v6 : Int} (h : zP (Sum.elim (k_L_reckonHouse X G o1 v2 v3 v4) (fun r : zM => ((none : Option zV), r) = (rv, ν))) (b_L_reckonHouse_45 o1 v2 v3 v4 v5 v6 μ)) : zW X G 8 45 [some (zR 16), some (zR o1), some (zI v2), some (zI v3), some (zI v4), some (zI v5), some (zI v6), none] [] μ := by
  refine zr_iload hX dX0_reckonHouse_45 rfl ?_
  refine zr_iconst hX dX0_reckonHouse_47 (zrl rfl) ?_
  refine zr_icmpge (tgt := 101) hX dX0_reckonHouse_48 rfl h (fun h => ?_) (fun h => ?_)
  · exact zr_vret hX dX0_reckonHouse_101 hF h
  · refine zr_aload_n hX dX0_reckonHouse_51 rfl rfl ?_
    refine zr_iload_n hX dX0_reckonHouse_52 rfl rfl ?_
    refine zr_iload_n hX dX0_reckonHouse_53 rfl rfl ?_
    refine zr_iload hX dX0_reckonHouse_54 rfl ?_
    refine zP_bind h (fun q3 hq3 h => ?_)
    refine zr_callV hX dX0_reckonHouse_56 (m_R_shaderOf ho1 hq3) ho1 rfl rfl (z5 ww_461 ww_462 ww_463 ww_74 ww_464) hy_X1_shaderOf rfl (Nat.le_of_ble_eq_true rfl) (Nat.le_of_ble_eq_true rfl) (Nat.le_of_ble_eq_true rfl) ?_
    refine zr_istore hX dX0_reckonHouse_59 (Nat.le_of_ble_eq_true rfl) ?_
    refine zr_iload hX dX0_reckonHouse_61 rfl ?_
    refine zr_bipush hX dX0_reckonHouse_63 rfl ?_
    refine zr_icmpne (tgt := 85) hX dX0_reckonHouse_65 rfl h (fun h => ?_) (fun h => ?_)
    · refine zr_aload_n hX dX0_reckonHouse_85 rfl rfl ?_
      refine zr_iload hX dX0_reckonHouse_86 rfl ?_
      refine zr_iload hX dX0_reckonHouse_88 rfl ?_
      refine zr_iload hX dX0_reckonHouse_90 rfl ?_
      refine zP_bind h (fun q4 hq4 h => ?_)
      refine zr_callV hX dX0_reckonHouse_92 (m_L_charge hq4) rfl rfl rfl (z5 ww_476 ww_478 ww_7 ww_75 ww_479) hy_X0_charge rfl (Nat.le_of_ble_eq_true rfl) (Nat.le_of_ble_eq_true rfl) (Nat.le_of_ble_eq_true rfl) ?_
      refine zr_iinc hX dX0_reckonHouse_95 rfl (Nat.le_of_ble_eq_true rfl) ?_
      refine zr_goto hX dX0_reckonHouse_98 (tgt := 45) rfl ?_
      exact zW_lf (k_L_reckonHouse_45 h) (And.intro rfl (And.intro rfl (And.intro rfl (And.intro rfl (And.intro rfl (And.intro rfl (And.intro rfl trivial)))))))
    · refine zr_aload_n hX dX0_reckonHouse_68 rfl rfl ?_
      refine zr_getr hX dX0_reckonHouse_69 (k := 2) (q := 17) rfl rfl ww_160 rfl ?_
      refine zr_iload hX dX0_reckonHouse_72 rfl ?_
      refine zr_dup2 hX dX0_reckonHouse_74 rfl rfl ?_
      refine zr_iald (N := 12) hX dX0_reckonHouse_75 rfl rfl h (fun h => ?_)
      refine zr_iconst hX dX0_reckonHouse_76 (zrl rfl) ?_
      refine zr_iload hX dX0_reckonHouse_77 rfl ?_
      refine zr_ishl hX dX0_reckonHouse_79 ?_
      refine zr_ior hX dX0_reckonHouse_80 ?_
      refine zr_iast (N := 12) hX dX0_reckonHouse_81 rfl rfl h (fun h => ?_)
      refine zr_goto hX dX0_reckonHouse_82 (tgt := 95) rfl ?_
      refine zr_iinc hX dX0_reckonHouse_95 rfl (Nat.le_of_ble_eq_true rfl) ?_
      refine zr_goto hX dX0_reckonHouse_98 (tgt := 45) rfl ?_
      exact zW_lf (k_L_reckonHouse_45 h) (And.intro rfl (And.intro rfl (And.intro rfl (And.intro rfl (And.intro rfl (And.intro rfl (And.intro rfl trivial)))))))
set_option maxRecDepth 100000 in
set_option maxHeartbeats 4000000 in
theorem w_L_reckonHouse_e {X : zX} {G : zG} {o1 : Nat} {v2 : Int} {v3 : Int} {v4 : Int} {μ : zM} {rv : Option zV} {ν : zM} (hX : zOk X G cX0_reckonHouse RX0 8 none 4) (hF : zFin X G rv ν) (ho1 : zsh o1 = (0, 1)) (h : zP (Sum.elim (k_L_reckonHouse X G o1 v2 v3 v4) (fun r : zM => ((none : Option zV), r) = (rv, ν))) (e_L_reckonHouse o1 v2 v3 v4 μ)) : zW X G 8 0 [some (zR 16), some (zR o1), some (zI v2), some (zI v3), some (zI v4), none, none, none] [] μ := by
  refine zr_aload_n hX dX0_reckonHouse_0 rfl rfl ?_
  refine zr_iload hX dX0_reckonHouse_1 rfl ?_
  refine zr_callV hX dX0_reckonHouse_3 (m_L_isNumber) rfl rfl rfl (z5 ww_449 ww_451 ww_6 ww_75 ww_452) hy_X0_isNumber rfl (Nat.le_of_ble_eq_true rfl) (Nat.le_of_ble_eq_true rfl) (Nat.le_of_ble_eq_true rfl) ?_
  refine zr_ifne (tgt := 10) hX dX0_reckonHouse_6 rfl h (fun h => ?_) (fun h => ?_)
  · refine zr_aload_n hX dX0_reckonHouse_10 rfl rfl ?_
    refine zr_getr hX dX0_reckonHouse_11 (k := 3) (q := 18) rfl rfl ww_161 rfl ?_
    refine zr_iload hX dX0_reckonHouse_14 rfl ?_
    refine zr_aload_n hX dX0_reckonHouse_16 rfl rfl ?_
    refine zr_iload_n hX dX0_reckonHouse_17 rfl rfl ?_
    refine zr_iload_n hX dX0_reckonHouse_18 rfl rfl ?_
    refine zP_bind h (fun q1 hq1 h => ?_)
    refine zr_callV hX dX0_reckonHouse_19 (m_R_lampedAbove ho1 hq1) ho1 rfl rfl (z5 ww_453 ww_454 ww_455 ww_74 ww_456) hy_X1_lampedAbove rfl (Nat.le_of_ble_eq_true rfl) (Nat.le_of_ble_eq_true rfl) (Nat.le_of_ble_eq_true rfl) ?_
    refine zr_iast (N := 12) hX dX0_reckonHouse_22 rfl rfl h (fun h => ?_)
    refine zr_aload_n hX dX0_reckonHouse_23 rfl rfl ?_
    refine zr_getr hX dX0_reckonHouse_24 (k := 2) (q := 17) rfl rfl ww_160 rfl ?_
    refine zr_iload hX dX0_reckonHouse_27 rfl ?_
    refine zr_iconst hX dX0_reckonHouse_29 (zrl rfl) ?_
    refine zr_iast (N := 12) hX dX0_reckonHouse_30 rfl rfl h (fun h => ?_)
    refine zr_aload_n hX dX0_reckonHouse_31 rfl rfl ?_
    refine zr_iload_n hX dX0_reckonHouse_32 rfl rfl ?_
    refine zr_iload_n hX dX0_reckonHouse_33 rfl rfl ?_
    refine zP_bind h (fun q2 hq2 h => ?_)
    refine zr_callV hX dX0_reckonHouse_34 (m_R_kindAt ho1 hq2) ho1 rfl rfl (z5 ww_457 ww_397 ww_398 ww_74 ww_399) hy_X1_kindAt rfl (Nat.le_of_ble_eq_true rfl) (Nat.le_of_ble_eq_true rfl) (Nat.le_of_ble_eq_true rfl) ?_
    refine zr_callS hX dX0_reckonHouse_37 (m_L_lampsAnHour) rfl (z4 ww_458 ww_459 ww_75 ww_460) hy_X0_lampsAnHour rfl (Nat.le_of_ble_eq_true rfl) (Nat.le_of_ble_eq_true rfl) (Nat.le_of_ble_eq_true rfl) ?_
    refine zr_istore hX dX0_reckonHouse_40 (Nat.le_of_ble_eq_true rfl) ?_
    refine zr_iconst hX dX0_reckonHouse_42 (zrl rfl) ?_
    refine zr_istore hX dX0_reckonHouse_43 (Nat.le_of_ble_eq_true rfl) ?_
    exact zW_lf (k_L_reckonHouse_45 h) (And.intro rfl (And.intro rfl (And.intro rfl (And.intro rfl (And.intro rfl (And.intro rfl (And.intro rfl trivial)))))))
  · exact zr_vret hX dX0_reckonHouse_9 hF h
set_option maxRecDepth 100000 in
theorem m_L_reckonHouse {l : Launch} {G : zG} {o1 : Nat} {v2 : Int} {v3 : Int} {v4 : Int} {μ : zM} (ho1 : zsh o1 = (0, 1)) {q : zM} (hq : f_L_reckonHouse o1 v2 v3 v4 μ = some q) : zCT l G yX0_reckonHouse cX0_reckonHouse 8 none 4 [zR 16, zR o1, zI v2, zI v3, zI v4] μ (none) q := by
  refine zMet (lv := [some (zR 16), some (zR o1), some (zI v2), some (zI v3), some (zI v4), none, none, none]) (k := 3) pl_X0 rfl (Nat.le_of_ble_eq_true rfl) (fun X hl hX hF _ _ => ?_)
  refine w_L_reckonHouse_e hX hF ho1 (zgo_K (r := q) (step := t_L_reckonHouse o1 v2 v3 v4) (fun s h => ?_) rfl hq)
  exact w_L_reckonHouse_45 hX hF ho1 h
def k_L_reckon (X : zX) (G : zG) (o1 : Nat) : ((Int × zM) ⊕ (Int × zM) ⊕ (Int × Int × zM) ⊕ (Int × Int × Int × zM)) → Prop := fun s => match s with
  | .inl (s) => zW X G 5 20 [some (zR 16), some (zR o1), some (zI s.1), none, none] [] s.2
  | .inr (.inl (s)) => zW X G 5 48 [some (zR 16), some (zR o1), some (zI s.1), none, none] [] s.2
  | .inr (.inr (.inl (s))) => zW X G 5 74 [some (zR 16), some (zR o1), some (zI s.1), some (zI s.2.1), none] [] s.2.2
  | .inr (.inr (.inr (s))) => zW X G 5 85 [some (zR 16), some (zR o1), some (zI s.1), some (zI s.2.1), some (zI s.2.2.1)] [] s.2.2.2
theorem k_L_reckon_20 {X : zX} {G : zG} {o1 : Nat} {F : zM → Prop} {v2 : Int} {κ : zM} (h : zP (Sum.elim (k_L_reckon X G o1) F) (some (.inl (.inl ((v2, κ)))))) : zW X G 5 20 [some (zR 16), some (zR o1), some (zI v2), none, none] [] κ := h
theorem k_L_reckon_48 {X : zX} {G : zG} {o1 : Nat} {F : zM → Prop} {v2 : Int} {κ : zM} (h : zP (Sum.elim (k_L_reckon X G o1) F) (some (.inl (.inr (.inl ((v2, κ))))))) : zW X G 5 48 [some (zR 16), some (zR o1), some (zI v2), none, none] [] κ := h
theorem k_L_reckon_74 {X : zX} {G : zG} {o1 : Nat} {F : zM → Prop} {v2 v3 : Int} {κ : zM} (h : zP (Sum.elim (k_L_reckon X G o1) F) (some (.inl (.inr (.inr (.inl ((v2, v3, κ)))))))) : zW X G 5 74 [some (zR 16), some (zR o1), some (zI v2), some (zI v3), none] [] κ := h
theorem k_L_reckon_85 {X : zX} {G : zG} {o1 : Nat} {F : zM → Prop} {v2 v3 v4 : Int} {κ : zM} (h : zP (Sum.elim (k_L_reckon X G o1) F) (some (.inl (.inr (.inr (.inr ((v2, v3, v4, κ)))))))) : zW X G 5 85 [some (zR 16), some (zR o1), some (zI v2), some (zI v3), some (zI v4)] [] κ := h
set_option maxRecDepth 100000 in
set_option maxHeartbeats 4000000 in
theorem w_L_reckon_20 {X : zX} {G : zG} {o1 : Nat} {μ : zM} {rv : Option zV} {ν : zM} (hX : zOk X G cX0_reckon RX0 5 none 5) (hF : zFin X G rv ν) (ho1 : zsh o1 = (0, 1)) {v2 : Int} (h : zP (Sum.elim (k_L_reckon X G o1) (fun r : zM => ((none : Option zV), r) = (rv, ν))) (b_L_reckon_20 o1 v2 μ)) : zW X G 5 20 [some (zR 16), some (zR o1), some (zI v2), none, none] [] μ := by
  refine zr_iload_n hX dX0_reckon_20 rfl rfl ?_
  refine zr_bipush hX dX0_reckon_21 rfl ?_
  refine zr_icmpge (tgt := 46) hX dX0_reckon_23 rfl h (fun h => ?_) (fun h => ?_)
  · refine zr_iconst hX dX0_reckon_46 (zrl rfl) ?_
    refine zr_istore_n hX dX0_reckon_47 rfl (Nat.le_of_ble_eq_true rfl) ?_
    exact zW_lf (k_L_reckon_48 h) (And.intro rfl (And.intro rfl (And.intro rfl trivial)))
  · refine zr_aload_n hX dX0_reckon_26 rfl rfl ?_
    refine zr_getr hX dX0_reckon_27 (k := 4) (q := 19) rfl rfl ww_162 rfl ?_
    refine zr_iload_n hX dX0_reckon_30 rfl rfl ?_
    refine zr_iconst hX dX0_reckon_31 (zrl rfl) ?_
    refine zr_iast (N := 12) hX dX0_reckon_32 rfl rfl h (fun h => ?_)
    refine zr_aload_n hX dX0_reckon_33 rfl rfl ?_
    refine zr_getr hX dX0_reckon_34 (k := 5) (q := 20) rfl rfl ww_163 rfl ?_
    refine zr_iload_n hX dX0_reckon_37 rfl rfl ?_
    refine zr_iconst hX dX0_reckon_38 (zrl rfl) ?_
    refine zr_iast (N := 12) hX dX0_reckon_39 rfl rfl h (fun h => ?_)
    refine zr_iinc hX dX0_reckon_40 rfl (Nat.le_of_ble_eq_true rfl) ?_
    refine zr_goto hX dX0_reckon_43 (tgt := 20) rfl ?_
    exact zW_lf (k_L_reckon_20 h) (And.intro rfl (And.intro rfl (And.intro rfl trivial)))
set_option maxRecDepth 100000 in
set_option maxHeartbeats 4000000 in
theorem w_L_reckon_48 {X : zX} {G : zG} {o1 : Nat} {μ : zM} {rv : Option zV} {ν : zM} (hX : zOk X G cX0_reckon RX0 5 none 5) (hF : zFin X G rv ν) (ho1 : zsh o1 = (0, 1)) {v2 : Int} (h : zP (Sum.elim (k_L_reckon X G o1) (fun r : zM => ((none : Option zV), r) = (rv, ν))) (b_L_reckon_48 o1 v2 μ)) : zW X G 5 48 [some (zR 16), some (zR o1), some (zI v2), none, none] [] μ := by
  refine zr_iload_n hX dX0_reckon_48 rfl rfl ?_
  refine zr_aload_n hX dX0_reckon_49 rfl rfl ?_
  refine zr_getr hX dX0_reckon_50 (k := 6) (q := 21) rfl rfl ww_164 rfl ?_
  refine zr_alen hX dX0_reckon_53 (N := 144) rfl rfl (zrl rfl) ?_
  refine zr_icmpge (tgt := 70) hX dX0_reckon_54 rfl h (fun h => ?_) (fun h => ?_)
  · refine zr_iconst hX dX0_reckon_70 (zrl rfl) ?_
    refine zr_istore_n hX dX0_reckon_71 rfl (Nat.le_of_ble_eq_true rfl) ?_
    refine zr_iconst hX dX0_reckon_72 (zrl rfl) ?_
    refine zr_istore_n hX dX0_reckon_73 rfl (Nat.le_of_ble_eq_true rfl) ?_
    exact zW_lf (k_L_reckon_74 h) (And.intro rfl (And.intro rfl (And.intro rfl (And.intro rfl trivial))))
  · refine zr_aload_n hX dX0_reckon_57 rfl rfl ?_
    refine zr_getr hX dX0_reckon_58 (k := 6) (q := 21) rfl rfl ww_164 rfl ?_
    refine zr_iload_n hX dX0_reckon_61 rfl rfl ?_
    refine zr_iconst hX dX0_reckon_62 (zrl rfl) ?_
    refine zr_iast (N := 144) hX dX0_reckon_63 rfl rfl h (fun h => ?_)
    refine zr_iinc hX dX0_reckon_64 rfl (Nat.le_of_ble_eq_true rfl) ?_
    refine zr_goto hX dX0_reckon_67 (tgt := 48) rfl ?_
    exact zW_lf (k_L_reckon_48 h) (And.intro rfl (And.intro rfl (And.intro rfl trivial)))
set_option maxRecDepth 100000 in
set_option maxHeartbeats 4000000 in
theorem w_L_reckon_74 {X : zX} {G : zG} {o1 : Nat} {μ : zM} {rv : Option zV} {ν : zM} (hX : zOk X G cX0_reckon RX0 5 none 5) (hF : zFin X G rv ν) (ho1 : zsh o1 = (0, 1)) {v2 v3 : Int} (h : zP (Sum.elim (k_L_reckon X G o1) (fun r : zM => ((none : Option zV), r) = (rv, ν))) (b_L_reckon_74 o1 v2 v3 μ)) : zW X G 5 74 [some (zR 16), some (zR o1), some (zI v2), some (zI v3), none] [] μ := by
  refine zr_iload_n hX dX0_reckon_74 rfl rfl ?_
  refine zr_aload_n hX dX0_reckon_75 rfl rfl ?_
  refine zr_callV hX dX0_reckon_76 (m_R_towerCount ho1) ho1 rfl rfl (z5 ww_443 ww_342 ww_343 ww_74 ww_344) hy_X1_towerCount rfl (Nat.le_of_ble_eq_true rfl) (Nat.le_of_ble_eq_true rfl) (Nat.le_of_ble_eq_true rfl) ?_
  refine zr_icmpge (tgt := 119) hX dX0_reckon_79 rfl h (fun h => ?_) (fun h => ?_)
  · exact zr_vret hX dX0_reckon_119 hF h
  · refine zr_iconst hX dX0_reckon_82 (zrl rfl) ?_
    refine zr_istore hX dX0_reckon_83 (Nat.le_of_ble_eq_true rfl) ?_
    exact zW_lf (k_L_reckon_85 h) (And.intro rfl (And.intro rfl (And.intro rfl (And.intro rfl (And.intro rfl trivial)))))
set_option maxRecDepth 100000 in
set_option maxHeartbeats 4000000 in
theorem w_L_reckon_85 {X : zX} {G : zG} {o1 : Nat} {μ : zM} {rv : Option zV} {ν : zM} (hX : zOk X G cX0_reckon RX0 5 none 5) (hF : zFin X G rv ν) (ho1 : zsh o1 = (0, 1)) {v2 v3 v4 : Int} (h : zP (Sum.elim (k_L_reckon X G o1) (fun r : zM => ((none : Option zV), r) = (rv, ν))) (b_L_reckon_85 o1 v2 v3 v4 μ)) : zW X G 5 85 [some (zR 16), some (zR o1), some (zI v2), some (zI v3), some (zI v4)] [] μ := by
  refine zr_iload hX dX0_reckon_85 rfl ?_
  refine zr_aload_n hX dX0_reckon_87 rfl rfl ?_
  refine zr_iload_n hX dX0_reckon_88 rfl rfl ?_
  refine zP_bind h (fun q1 hq1 h => ?_)
  refine zr_callV hX dX0_reckon_89 (m_R_heightOf ho1 hq1) ho1 rfl rfl (z5 ww_444 ww_359 ww_360 ww_74 ww_361) hy_X1_heightOf rfl (Nat.le_of_ble_eq_true rfl) (Nat.le_of_ble_eq_true rfl) (Nat.le_of_ble_eq_true rfl) ?_
  refine zr_icmpge (tgt := 113) hX dX0_reckon_92 rfl h (fun h => ?_) (fun h => ?_)
  · refine zr_iinc hX dX0_reckon_113 rfl (Nat.le_of_ble_eq_true rfl) ?_
    refine zr_goto hX dX0_reckon_116 (tgt := 74) rfl ?_
    exact zW_lf (k_L_reckon_74 h) (And.intro rfl (And.intro rfl (And.intro rfl (And.intro rfl trivial))))
  · refine zr_aload_n hX dX0_reckon_95 rfl rfl ?_
    refine zr_aload_n hX dX0_reckon_96 rfl rfl ?_
    refine zr_iload_n hX dX0_reckon_97 rfl rfl ?_
    refine zr_iload hX dX0_reckon_98 rfl ?_
    refine zr_iload_n hX dX0_reckon_100 rfl rfl ?_
    refine zP_bind h (fun q2 hq2 h => ?_)
    refine zr_callV hX dX0_reckon_101 (m_L_reckonHouse ho1 hq2) rfl rfl rfl (z5 ww_445 ww_447 ww_5 ww_75 ww_448) hy_X0_reckonHouse rfl (Nat.le_of_ble_eq_true rfl) (Nat.le_of_ble_eq_true rfl) (Nat.le_of_ble_eq_true rfl) ?_
    refine zr_iinc hX dX0_reckon_104 rfl (Nat.le_of_ble_eq_true rfl) ?_
    refine zr_iinc hX dX0_reckon_107 rfl (Nat.le_of_ble_eq_true rfl) ?_
    refine zr_goto hX dX0_reckon_110 (tgt := 85) rfl ?_
    exact zW_lf (k_L_reckon_85 h) (And.intro rfl (And.intro rfl (And.intro rfl (And.intro rfl (And.intro rfl trivial)))))
set_option maxRecDepth 100000 in
set_option maxHeartbeats 4000000 in
theorem w_L_reckon_e {X : zX} {G : zG} {o1 : Nat} {μ : zM} {rv : Option zV} {ν : zM} (hX : zOk X G cX0_reckon RX0 5 none 5) (hF : zFin X G rv ν) (ho1 : zsh o1 = (0, 1)) (h : zP (Sum.elim (k_L_reckon X G o1) (fun r : zM => ((none : Option zV), r) = (rv, ν))) (e_L_reckon o1 μ)) : zW X G 5 0 [some (zR 16), some (zR o1), none, none, none] [] μ := by
  refine zr_aload_n hX dX0_reckon_0 rfl rfl ?_
  refine zr_aload_n hX dX0_reckon_1 rfl rfl ?_
  refine zr_callV hX dX0_reckon_2 (m_R_houseCount ho1) ho1 rfl rfl (z5 ww_436 ww_437 ww_438 ww_74 ww_439) hy_X1_houseCount rfl (Nat.le_of_ble_eq_true rfl) (Nat.le_of_ble_eq_true rfl) (Nat.le_of_ble_eq_true rfl) ?_
  refine zr_bipush hX dX0_reckon_5 rfl ?_
  refine zr_min hX dX0_reckon_7 (by decide +kernel) (Nat.le_of_ble_eq_true rfl) (Nat.le_of_ble_eq_true rfl) ?_
  refine zr_puti hX dX0_reckon_10 (k := 0) rfl rfl ww_157 rfl (by decide +kernel) ?_
  refine zr_aload_n hX dX0_reckon_13 rfl rfl ?_
  refine zr_iconst hX dX0_reckon_14 (zrl rfl) ?_
  refine zr_puti hX dX0_reckon_15 (k := 1) rfl rfl ww_158 rfl (by decide +kernel) ?_
  refine zr_iconst hX dX0_reckon_18 (zrl rfl) ?_
  refine zr_istore_n hX dX0_reckon_19 rfl (Nat.le_of_ble_eq_true rfl) ?_
  exact zW_lf (k_L_reckon_20 h) (And.intro rfl (And.intro rfl (And.intro rfl trivial)))
set_option maxRecDepth 100000 in
theorem m_L_reckon {l : Launch} {G : zG} {o1 : Nat} {μ : zM} (ho1 : zsh o1 = (0, 1)) {q : zM} (hq : f_L_reckon o1 μ = some q) : zCT l G yX0_reckon cX0_reckon 5 none 5 [zR 16, zR o1] μ (none) q := by
  refine zMet (lv := [some (zR 16), some (zR o1), none, none, none]) (k := 3) pl_X0 rfl (Nat.le_of_ble_eq_true rfl) (fun X hl hX hF _ _ => ?_)
  refine w_L_reckon_e hX hF ho1 (zgo_K (r := q) (step := t_L_reckon o1) (fun s h => ?_) rfl hq)
  cases s with
  | inl s => exact w_L_reckon_20 hX hF ho1 h
  | inr s =>
    cases s with
    | inl s => exact w_L_reckon_48 hX hF ho1 h
    | inr s =>
      cases s with
      | inl s => exact w_L_reckon_74 hX hF ho1 h
      | inr s => exact w_L_reckon_85 hX hF ho1 h
set_option maxRecDepth 100000 in
set_option maxHeartbeats 4000000 in
theorem w_R_weightInOwnTower_37 {X : zX} {G : zG} {o : Nat} {v1 : Int} {v2 : Int} {μ : zM} {rv : Option zV} {ν : zM} (hX : zOk X G cX1_weightInOwnTower RX1 4 (some .int) 2) (hF : zFin X G rv ν) (ho : zsh o = (0, 1)) {w0 : Int} (h : zP (fun r : Int => (some (zI r), μ) = (rv, ν)) (j_R_weightInOwnTower_37 o v1 v2 w0 μ)) : zW X G 4 37 [none, none, some (zI v2), none] [zI w0] μ := by
  refine zr_istore_n hX dX1_weightInOwnTower_37 rfl (Nat.le_of_ble_eq_true rfl) ?_
  refine zr_getsN hX dX1_weightInOwnTower_38 (j := 1) (Nat.le_of_ble_eq_true rfl) nf_X1_90 ?_
  refine zr_iload_n hX dX1_weightInOwnTower_41 rfl rfl ?_
  refine zr_sald (j := 1) (N := 6) hX dX1_weightInOwnTower_42 (Nat.le_of_ble_eq_true rfl) rfl h (fun h => ?_)
  refine zr_iload_n hX dX1_weightInOwnTower_43 rfl rfl ?_
  refine zr_ifeq (tgt := 51) hX dX1_weightInOwnTower_44 rfl h (fun h => ?_) (fun h => ?_)
  · refine zr_iconst hX dX1_weightInOwnTower_51 (zrl rfl) ?_
    refine zr_iadd hX dX1_weightInOwnTower_52 ?_
    exact zr_iret hX dX1_weightInOwnTower_53 hF h
  · refine zr_iconst hX dX1_weightInOwnTower_47 (zrl rfl) ?_
    refine zr_goto hX dX1_weightInOwnTower_48 (tgt := 52) rfl ?_
    refine zr_iadd hX dX1_weightInOwnTower_52 ?_
    exact zr_iret hX dX1_weightInOwnTower_53 hF h
set_option maxRecDepth 100000 in
set_option maxHeartbeats 4000000 in
theorem w_R_weightInOwnTower_36 {X : zX} {G : zG} {o : Nat} {v1 : Int} {v2 : Int} {μ : zM} {rv : Option zV} {ν : zM} (hX : zOk X G cX1_weightInOwnTower RX1 4 (some .int) 2) (hF : zFin X G rv ν) (ho : zsh o = (0, 1)) (h : zP (fun r : Int => (some (zI r), μ) = (rv, ν)) (j_R_weightInOwnTower_36 o v1 v2  μ)) : zW X G 4 36 [none, none, some (zI v2), none] [] μ := by
  refine zr_iconst hX dX1_weightInOwnTower_36 (zrl rfl) ?_
  exact zW_lf (w_R_weightInOwnTower_37 hX hF ho h) (And.intro rfl trivial)
set_option maxRecDepth 100000 in
set_option maxHeartbeats 4000000 in
theorem w_R_weightInOwnTower_e {X : zX} {G : zG} {o : Nat} {v1 : Int} {v2 : Int} {μ : zM} {rv : Option zV} {ν : zM} (hX : zOk X G cX1_weightInOwnTower RX1 4 (some .int) 2) (hF : zFin X G rv ν) (ho : zsh o = (0, 1)) (h : zP (fun r : Int => (some (zI r), μ) = (rv, ν)) (f_R_weightInOwnTower o v1 v2 μ)) : zW X G 4 0 [some (zR o), some (zI v1), some (zI v2), none] [] μ := by
  refine zr_iload_n hX dX1_weightInOwnTower_0 rfl rfl ?_
  refine zr_iflt (tgt := 12) hX dX1_weightInOwnTower_1 rfl h (fun h => ?_) (fun h => ?_)
  · refine zr_iconst hX dX1_weightInOwnTower_12 (zrl rfl) ?_
    exact zr_iret hX dX1_weightInOwnTower_13 hF h
  · refine zr_iload_n hX dX1_weightInOwnTower_4 rfl rfl ?_
    refine zr_getsN hX dX1_weightInOwnTower_5 (j := 1) (Nat.le_of_ble_eq_true rfl) nf_X1_90 ?_
    refine zr_slen hX dX1_weightInOwnTower_8 (N := 6) (Nat.le_of_ble_eq_true rfl) rfl (zrl rfl) ?_
    refine zr_icmplt (tgt := 14) hX dX1_weightInOwnTower_9 rfl h (fun h => ?_) (fun h => ?_)
    · refine zr_iload_n hX dX1_weightInOwnTower_14 rfl rfl ?_
      refine zr_iconst hX dX1_weightInOwnTower_15 (zrl rfl) ?_
      refine zP_bind h (fun q1 hq1 h => ?_)
      refine zr_callSN hX dX1_weightInOwnTower_16 (m_X_isOf hq1) rfl nm_X1_84 (z3 ww_470 ww_70 ww_471) hy_X5_isOf rfl (Nat.le_of_ble_eq_true rfl) (Nat.le_of_ble_eq_true rfl) (Nat.le_of_ble_eq_true rfl) ?_
      refine zr_ifeq (tgt := 36) hX dX1_weightInOwnTower_19 rfl h (fun h => ?_) (fun h => ?_)
      · exact zW_lf (w_R_weightInOwnTower_36 hX hF ho h) (And.intro rfl trivial)
      · refine zr_aload_n hX dX1_weightInOwnTower_22 rfl rfl ?_
        refine zr_iload_n hX dX1_weightInOwnTower_23 rfl rfl ?_
        refine zr_iconst hX dX1_weightInOwnTower_24 (zrl rfl) ?_
        refine zr_iadd hX dX1_weightInOwnTower_25 ?_
        refine zr_callV hX dX1_weightInOwnTower_26 (m_R_isTower ho) ho rfl rfl (z5 ww_354 ww_355 ww_356 ww_74 ww_357) hy_X1_isTower rfl (Nat.le_of_ble_eq_true rfl) (Nat.le_of_ble_eq_true rfl) (Nat.le_of_ble_eq_true rfl) ?_
        refine zr_ifne (tgt := 36) hX dX1_weightInOwnTower_29 rfl h (fun h => ?_) (fun h => ?_)
        · exact zW_lf (w_R_weightInOwnTower_36 hX hF ho h) (And.intro rfl trivial)
        · refine zr_iconst hX dX1_weightInOwnTower_32 (zrl rfl) ?_
          refine zr_goto hX dX1_weightInOwnTower_33 (tgt := 37) rfl ?_
          exact zW_lf (w_R_weightInOwnTower_37 hX hF ho h) (And.intro rfl trivial)
    · refine zr_iconst hX dX1_weightInOwnTower_12 (zrl rfl) ?_
      exact zr_iret hX dX1_weightInOwnTower_13 hF h
set_option maxRecDepth 100000 in
theorem m_R_weightInOwnTower {l : Launch} {G : zG} {o : Nat} {v1 : Int} {v2 : Int} {μ : zM} (ho : zsh o = (0, 1)) {q : Int} (hq : f_R_weightInOwnTower o v1 v2 μ = some q) : zCT l G yX1_weightInOwnTower cX1_weightInOwnTower 4 (some .int) 2 [zR o, zI v1, zI v2] μ (some (zI q)) μ := by
  refine zMet (lv := [some (zR o), some (zI v1), some (zI v2), none]) (k := 1) pl_X1 rfl (Nat.le_of_ble_eq_true rfl) (fun X hl hX hF _ _ => ?_)
  exact w_R_weightInOwnTower_e hX hF ho (zP_of hq rfl)
def k_R_weightOn (X : zX) (G : zG) (o : Nat) (v1 : Int) (v2 : Int) (μ : zM) : ((Int × Int) ⊕ (Int × Int)) → Prop := fun s => match s with
  | .inl (s) => zW X G 5 7 [some (zR o), some (zI v1), some (zI v2), some (zI s.1), some (zI s.2)] [] μ
  | .inr (s) => zW X G 5 41 [some (zR o), some (zI v1), none, some (zI s.1), some (zI s.2)] [] μ
theorem k_R_weightOn_7 {X : zX} {G : zG} {o : Nat} {v1 : Int} {v2 : Int} {μ : zM} {F : Int → Prop} {v3 v4 : Int} (h : zP (Sum.elim (k_R_weightOn X G o v1 v2 μ) F) (some (.inl (.inl ((v3, v4)))))) : zW X G 5 7 [some (zR o), some (zI v1), some (zI v2), some (zI v3), some (zI v4)] [] μ := h
theorem k_R_weightOn_41 {X : zX} {G : zG} {o : Nat} {v1 : Int} {v2 : Int} {μ : zM} {F : Int → Prop} {v3 v4 : Int} (h : zP (Sum.elim (k_R_weightOn X G o v1 v2 μ) F) (some (.inl (.inr ((v3, v4)))))) : zW X G 5 41 [some (zR o), some (zI v1), none, some (zI v3), some (zI v4)] [] μ := h
set_option maxRecDepth 100000 in
set_option maxHeartbeats 4000000 in
theorem w_R_weightOn_7 {X : zX} {G : zG} {o : Nat} {v1 : Int} {v2 : Int} {μ : zM} {rv : Option zV} {ν : zM} (hX : zOk X G cX1_weightOn RX1 5 (some .int) 3) (hF : zFin X G rv ν) (ho : zsh o = (0, 1)) {v3 v4 : Int} (h : zP (Sum.elim (k_R_weightOn X G o v1 v2 μ) (fun r : Int => (some (zI r), μ) = (rv, ν))) (b_R_weightOn_7 o v1 v2 v3 v4 μ)) : zW X G 5 7 [some (zR o), some (zI v1), some (zI v2), some (zI v3), some (zI v4)] [] μ := by
  refine zr_iload hX dX1_weightOn_7 rfl ?_
  refine zr_aload_n hX dX1_weightOn_9 rfl rfl ?_
  refine zr_iload_n hX dX1_weightOn_10 rfl rfl ?_
  refine zP_bind h (fun q1 hq1 h => ?_)
  refine zr_callV hX dX1_weightOn_11 (m_R_heightOf ho hq1) ho rfl rfl (z5 ww_358 ww_359 ww_360 ww_74 ww_361) hy_X1_heightOf rfl (Nat.le_of_ble_eq_true rfl) (Nat.le_of_ble_eq_true rfl) (Nat.le_of_ble_eq_true rfl) ?_
  refine zr_icmpge (tgt := 38) hX dX1_weightOn_14 rfl h (fun h => ?_) (fun h => ?_)
  · refine zr_iload_n hX dX1_weightOn_38 rfl rfl ?_
    refine zr_istore hX dX1_weightOn_39 (Nat.le_of_ble_eq_true rfl) ?_
    exact zW_lf (k_R_weightOn_41 h) (And.intro rfl (And.intro rfl (And.intro rfl (And.intro rfl trivial))))
  · refine zr_iload_n hX dX1_weightOn_17 rfl rfl ?_
    refine zr_aload_n hX dX1_weightOn_18 rfl rfl ?_
    refine zr_iload_n hX dX1_weightOn_19 rfl rfl ?_
    refine zr_aload_n hX dX1_weightOn_20 rfl rfl ?_
    refine zr_iload_n hX dX1_weightOn_21 rfl rfl ?_
    refine zr_iload hX dX1_weightOn_22 rfl ?_
    refine zP_bind h (fun q2 hq2 h => ?_)
    refine zr_callV hX dX1_weightOn_24 (m_R_kindAt ho hq2) ho rfl rfl (z5 ww_396 ww_397 ww_398 ww_74 ww_399) hy_X1_kindAt rfl (Nat.le_of_ble_eq_true rfl) (Nat.le_of_ble_eq_true rfl) (Nat.le_of_ble_eq_true rfl) ?_
    refine zP_bind h (fun q3 hq3 h => ?_)
    refine zr_callV hX dX1_weightOn_27 (m_R_weightInOwnTower ho hq3) ho rfl rfl (z5 ww_491 ww_493 ww_9 ww_74 ww_494) hy_X1_weightInOwnTower rfl (Nat.le_of_ble_eq_true rfl) (Nat.le_of_ble_eq_true rfl) (Nat.le_of_ble_eq_true rfl) ?_
    refine zr_iadd hX dX1_weightOn_30 ?_
    refine zr_istore_n hX dX1_weightOn_31 rfl (Nat.le_of_ble_eq_true rfl) ?_
    refine zr_iinc hX dX1_weightOn_32 rfl (Nat.le_of_ble_eq_true rfl) ?_
    refine zr_goto hX dX1_weightOn_35 (tgt := 7) rfl ?_
    exact zW_lf (k_R_weightOn_7 h) (And.intro rfl (And.intro rfl (And.intro rfl (And.intro rfl (And.intro rfl trivial)))))
set_option maxRecDepth 100000 in
set_option maxHeartbeats 4000000 in
theorem w_R_weightOn_41 {X : zX} {G : zG} {o : Nat} {v1 : Int} {v2 : Int} {μ : zM} {rv : Option zV} {ν : zM} (hX : zOk X G cX1_weightOn RX1 5 (some .int) 3) (hF : zFin X G rv ν) (ho : zsh o = (0, 1)) {v3 v4 : Int} (h : zP (Sum.elim (k_R_weightOn X G o v1 v2 μ) (fun r : Int => (some (zI r), μ) = (rv, ν))) (b_R_weightOn_41 o v1 v2 v3 v4 μ)) : zW X G 5 41 [some (zR o), some (zI v1), none, some (zI v3), some (zI v4)] [] μ := by
  refine zr_iload hX dX1_weightOn_41 rfl ?_
  refine zr_aload_n hX dX1_weightOn_43 rfl rfl ?_
  refine zr_iload_n hX dX1_weightOn_44 rfl rfl ?_
  refine zr_iconst hX dX1_weightOn_45 (zrl rfl) ?_
  refine zr_isub hX dX1_weightOn_46 ?_
  refine zP_bind h (fun q4 hq4 h => ?_)
  refine zr_callV hX dX1_weightOn_47 (m_R_heightOf ho hq4) ho rfl rfl (z5 ww_358 ww_359 ww_360 ww_74 ww_361) hy_X1_heightOf rfl (Nat.le_of_ble_eq_true rfl) (Nat.le_of_ble_eq_true rfl) (Nat.le_of_ble_eq_true rfl) ?_
  refine zr_icmpge (tgt := 78) hX dX1_weightOn_50 rfl h (fun h => ?_) (fun h => ?_)
  · refine zr_iload_n hX dX1_weightOn_78 rfl rfl ?_
    exact zr_iret hX dX1_weightOn_79 hF h
  · refine zr_aload_n hX dX1_weightOn_53 rfl rfl ?_
    refine zr_iload_n hX dX1_weightOn_54 rfl rfl ?_
    refine zr_iconst hX dX1_weightOn_55 (zrl rfl) ?_
    refine zr_isub hX dX1_weightOn_56 ?_
    refine zr_iload hX dX1_weightOn_57 rfl ?_
    refine zP_bind h (fun q5 hq5 h => ?_)
    refine zr_callV hX dX1_weightOn_59 (m_R_kindAt ho hq5) ho rfl rfl (z5 ww_396 ww_397 ww_398 ww_74 ww_399) hy_X1_kindAt rfl (Nat.le_of_ble_eq_true rfl) (Nat.le_of_ble_eq_true rfl) (Nat.le_of_ble_eq_true rfl) ?_
    refine zr_iconst hX dX1_weightOn_62 (zrl rfl) ?_
    refine zP_bind h (fun q6 hq6 h => ?_)
    refine zr_callSN hX dX1_weightOn_63 (m_X_isOf hq6) rfl nm_X1_84 (z3 ww_470 ww_70 ww_471) hy_X5_isOf rfl (Nat.le_of_ble_eq_true rfl) (Nat.le_of_ble_eq_true rfl) (Nat.le_of_ble_eq_true rfl) ?_
    refine zr_ifeq (tgt := 72) hX dX1_weightOn_66 rfl h (fun h => ?_) (fun h => ?_)
    · refine zr_iinc hX dX1_weightOn_72 rfl (Nat.le_of_ble_eq_true rfl) ?_
      refine zr_goto hX dX1_weightOn_75 (tgt := 41) rfl ?_
      exact zW_lf (k_R_weightOn_41 h) (And.intro rfl (And.intro rfl (And.intro rfl (And.intro rfl trivial))))
    · refine zr_iinc hX dX1_weightOn_69 rfl (Nat.le_of_ble_eq_true rfl) ?_
      refine zr_iinc hX dX1_weightOn_72 rfl (Nat.le_of_ble_eq_true rfl) ?_
      refine zr_goto hX dX1_weightOn_75 (tgt := 41) rfl ?_
      exact zW_lf (k_R_weightOn_41 h) (And.intro rfl (And.intro rfl (And.intro rfl (And.intro rfl trivial))))
set_option maxRecDepth 100000 in
set_option maxHeartbeats 4000000 in
theorem w_R_weightOn_e {X : zX} {G : zG} {o : Nat} {v1 : Int} {v2 : Int} {μ : zM} {rv : Option zV} {ν : zM} (hX : zOk X G cX1_weightOn RX1 5 (some .int) 3) (hF : zFin X G rv ν) (ho : zsh o = (0, 1)) (h : zP (Sum.elim (k_R_weightOn X G o v1 v2 μ) (fun r : Int => (some (zI r), μ) = (rv, ν))) (e_R_weightOn o v1 v2 μ)) : zW X G 5 0 [some (zR o), some (zI v1), some (zI v2), none, none] [] μ := by
  refine zr_iconst hX dX1_weightOn_0 (zrl rfl) ?_
  refine zr_istore_n hX dX1_weightOn_1 rfl (Nat.le_of_ble_eq_true rfl) ?_
  refine zr_iload_n hX dX1_weightOn_2 rfl rfl ?_
  refine zr_iconst hX dX1_weightOn_3 (zrl rfl) ?_
  refine zr_iadd hX dX1_weightOn_4 ?_
  refine zr_istore hX dX1_weightOn_5 (Nat.le_of_ble_eq_true rfl) ?_
  exact zW_lf (k_R_weightOn_7 h) (And.intro rfl (And.intro rfl (And.intro rfl (And.intro rfl (And.intro rfl trivial)))))
set_option maxRecDepth 100000 in
theorem m_R_weightOn {l : Launch} {G : zG} {o : Nat} {v1 : Int} {v2 : Int} {μ : zM} (ho : zsh o = (0, 1)) {q : Int} (hq : f_R_weightOn o v1 v2 μ = some q) : zCT l G yX1_weightOn cX1_weightOn 5 (some .int) 3 [zR o, zI v1, zI v2] μ (some (zI q)) μ := by
  refine zMet (lv := [some (zR o), some (zI v1), some (zI v2), none, none]) (k := 2) pl_X1 rfl (Nat.le_of_ble_eq_true rfl) (fun X hl hX hF _ _ => ?_)
  refine w_R_weightOn_e hX hF ho (zgo_K (r := q) (step := t_R_weightOn o v1 v2 μ) (fun s h => ?_) rfl hq)
  cases s with
  | inl s => exact w_R_weightOn_7 hX hF ho h
  | inr s => exact w_R_weightOn_41 hX hF ho h
set_option maxRecDepth 100000 in
set_option maxHeartbeats 4000000 in
theorem w_J_bitCount_e {X : zX} {G : zG} {v0 : Int} {μ : zM} {rv : Option zV} {ν : zM} (hX : zOk X G cJ6_bitCount_0f7a4 RJ6 1 (some .int) 1) (hF : zFin X G rv ν) (h : zP (fun r : Int => (some (zI r), μ) = (rv, ν)) (fo_J_bitCount v0)) : zW X G 1 0 [some (zI v0)] [] μ := by
  refine zr_iload_n hX dJ6_bitCount_0f7a4_0 rfl rfl ?_
  refine zr_iload_n hX dJ6_bitCount_0f7a4_1 rfl rfl ?_
  refine zr_iconst hX dJ6_bitCount_0f7a4_2 (zrl rfl) ?_
  refine zr_iushr hX dJ6_bitCount_0f7a4_3 ?_
  refine zr_ldcw hX dJ6_bitCount_0f7a4_4 ww_508 rfl (zrl rfl) ?_
  refine zr_iand hX dJ6_bitCount_0f7a4_7 ?_
  refine zr_isub hX dJ6_bitCount_0f7a4_8 ?_
  refine zr_istore_n hX dJ6_bitCount_0f7a4_9 rfl (Nat.le_of_ble_eq_true rfl) ?_
  refine zr_iload_n hX dJ6_bitCount_0f7a4_10 rfl rfl ?_
  refine zr_ldcw hX dJ6_bitCount_0f7a4_11 ww_509 rfl (zrl rfl) ?_
  refine zr_iand hX dJ6_bitCount_0f7a4_14 ?_
  refine zr_iload_n hX dJ6_bitCount_0f7a4_15 rfl rfl ?_
  refine zr_iconst hX dJ6_bitCount_0f7a4_16 (zrl rfl) ?_
  refine zr_iushr hX dJ6_bitCount_0f7a4_17 ?_
  refine zr_ldcw hX dJ6_bitCount_0f7a4_18 ww_509 rfl (zrl rfl) ?_
  refine zr_iand hX dJ6_bitCount_0f7a4_21 ?_
  refine zr_iadd hX dJ6_bitCount_0f7a4_22 ?_
  refine zr_istore_n hX dJ6_bitCount_0f7a4_23 rfl (Nat.le_of_ble_eq_true rfl) ?_
  refine zr_iload_n hX dJ6_bitCount_0f7a4_24 rfl rfl ?_
  refine zr_iload_n hX dJ6_bitCount_0f7a4_25 rfl rfl ?_
  refine zr_iconst hX dJ6_bitCount_0f7a4_26 (zrl rfl) ?_
  refine zr_iushr hX dJ6_bitCount_0f7a4_27 ?_
  refine zr_iadd hX dJ6_bitCount_0f7a4_28 ?_
  refine zr_ldcw hX dJ6_bitCount_0f7a4_29 ww_510 rfl (zrl rfl) ?_
  refine zr_iand hX dJ6_bitCount_0f7a4_32 ?_
  refine zr_istore_n hX dJ6_bitCount_0f7a4_33 rfl (Nat.le_of_ble_eq_true rfl) ?_
  refine zr_iload_n hX dJ6_bitCount_0f7a4_34 rfl rfl ?_
  refine zr_iload_n hX dJ6_bitCount_0f7a4_35 rfl rfl ?_
  refine zr_bipush hX dJ6_bitCount_0f7a4_36 rfl ?_
  refine zr_iushr hX dJ6_bitCount_0f7a4_38 ?_
  refine zr_iadd hX dJ6_bitCount_0f7a4_39 ?_
  refine zr_istore_n hX dJ6_bitCount_0f7a4_40 rfl (Nat.le_of_ble_eq_true rfl) ?_
  refine zr_iload_n hX dJ6_bitCount_0f7a4_41 rfl rfl ?_
  refine zr_iload_n hX dJ6_bitCount_0f7a4_42 rfl rfl ?_
  refine zr_bipush hX dJ6_bitCount_0f7a4_43 rfl ?_
  refine zr_iushr hX dJ6_bitCount_0f7a4_45 ?_
  refine zr_iadd hX dJ6_bitCount_0f7a4_46 ?_
  refine zr_istore_n hX dJ6_bitCount_0f7a4_47 rfl (Nat.le_of_ble_eq_true rfl) ?_
  refine zr_iload_n hX dJ6_bitCount_0f7a4_48 rfl rfl ?_
  refine zr_bipush hX dJ6_bitCount_0f7a4_49 rfl ?_
  refine zr_iand hX dJ6_bitCount_0f7a4_51 ?_
  exact zr_iret hX dJ6_bitCount_0f7a4_52 hF h
set_option maxRecDepth 100000 in
theorem m_J_bitCount {l : Launch} {G : zG} {v0 : Int} {μ : zM} : zCT l G yJ6_bitCount_0f7a4 cJ6_bitCount_0f7a4 1 (some .int) 1 [zI v0] μ (some (zI (f_J_bitCount v0))) μ := by
  refine zMet (lv := [some (zI v0)]) (k := 0) pl_J6 rfl (Nat.le_of_ble_eq_true rfl) (fun X hl hX hF _ _ => ?_)
  exact w_J_bitCount_e hX hF (by rw [fo_J_bitCount_eq]; rfl)
set_option maxRecDepth 100000 in
set_option maxHeartbeats 4000000 in
theorem w_L_lightIn_e {X : zX} {G : zG} {v1 : Int} {v2 : Int} {μ : zM} {rv : Option zV} {ν : zM} (hX : zOk X G cX0_lightIn RX0 3 (some .int) 2) (hF : zFin X G rv ν) (h : zP (fun r : Int => (some (zI r), μ) = (rv, ν)) (f_L_lightIn v1 v2 μ)) : zW X G 3 0 [some (zR 16), some (zI v1), some (zI v2)] [] μ := by
  refine zr_aload_n hX dX0_lightIn_0 rfl rfl ?_
  refine zr_iload_n hX dX0_lightIn_1 rfl rfl ?_
  refine zr_callV hX dX0_lightIn_2 (m_L_isNumber) rfl rfl rfl (z5 ww_449 ww_451 ww_6 ww_75 ww_452) hy_X0_isNumber rfl (Nat.le_of_ble_eq_true rfl) (Nat.le_of_ble_eq_true rfl) (Nat.le_of_ble_eq_true rfl) ?_
  refine zr_ifeq (tgt := 35) hX dX0_lightIn_5 rfl h (fun h => ?_) (fun h => ?_)
  · refine zr_iconst hX dX0_lightIn_35 (zrl rfl) ?_
    exact zr_iret hX dX0_lightIn_36 hF h
  · refine zr_iconst hX dX0_lightIn_8 (zrl rfl) ?_
    refine zr_aload_n hX dX0_lightIn_9 rfl rfl ?_
    refine zr_getr hX dX0_lightIn_10 (k := 2) (q := 17) rfl rfl ww_160 rfl ?_
    refine zr_iload_n hX dX0_lightIn_13 rfl rfl ?_
    refine zr_iald (N := 12) hX dX0_lightIn_14 rfl rfl h (fun h => ?_)
    refine zr_iload_n hX dX0_lightIn_15 rfl rfl ?_
    refine zr_iconst hX dX0_lightIn_16 (zrl rfl) ?_
    refine zr_ixor hX dX0_lightIn_17 ?_
    refine zr_iand hX dX0_lightIn_18 ?_
    refine zr_callS hX dX0_lightIn_19 (m_J_bitCount) rfl (z4 ww_505 ww_506 ww_79 ww_507) hy_J6_bitCount_0f7a4 rfl (Nat.le_of_ble_eq_true rfl) (Nat.le_of_ble_eq_true rfl) (Nat.le_of_ble_eq_true rfl) ?_
    refine zr_aload_n hX dX0_lightIn_22 rfl rfl ?_
    refine zr_getr hX dX0_lightIn_23 (k := 3) (q := 18) rfl rfl ww_161 rfl ?_
    refine zr_iload_n hX dX0_lightIn_26 rfl rfl ?_
    refine zr_iald (N := 12) hX dX0_lightIn_27 rfl rfl h (fun h => ?_)
    refine zr_iadd hX dX0_lightIn_28 ?_
    refine zr_min hX dX0_lightIn_29 (by decide +kernel) (Nat.le_of_ble_eq_true rfl) (Nat.le_of_ble_eq_true rfl) ?_
    refine zr_goto hX dX0_lightIn_32 (tgt := 36) rfl ?_
    exact zr_iret hX dX0_lightIn_36 hF h
set_option maxRecDepth 100000 in
theorem m_L_lightIn {l : Launch} {G : zG} {v1 : Int} {v2 : Int} {μ : zM} {q : Int} (hq : f_L_lightIn v1 v2 μ = some q) : zCT l G yX0_lightIn cX0_lightIn 3 (some .int) 2 [zR 16, zI v1, zI v2] μ (some (zI q)) μ := by
  refine zMet (lv := [some (zR 16), some (zI v1), some (zI v2)]) (k := 0) pl_X0 rfl (Nat.le_of_ble_eq_true rfl) (fun X hl hX hF _ _ => ?_)
  exact w_L_lightIn_e hX hF (zP_of hq rfl)
set_option maxRecDepth 100000 in
set_option maxHeartbeats 4000000 in
theorem w_L_lightOf_e {X : zX} {G : zG} {v1 : Int} {μ : zM} {rv : Option zV} {ν : zM} (hX : zOk X G cX0_lightOf RX0 2 (some .int) 3) (hF : zFin X G rv ν) (h : zP (fun r : Int => (some (zI r), μ) = (rv, ν)) (f_L_lightOf v1 μ)) : zW X G 2 0 [some (zR 16), some (zI v1)] [] μ := by
  refine zr_aload_n hX dX0_lightOf_0 rfl rfl ?_
  refine zr_iload_n hX dX0_lightOf_1 rfl rfl ?_
  refine zr_iconst hX dX0_lightOf_2 (zrl rfl) ?_
  refine zP_bind h (fun q1 hq1 h => ?_)
  refine zr_callV hX dX0_lightOf_3 (m_L_lightIn hq1) rfl rfl rfl (z5 ww_501 ww_502 ww_503 ww_75 ww_504) hy_X0_lightIn rfl (Nat.le_of_ble_eq_true rfl) (Nat.le_of_ble_eq_true rfl) (Nat.le_of_ble_eq_true rfl) ?_
  exact zr_iret hX dX0_lightOf_6 hF h
set_option maxRecDepth 100000 in
theorem m_L_lightOf {l : Launch} {G : zG} {v1 : Int} {μ : zM} {q : Int} (hq : f_L_lightOf v1 μ = some q) : zCT l G yX0_lightOf cX0_lightOf 2 (some .int) 3 [zR 16, zI v1] μ (some (zI q)) μ := by
  refine zMet (lv := [some (zR 16), some (zI v1)]) (k := 0) pl_X0 rfl (Nat.le_of_ble_eq_true rfl) (fun X hl hX hF _ _ => ?_)
  exact w_L_lightOf_e hX hF (zP_of hq rfl)
set_option maxRecDepth 100000 in
set_option maxHeartbeats 4000000 in
theorem w_L_owingOf_e {X : zX} {G : zG} {v1 : Int} {μ : zM} {rv : Option zV} {ν : zM} (hX : zOk X G cX0_owingOf RX0 2 (some .int) 2) (hF : zFin X G rv ν) (h : zP (fun r : Int => (some (zI r), μ) = (rv, ν)) (f_L_owingOf v1 μ)) : zW X G 2 0 [some (zR 16), some (zI v1)] [] μ := by
  refine zr_aload_n hX dX0_owingOf_0 rfl rfl ?_
  refine zr_iload_n hX dX0_owingOf_1 rfl rfl ?_
  refine zr_callV hX dX0_owingOf_2 (m_L_isNumber) rfl rfl rfl (z5 ww_449 ww_451 ww_6 ww_75 ww_452) hy_X0_isNumber rfl (Nat.le_of_ble_eq_true rfl) (Nat.le_of_ble_eq_true rfl) (Nat.le_of_ble_eq_true rfl) ?_
  refine zr_ifeq (tgt := 17) hX dX0_owingOf_5 rfl h (fun h => ?_) (fun h => ?_)
  · refine zr_iconst hX dX0_owingOf_17 (zrl rfl) ?_
    exact zr_iret hX dX0_owingOf_18 hF h
  · refine zr_aload_n hX dX0_owingOf_8 rfl rfl ?_
    refine zr_getr hX dX0_owingOf_9 (k := 4) (q := 19) rfl rfl ww_162 rfl ?_
    refine zr_iload_n hX dX0_owingOf_12 rfl rfl ?_
    refine zr_iald (N := 12) hX dX0_owingOf_13 rfl rfl h (fun h => ?_)
    refine zr_goto hX dX0_owingOf_14 (tgt := 18) rfl ?_
    exact zr_iret hX dX0_owingOf_18 hF h
set_option maxRecDepth 100000 in
theorem m_L_owingOf {l : Launch} {G : zG} {v1 : Int} {μ : zM} {q : Int} (hq : f_L_owingOf v1 μ = some q) : zCT l G yX0_owingOf cX0_owingOf 2 (some .int) 2 [zR 16, zI v1] μ (some (zI q)) μ := by
  refine zMet (lv := [some (zR 16), some (zI v1)]) (k := 0) pl_X0 rfl (Nat.le_of_ble_eq_true rfl) (fun X hl hX hF _ _ => ?_)
  exact w_L_owingOf_e hX hF (zP_of hq rfl)
set_option maxRecDepth 100000 in
set_option maxHeartbeats 4000000 in
theorem w_L_owedOf_e {X : zX} {G : zG} {v1 : Int} {μ : zM} {rv : Option zV} {ν : zM} (hX : zOk X G cX0_owedOf RX0 2 (some .int) 2) (hF : zFin X G rv ν) (h : zP (fun r : Int => (some (zI r), μ) = (rv, ν)) (f_L_owedOf v1 μ)) : zW X G 2 0 [some (zR 16), some (zI v1)] [] μ := by
  refine zr_aload_n hX dX0_owedOf_0 rfl rfl ?_
  refine zr_iload_n hX dX0_owedOf_1 rfl rfl ?_
  refine zr_callV hX dX0_owedOf_2 (m_L_isNumber) rfl rfl rfl (z5 ww_449 ww_451 ww_6 ww_75 ww_452) hy_X0_isNumber rfl (Nat.le_of_ble_eq_true rfl) (Nat.le_of_ble_eq_true rfl) (Nat.le_of_ble_eq_true rfl) ?_
  refine zr_ifeq (tgt := 17) hX dX0_owedOf_5 rfl h (fun h => ?_) (fun h => ?_)
  · refine zr_iconst hX dX0_owedOf_17 (zrl rfl) ?_
    exact zr_iret hX dX0_owedOf_18 hF h
  · refine zr_aload_n hX dX0_owedOf_8 rfl rfl ?_
    refine zr_getr hX dX0_owedOf_9 (k := 5) (q := 20) rfl rfl ww_163 rfl ?_
    refine zr_iload_n hX dX0_owedOf_12 rfl rfl ?_
    refine zr_iald (N := 12) hX dX0_owedOf_13 rfl rfl h (fun h => ?_)
    refine zr_goto hX dX0_owedOf_14 (tgt := 18) rfl ?_
    exact zr_iret hX dX0_owedOf_18 hF h
set_option maxRecDepth 100000 in
theorem m_L_owedOf {l : Launch} {G : zG} {v1 : Int} {μ : zM} {q : Int} (hq : f_L_owedOf v1 μ = some q) : zCT l G yX0_owedOf cX0_owedOf 2 (some .int) 2 [zR 16, zI v1] μ (some (zI q)) μ := by
  refine zMet (lv := [some (zR 16), some (zI v1)]) (k := 0) pl_X0 rfl (Nat.le_of_ble_eq_true rfl) (fun X hl hX hF _ _ => ?_)
  exact w_L_owedOf_e hX hF (zP_of hq rfl)
set_option maxRecDepth 100000 in
set_option maxHeartbeats 4000000 in
theorem w_X_toldOf_e {X : zX} {G : zG} {v1 : Int} {v2 : Int} {v3 : Int} {μ : zM} {rv : Option zV} {ν : zM} (hX : zOk X G cX5_toldOf RX5 5 (some .int) 4) (hF : zFin X G rv ν) (h : zP (fun r : Int => (some (zI r), μ) = (rv, ν)) (f_X_toldOf v1 v2 v3 μ)) : zW X G 5 0 [some (zR 0), some (zI v1), some (zI v2), some (zI v3), none] [] μ := by
  refine zr_aload_n hX dX5_toldOf_0 rfl rfl ?_
  refine zr_getr hX dX5_toldOf_1 (k := 2) (q := 7) rfl rfl ww_201 rfl ?_
  refine zr_getrN hX dX5_toldOf_4 (k := 0) (q := 8) rfl rfl nf_X5_125 rfl ?_
  refine zr_iload_n hX dX5_toldOf_7 rfl rfl ?_
  refine zr_iload_n hX dX5_toldOf_8 rfl rfl ?_
  refine zP_bind h (fun q1 hq1 h => ?_)
  refine zr_callV hX dX5_toldOf_9 (m_R_numberOf rfl hq1) rfl rfl rfl (z5 ww_484 ww_473 ww_474 ww_74 ww_475) hy_X1_numberOf rfl (Nat.le_of_ble_eq_true rfl) (Nat.le_of_ble_eq_true rfl) (Nat.le_of_ble_eq_true rfl) ?_
  refine zr_istore hX dX5_toldOf_12 (Nat.le_of_ble_eq_true rfl) ?_
  refine zr_iload_n hX dX5_toldOf_14 rfl rfl ?_
  refine zr_tsw hX 0 dX5_toldOf_15 (by decide) (zrl rfl) (t2 := 52) rfl rfl h (fun h => ?_) (fun hs2 h => ?_)
  · refine zr_iload hX dX5_toldOf_52 rfl ?_
    exact zr_iret hX dX5_toldOf_54 hF h
  refine zr_tsw hX 1 dX5_toldOf_15 (by decide) (zrl rfl) (t2 := 55) rfl rfl h (fun h => ?_) (fun hs3 h => ?_)
  · refine zr_aload_n hX dX5_toldOf_55 rfl rfl ?_
    refine zr_getr hX dX5_toldOf_56 (k := 2) (q := 7) rfl rfl ww_201 rfl ?_
    refine zr_getrN hX dX5_toldOf_59 (k := 0) (q := 8) rfl rfl nf_X5_125 rfl ?_
    refine zr_iload_n hX dX5_toldOf_62 rfl rfl ?_
    refine zr_iload_n hX dX5_toldOf_63 rfl rfl ?_
    refine zP_bind h (fun q4 hq4 h => ?_)
    refine zr_callV hX dX5_toldOf_64 (m_R_kindAt rfl hq4) rfl rfl rfl (z5 ww_485 ww_397 ww_398 ww_74 ww_399) hy_X1_kindAt rfl (Nat.le_of_ble_eq_true rfl) (Nat.le_of_ble_eq_true rfl) (Nat.le_of_ble_eq_true rfl) ?_
    exact zr_iret hX dX5_toldOf_67 hF h
  refine zr_tsw hX 2 dX5_toldOf_15 (by decide) (zrl rfl) (t2 := 68) rfl rfl h (fun h => ?_) (fun hs5 h => ?_)
  · refine zr_aload_n hX dX5_toldOf_68 rfl rfl ?_
    refine zr_getr hX dX5_toldOf_69 (k := 2) (q := 7) rfl rfl ww_201 rfl ?_
    refine zr_getrN hX dX5_toldOf_72 (k := 0) (q := 8) rfl rfl nf_X5_125 rfl ?_
    refine zr_iload_n hX dX5_toldOf_75 rfl rfl ?_
    refine zr_iload_n hX dX5_toldOf_76 rfl rfl ?_
    refine zP_bind h (fun q6 hq6 h => ?_)
    refine zr_callV hX dX5_toldOf_77 (m_R_borneAt rfl hq6) rfl rfl rfl (z5 ww_486 ww_401 ww_402 ww_74 ww_403) hy_X1_borneAt rfl (Nat.le_of_ble_eq_true rfl) (Nat.le_of_ble_eq_true rfl) (Nat.le_of_ble_eq_true rfl) ?_
    exact zr_iret hX dX5_toldOf_80 hF h
  refine zr_tsw hX 3 dX5_toldOf_15 (by decide) (zrl rfl) (t2 := 81) rfl rfl h (fun h => ?_) (fun hs7 h => ?_)
  · refine zr_aload_n hX dX5_toldOf_81 rfl rfl ?_
    refine zr_getr hX dX5_toldOf_82 (k := 2) (q := 7) rfl rfl ww_201 rfl ?_
    refine zr_getrN hX dX5_toldOf_85 (k := 0) (q := 8) rfl rfl nf_X5_125 rfl ?_
    refine zr_iload_n hX dX5_toldOf_88 rfl rfl ?_
    refine zr_iload_n hX dX5_toldOf_89 rfl rfl ?_
    refine zP_bind h (fun q8 hq8 h => ?_)
    refine zr_callV hX dX5_toldOf_90 (m_R_weightOn rfl hq8) rfl rfl rfl (z5 ww_487 ww_488 ww_489 ww_74 ww_490) hy_X1_weightOn rfl (Nat.le_of_ble_eq_true rfl) (Nat.le_of_ble_eq_true rfl) (Nat.le_of_ble_eq_true rfl) ?_
    exact zr_iret hX dX5_toldOf_93 hF h
  refine zr_tsw hX 4 dX5_toldOf_15 (by decide) (zrl rfl) (t2 := 94) rfl rfl h (fun h => ?_) (fun hs9 h => ?_)
  · refine zr_aload_n hX dX5_toldOf_94 rfl rfl ?_
    refine zr_getr hX dX5_toldOf_95 (k := 5) (q := 16) rfl rfl ww_204 rfl ?_
    refine zr_iload hX dX5_toldOf_98 rfl ?_
    refine zP_bind h (fun q10 hq10 h => ?_)
    refine zr_callV hX dX5_toldOf_100 (m_L_lightOf hq10) rfl rfl rfl (z5 ww_497 ww_498 ww_499 ww_75 ww_500) hy_X0_lightOf rfl (Nat.le_of_ble_eq_true rfl) (Nat.le_of_ble_eq_true rfl) (Nat.le_of_ble_eq_true rfl) ?_
    exact zr_iret hX dX5_toldOf_103 hF h
  refine zr_tsw hX 5 dX5_toldOf_15 (by decide) (zrl rfl) (t2 := 104) rfl rfl h (fun h => ?_) (fun hs11 h => ?_)
  · refine zr_aload_n hX dX5_toldOf_104 rfl rfl ?_
    refine zr_getr hX dX5_toldOf_105 (k := 5) (q := 16) rfl rfl ww_204 rfl ?_
    refine zr_iload hX dX5_toldOf_108 rfl ?_
    refine zP_bind h (fun q12 hq12 h => ?_)
    refine zr_callV hX dX5_toldOf_110 (m_L_owingOf hq12) rfl rfl rfl (z5 ww_511 ww_512 ww_513 ww_75 ww_514) hy_X0_owingOf rfl (Nat.le_of_ble_eq_true rfl) (Nat.le_of_ble_eq_true rfl) (Nat.le_of_ble_eq_true rfl) ?_
    exact zr_iret hX dX5_toldOf_113 hF h
  refine zr_tswd (tgt := 114) hX dX5_toldOf_15 (by omega) rfl ?_
  refine zr_aload_n hX dX5_toldOf_114 rfl rfl ?_
  refine zr_getr hX dX5_toldOf_115 (k := 5) (q := 16) rfl rfl ww_204 rfl ?_
  refine zr_iload hX dX5_toldOf_118 rfl ?_
  refine zP_bind h (fun q13 hq13 h => ?_)
  refine zr_callV hX dX5_toldOf_120 (m_L_owedOf hq13) rfl rfl rfl (z5 ww_515 ww_516 ww_517 ww_75 ww_518) hy_X0_owedOf rfl (Nat.le_of_ble_eq_true rfl) (Nat.le_of_ble_eq_true rfl) (Nat.le_of_ble_eq_true rfl) ?_
  exact zr_iret hX dX5_toldOf_123 hF h
set_option maxRecDepth 100000 in
theorem m_X_toldOf {l : Launch} {G : zG} {v1 : Int} {v2 : Int} {v3 : Int} {μ : zM} {q : Int} (hq : f_X_toldOf v1 v2 v3 μ = some q) : zCT l G yX5_toldOf cX5_toldOf 5 (some .int) 4 [zR 0, zI v1, zI v2, zI v3] μ (some (zI q)) μ := by
  refine zMet (lv := [some (zR 0), some (zI v1), some (zI v2), some (zI v3), none]) (k := 1) pl_X5 rfl (Nat.le_of_ble_eq_true rfl) (fun X hl hX hF _ _ => ?_)
  exact w_X_toldOf_e hX hF (zP_of hq rfl)
set_option maxRecDepth 100000 in
set_option maxHeartbeats 4000000 in
theorem w_X_house_e {X : zX} {G : zG} {v1 : Int} {v2 : Int} {v3 : Int} {μ : zM} {rv : Option zV} {ν : zM} (hX : zOk X G cX5_house RX5 4 (some .int) 6) (hF : zFin X G rv ν) (h : zP (fun r : (Int × zM) => (some (zI r.1), r.2) = (rv, ν)) (f_X_house v1 v2 v3 μ)) : zW X G 4 0 [some (zR 0), some (zI v1), some (zI v2), some (zI v3)] [] μ := by
  refine zr_aload_n hX dX5_house_0 rfl rfl ?_
  refine zr_iload_n hX dX5_house_1 rfl rfl ?_
  refine zr_iload_n hX dX5_house_2 rfl rfl ?_
  refine zr_callV hX dX5_house_3 (m_X_isNoPlace) rfl rfl rfl (z5 ww_427 ww_429 ww_4 ww_70 ww_430) hy_X5_isNoPlace rfl (Nat.le_of_ble_eq_true rfl) (Nat.le_of_ble_eq_true rfl) (Nat.le_of_ble_eq_true rfl) ?_
  refine zr_ifne (tgt := 19) hX dX5_house_6 rfl h (fun h => ?_) (fun h => ?_)
  · refine zr_iconst hX dX5_house_19 (zrl rfl) ?_
    exact zr_iret hX dX5_house_20 hF h
  · refine zr_iload_n hX dX5_house_9 rfl rfl ?_
    refine zr_iflt (tgt := 19) hX dX5_house_10 rfl h (fun h => ?_) (fun h => ?_)
    · refine zr_iconst hX dX5_house_19 (zrl rfl) ?_
      exact zr_iret hX dX5_house_20 hF h
    · refine zr_iload_n hX dX5_house_13 rfl rfl ?_
      refine zr_bipush hX dX5_house_14 rfl ?_
      refine zr_icmple (tgt := 21) hX dX5_house_16 rfl h (fun h => ?_) (fun h => ?_)
      · refine zr_aload_n hX dX5_house_21 rfl rfl ?_
        refine zr_getr hX dX5_house_22 (k := 2) (q := 7) rfl rfl ww_201 rfl ?_
        refine zr_getrN hX dX5_house_25 (k := 0) (q := 8) rfl rfl nf_X5_125 rfl ?_
        refine zr_iload_n hX dX5_house_28 rfl rfl ?_
        refine zr_iload_n hX dX5_house_29 rfl rfl ?_
        refine zP_bind h (fun q1 hq1 h => ?_)
        refine zr_callV hX dX5_house_30 (m_R_has rfl hq1) rfl rfl rfl (z5 ww_431 ww_375 ww_376 ww_74 ww_377) hy_X1_has rfl (Nat.le_of_ble_eq_true rfl) (Nat.le_of_ble_eq_true rfl) (Nat.le_of_ble_eq_true rfl) ?_
        refine zr_ifne (tgt := 42) hX dX5_house_33 rfl h (fun h => ?_) (fun h => ?_)
        · refine zr_aload_n hX dX5_house_42 rfl rfl ?_
          refine zr_getr hX dX5_house_43 (k := 5) (q := 16) rfl rfl ww_204 rfl ?_
          refine zr_aload_n hX dX5_house_46 rfl rfl ?_
          refine zr_getr hX dX5_house_47 (k := 2) (q := 7) rfl rfl ww_201 rfl ?_
          refine zr_getrN hX dX5_house_50 (k := 0) (q := 8) rfl rfl nf_X5_125 rfl ?_
          refine zP_bind h (fun q2 hq2 h => ?_)
          refine zr_callV hX dX5_house_53 (m_L_reckon rfl hq2) rfl rfl rfl (z5 ww_432 ww_433 ww_434 ww_75 ww_435) hy_X0_reckon rfl (Nat.le_of_ble_eq_true rfl) (Nat.le_of_ble_eq_true rfl) (Nat.le_of_ble_eq_true rfl) ?_
          refine zr_aload_n hX dX5_house_56 rfl rfl ?_
          refine zr_aload_n hX dX5_house_57 rfl rfl ?_
          refine zr_iload_n hX dX5_house_58 rfl rfl ?_
          refine zr_iload_n hX dX5_house_59 rfl rfl ?_
          refine zr_iload_n hX dX5_house_60 rfl rfl ?_
          refine zP_bind h (fun q3 hq3 h => ?_)
          refine zr_callV hX dX5_house_61 (m_X_toldOf hq3) rfl rfl rfl (z5 ww_480 ww_482 ww_8 ww_70 ww_483) hy_X5_toldOf rfl (Nat.le_of_ble_eq_true rfl) (Nat.le_of_ble_eq_true rfl) (Nat.le_of_ble_eq_true rfl) ?_
          refine zr_puti hX dX5_house_64 (k := 9) rfl rfl ww_208 rfl (by decide +kernel) ?_
          refine zr_iconst hX dX5_house_67 (zrl rfl) ?_
          exact zr_iret hX dX5_house_68 hF h
        · refine zr_aload_n hX dX5_house_36 rfl rfl ?_
          refine zr_iconst hX dX5_house_37 (zrl rfl) ?_
          refine zP_bind h (fun q4 hq4 h => ?_)
          refine zr_callV hX dX5_house_38 (m_X_found hq4) rfl rfl rfl (z5 ww_244 ww_246 ww_0 ww_70 ww_247) hy_X5_found rfl (Nat.le_of_ble_eq_true rfl) (Nat.le_of_ble_eq_true rfl) (Nat.le_of_ble_eq_true rfl) ?_
          exact zr_iret hX dX5_house_41 hF h
      · refine zr_iconst hX dX5_house_19 (zrl rfl) ?_
        exact zr_iret hX dX5_house_20 hF h
set_option maxRecDepth 100000 in
theorem m_X_house {l : Launch} {G : zG} {v1 : Int} {v2 : Int} {v3 : Int} {μ : zM} {q : Int × zM} (hq : f_X_house v1 v2 v3 μ = some q) : zCT l G yX5_house cX5_house 4 (some .int) 6 [zR 0, zI v1, zI v2, zI v3] μ (some (zI q.1)) q.2 := by
  refine zMet (lv := [some (zR 0), some (zI v1), some (zI v2), some (zI v3)]) (k := 0) pl_X5 rfl (Nat.le_of_ble_eq_true rfl) (fun X hl hX hF _ _ => ?_)
  exact w_X_house_e hX hF (zP_of hq rfl)
set_option maxRecDepth 100000 in
set_option maxHeartbeats 4000000 in
theorem w_X_isKind_e {X : zX} {G : zG} {v0 : Int} {μ : zM} {rv : Option zV} {ν : zM} (hX : zOk X G cX5_isKind RX5 1 (some .boolean) 1) (hF : zFin X G rv ν) (h : zP (fun r : Int => (some (zI r), μ) = (rv, ν)) (fo_X_isKind v0)) : zW X G 1 0 [some (zI v0)] [] μ := by
  refine zr_iload_n hX dX5_isKind_0 rfl rfl ?_
  refine zr_iflt (tgt := 14) hX dX5_isKind_1 rfl h (fun h => ?_) (fun h => ?_)
  · refine zr_iconst hX dX5_isKind_14 (zrl rfl) ?_
    exact zr_bretc hX dX5_isKind_15 hF (Or.inl rfl) h
  · refine zr_iload_n hX dX5_isKind_4 rfl rfl ?_
    refine zr_bipush hX dX5_isKind_5 rfl ?_
    refine zr_icmpge (tgt := 14) hX dX5_isKind_7 rfl h (fun h => ?_) (fun h => ?_)
    · refine zr_iconst hX dX5_isKind_14 (zrl rfl) ?_
      exact zr_bretc hX dX5_isKind_15 hF (Or.inl rfl) h
    · refine zr_iconst hX dX5_isKind_10 (zrl rfl) ?_
      refine zr_goto hX dX5_isKind_11 (tgt := 15) rfl ?_
      exact zr_bretc hX dX5_isKind_15 hF (Or.inr rfl) h
set_option maxRecDepth 100000 in
theorem m_X_isKind {l : Launch} {G : zG} {v0 : Int} {μ : zM} : zCT l G yX5_isKind cX5_isKind 1 (some .boolean) 1 [zI v0] μ (some (zI (f_X_isKind v0))) μ := by
  refine zMet (lv := [some (zI v0)]) (k := 0) pl_X5 rfl (Nat.le_of_ble_eq_true rfl) (fun X hl hX hF _ _ => ?_)
  exact w_X_isKind_e hX hF (by rw [fo_X_isKind_eq]; rfl)
def k_R_hoursSeen (X : zX) (G : zG) (o : Nat) (v1 : Int) (v2 : Int) (μ : zM) : (Int × Int) → Prop := fun s => zW X G 5 5 [some (zR o), some (zI v1), some (zI v2), some (zI s.1), some (zI s.2)] [] μ
theorem k_R_hoursSeen_5 {X : zX} {G : zG} {o : Nat} {v1 : Int} {v2 : Int} {μ : zM} {F : Int → Prop} {v3 v4 : Int} (h : zP (Sum.elim (k_R_hoursSeen X G o v1 v2 μ) F) (some (.inl ((v3, v4))))) : zW X G 5 5 [some (zR o), some (zI v1), some (zI v2), some (zI v3), some (zI v4)] [] μ := h
set_option maxRecDepth 100000 in
set_option maxHeartbeats 4000000 in
theorem w_R_hoursSeen_5 {X : zX} {G : zG} {o : Nat} {v1 : Int} {v2 : Int} {μ : zM} {rv : Option zV} {ν : zM} (hX : zOk X G cX1_hoursSeen RX1 5 (some .int) 4) (hF : zFin X G rv ν) (ho : zsh o = (0, 1)) {v3 v4 : Int} (h : zP (Sum.elim (k_R_hoursSeen X G o v1 v2 μ) (fun r : Int => (some (zI r), μ) = (rv, ν))) (b_R_hoursSeen_5 o v1 v2 v3 v4 μ)) : zW X G 5 5 [some (zR o), some (zI v1), some (zI v2), some (zI v3), some (zI v4)] [] μ := by
  refine zr_iload hX dX1_hoursSeen_5 rfl ?_
  refine zr_iconst hX dX1_hoursSeen_7 (zrl rfl) ?_
  refine zr_icmpge (tgt := 37) hX dX1_hoursSeen_8 rfl h (fun h => ?_) (fun h => ?_)
  · refine zr_iload_n hX dX1_hoursSeen_37 rfl rfl ?_
    exact zr_iret hX dX1_hoursSeen_38 hF h
  · refine zr_aload_n hX dX1_hoursSeen_11 rfl rfl ?_
    refine zr_iload_n hX dX1_hoursSeen_12 rfl rfl ?_
    refine zr_iload_n hX dX1_hoursSeen_13 rfl rfl ?_
    refine zr_iload hX dX1_hoursSeen_14 rfl ?_
    refine zP_bind h (fun q1 hq1 h => ?_)
    refine zr_callV hX dX1_hoursSeen_16 (m_R_shaderOf ho hq1) ho rfl rfl (z5 ww_542 ww_462 ww_463 ww_74 ww_464) hy_X1_shaderOf rfl (Nat.le_of_ble_eq_true rfl) (Nat.le_of_ble_eq_true rfl) (Nat.le_of_ble_eq_true rfl) ?_
    refine zr_bipush hX dX1_hoursSeen_19 rfl ?_
    refine zr_icmpne (tgt := 31) hX dX1_hoursSeen_21 rfl h (fun h => ?_) (fun h => ?_)
    · refine zr_iinc hX dX1_hoursSeen_31 rfl (Nat.le_of_ble_eq_true rfl) ?_
      refine zr_goto hX dX1_hoursSeen_34 (tgt := 5) rfl ?_
      exact zW_lf (k_R_hoursSeen_5 h) (And.intro rfl (And.intro rfl (And.intro rfl (And.intro rfl (And.intro rfl trivial)))))
    · refine zr_iload_n hX dX1_hoursSeen_24 rfl rfl ?_
      refine zr_iconst hX dX1_hoursSeen_25 (zrl rfl) ?_
      refine zr_iload hX dX1_hoursSeen_26 rfl ?_
      refine zr_ishl hX dX1_hoursSeen_28 ?_
      refine zr_ior hX dX1_hoursSeen_29 ?_
      refine zr_istore_n hX dX1_hoursSeen_30 rfl (Nat.le_of_ble_eq_true rfl) ?_
      refine zr_iinc hX dX1_hoursSeen_31 rfl (Nat.le_of_ble_eq_true rfl) ?_
      refine zr_goto hX dX1_hoursSeen_34 (tgt := 5) rfl ?_
      exact zW_lf (k_R_hoursSeen_5 h) (And.intro rfl (And.intro rfl (And.intro rfl (And.intro rfl (And.intro rfl trivial)))))
set_option maxRecDepth 100000 in
set_option maxHeartbeats 4000000 in
theorem w_R_hoursSeen_e {X : zX} {G : zG} {o : Nat} {v1 : Int} {v2 : Int} {μ : zM} {rv : Option zV} {ν : zM} (hX : zOk X G cX1_hoursSeen RX1 5 (some .int) 4) (hF : zFin X G rv ν) (ho : zsh o = (0, 1)) (h : zP (Sum.elim (k_R_hoursSeen X G o v1 v2 μ) (fun r : Int => (some (zI r), μ) = (rv, ν))) (e_R_hoursSeen o v1 v2 μ)) : zW X G 5 0 [some (zR o), some (zI v1), some (zI v2), none, none] [] μ := by
  refine zr_iconst hX dX1_hoursSeen_0 (zrl rfl) ?_
  refine zr_istore_n hX dX1_hoursSeen_1 rfl (Nat.le_of_ble_eq_true rfl) ?_
  refine zr_iconst hX dX1_hoursSeen_2 (zrl rfl) ?_
  refine zr_istore hX dX1_hoursSeen_3 (Nat.le_of_ble_eq_true rfl) ?_
  exact zW_lf (k_R_hoursSeen_5 h) (And.intro rfl (And.intro rfl (And.intro rfl (And.intro rfl (And.intro rfl trivial)))))
set_option maxRecDepth 100000 in
theorem m_R_hoursSeen {l : Launch} {G : zG} {o : Nat} {v1 : Int} {v2 : Int} {μ : zM} (ho : zsh o = (0, 1)) {q : Int} (hq : f_R_hoursSeen o v1 v2 μ = some q) : zCT l G yX1_hoursSeen cX1_hoursSeen 5 (some .int) 4 [zR o, zI v1, zI v2] μ (some (zI q)) μ := by
  refine zMet (lv := [some (zR o), some (zI v1), some (zI v2), none, none]) (k := 2) pl_X1 rfl (Nat.le_of_ble_eq_true rfl) (fun X hl hX hF _ _ => ?_)
  refine w_R_hoursSeen_e hX hF ho (zgo_K (r := q) (step := t_R_hoursSeen o v1 v2 μ) (fun s h => ?_) rfl hq)
  exact w_R_hoursSeen_5 hX hF ho h
def k_X_hoursSeenInAll (X : zX) (G : zG) (o0 : Nat) (μ : zM) : ((Int × Int) ⊕ (Int × Int × Int)) → Prop := fun s => match s with
  | .inl (s) => zW X G 4 4 [some (zR o0), some (zI s.1), some (zI s.2), none] [] μ
  | .inr (s) => zW X G 4 14 [some (zR o0), some (zI s.1), some (zI s.2.1), some (zI s.2.2)] [] μ
theorem k_X_hoursSeenInAll_4 {X : zX} {G : zG} {o0 : Nat} {μ : zM} {F : Int → Prop} {v1 v2 : Int} (h : zP (Sum.elim (k_X_hoursSeenInAll X G o0 μ) F) (some (.inl (.inl ((v1, v2)))))) : zW X G 4 4 [some (zR o0), some (zI v1), some (zI v2), none] [] μ := h
theorem k_X_hoursSeenInAll_14 {X : zX} {G : zG} {o0 : Nat} {μ : zM} {F : Int → Prop} {v1 v2 v3 : Int} (h : zP (Sum.elim (k_X_hoursSeenInAll X G o0 μ) F) (some (.inl (.inr ((v1, v2, v3)))))) : zW X G 4 14 [some (zR o0), some (zI v1), some (zI v2), some (zI v3)] [] μ := h
set_option maxRecDepth 100000 in
set_option maxHeartbeats 4000000 in
theorem w_X_hoursSeenInAll_4 {X : zX} {G : zG} {o0 : Nat} {μ : zM} {rv : Option zV} {ν : zM} (hX : zOk X G cX5_hoursSeenInAll RX5 4 (some .int) 5) (hF : zFin X G rv ν) (ho0 : zsh o0 = (0, 1)) {v1 v2 : Int} (h : zP (Sum.elim (k_X_hoursSeenInAll X G o0 μ) (fun r : Int => (some (zI r), μ) = (rv, ν))) (b_X_hoursSeenInAll_4 o0 v1 v2 μ)) : zW X G 4 4 [some (zR o0), some (zI v1), some (zI v2), none] [] μ := by
  refine zr_iload_n hX dX5_hoursSeenInAll_4 rfl rfl ?_
  refine zr_aload_n hX dX5_hoursSeenInAll_5 rfl rfl ?_
  refine zr_callV hX dX5_hoursSeenInAll_6 (m_R_towerCount ho0) ho0 rfl rfl (z5 ww_341 ww_342 ww_343 ww_74 ww_344) hy_X1_towerCount rfl (Nat.le_of_ble_eq_true rfl) (Nat.le_of_ble_eq_true rfl) (Nat.le_of_ble_eq_true rfl) ?_
  refine zr_icmpge (tgt := 47) hX dX5_hoursSeenInAll_9 rfl h (fun h => ?_) (fun h => ?_)
  · refine zr_iload_n hX dX5_hoursSeenInAll_47 rfl rfl ?_
    exact zr_iret hX dX5_hoursSeenInAll_48 hF h
  · refine zr_iconst hX dX5_hoursSeenInAll_12 (zrl rfl) ?_
    refine zr_istore_n hX dX5_hoursSeenInAll_13 rfl (Nat.le_of_ble_eq_true rfl) ?_
    exact zW_lf (k_X_hoursSeenInAll_14 h) (And.intro rfl (And.intro rfl (And.intro rfl (And.intro rfl trivial))))
set_option maxRecDepth 100000 in
set_option maxHeartbeats 4000000 in
theorem w_X_hoursSeenInAll_14 {X : zX} {G : zG} {o0 : Nat} {μ : zM} {rv : Option zV} {ν : zM} (hX : zOk X G cX5_hoursSeenInAll RX5 4 (some .int) 5) (hF : zFin X G rv ν) (ho0 : zsh o0 = (0, 1)) {v1 v2 v3 : Int} (h : zP (Sum.elim (k_X_hoursSeenInAll X G o0 μ) (fun r : Int => (some (zI r), μ) = (rv, ν))) (b_X_hoursSeenInAll_14 o0 v1 v2 v3 μ)) : zW X G 4 14 [some (zR o0), some (zI v1), some (zI v2), some (zI v3)] [] μ := by
  refine zr_iload_n hX dX5_hoursSeenInAll_14 rfl rfl ?_
  refine zr_aload_n hX dX5_hoursSeenInAll_15 rfl rfl ?_
  refine zr_iload_n hX dX5_hoursSeenInAll_16 rfl rfl ?_
  refine zP_bind h (fun q1 hq1 h => ?_)
  refine zr_callV hX dX5_hoursSeenInAll_17 (m_R_heightOf ho0 hq1) ho0 rfl rfl (z5 ww_422 ww_359 ww_360 ww_74 ww_361) hy_X1_heightOf rfl (Nat.le_of_ble_eq_true rfl) (Nat.le_of_ble_eq_true rfl) (Nat.le_of_ble_eq_true rfl) ?_
  refine zr_icmpge (tgt := 41) hX dX5_hoursSeenInAll_20 rfl h (fun h => ?_) (fun h => ?_)
  · refine zr_iinc hX dX5_hoursSeenInAll_41 rfl (Nat.le_of_ble_eq_true rfl) ?_
    refine zr_goto hX dX5_hoursSeenInAll_44 (tgt := 4) rfl ?_
    exact zW_lf (k_X_hoursSeenInAll_4 h) (And.intro rfl (And.intro rfl (And.intro rfl trivial)))
  · refine zr_iload_n hX dX5_hoursSeenInAll_23 rfl rfl ?_
    refine zr_aload_n hX dX5_hoursSeenInAll_24 rfl rfl ?_
    refine zr_iload_n hX dX5_hoursSeenInAll_25 rfl rfl ?_
    refine zr_iload_n hX dX5_hoursSeenInAll_26 rfl rfl ?_
    refine zP_bind h (fun q2 hq2 h => ?_)
    refine zr_callV hX dX5_hoursSeenInAll_27 (m_R_hoursSeen ho0 hq2) ho0 rfl rfl (z5 ww_538 ww_539 ww_540 ww_74 ww_541) hy_X1_hoursSeen rfl (Nat.le_of_ble_eq_true rfl) (Nat.le_of_ble_eq_true rfl) (Nat.le_of_ble_eq_true rfl) ?_
    refine zr_callS hX dX5_hoursSeenInAll_30 (m_J_bitCount) rfl (z4 ww_543 ww_506 ww_79 ww_507) hy_J6_bitCount_0f7a4 rfl (Nat.le_of_ble_eq_true rfl) (Nat.le_of_ble_eq_true rfl) (Nat.le_of_ble_eq_true rfl) ?_
    refine zr_iadd hX dX5_hoursSeenInAll_33 ?_
    refine zr_istore_n hX dX5_hoursSeenInAll_34 rfl (Nat.le_of_ble_eq_true rfl) ?_
    refine zr_iinc hX dX5_hoursSeenInAll_35 rfl (Nat.le_of_ble_eq_true rfl) ?_
    refine zr_goto hX dX5_hoursSeenInAll_38 (tgt := 14) rfl ?_
    exact zW_lf (k_X_hoursSeenInAll_14 h) (And.intro rfl (And.intro rfl (And.intro rfl (And.intro rfl trivial))))
set_option maxRecDepth 100000 in
set_option maxHeartbeats 4000000 in
theorem w_X_hoursSeenInAll_e {X : zX} {G : zG} {o0 : Nat} {μ : zM} {rv : Option zV} {ν : zM} (hX : zOk X G cX5_hoursSeenInAll RX5 4 (some .int) 5) (hF : zFin X G rv ν) (ho0 : zsh o0 = (0, 1)) (h : zP (Sum.elim (k_X_hoursSeenInAll X G o0 μ) (fun r : Int => (some (zI r), μ) = (rv, ν))) (e_X_hoursSeenInAll o0 μ)) : zW X G 4 0 [some (zR o0), none, none, none] [] μ := by
  refine zr_iconst hX dX5_hoursSeenInAll_0 (zrl rfl) ?_
  refine zr_istore_n hX dX5_hoursSeenInAll_1 rfl (Nat.le_of_ble_eq_true rfl) ?_
  refine zr_iconst hX dX5_hoursSeenInAll_2 (zrl rfl) ?_
  refine zr_istore_n hX dX5_hoursSeenInAll_3 rfl (Nat.le_of_ble_eq_true rfl) ?_
  exact zW_lf (k_X_hoursSeenInAll_4 h) (And.intro rfl (And.intro rfl (And.intro rfl trivial)))
set_option maxRecDepth 100000 in
theorem m_X_hoursSeenInAll {l : Launch} {G : zG} {o0 : Nat} {μ : zM} (ho0 : zsh o0 = (0, 1)) {q : Int} (hq : f_X_hoursSeenInAll o0 μ = some q) : zCT l G yX5_hoursSeenInAll cX5_hoursSeenInAll 4 (some .int) 5 [zR o0] μ (some (zI q)) μ := by
  refine zMet (lv := [some (zR o0), none, none, none]) (k := 3) pl_X5 rfl (Nat.le_of_ble_eq_true rfl) (fun X hl hX hF _ _ => ?_)
  refine w_X_hoursSeenInAll_e hX hF ho0 (zgo_K (r := q) (step := t_X_hoursSeenInAll o0 μ) (fun s h => ?_) rfl hq)
  cases s with
  | inl s => exact w_X_hoursSeenInAll_4 hX hF ho0 h
  | inr s => exact w_X_hoursSeenInAll_14 hX hF ho0 h
set_option maxRecDepth 100000 in
set_option maxHeartbeats 4000000 in
theorem w_X_hoursTakenIfHouse_e {X : zX} {G : zG} {v1 : Int} {v2 : Int} {μ : zM} {rv : Option zV} {ν : zM} (hX : zOk X G cX5_hoursTakenIfHouse RX5 4 (some .int) 6) (hF : zFin X G rv ν) (h : zP (fun r : (Int × zM) => (some (zI r.1), r.2) = (rv, ν)) (f_X_hoursTakenIfHouse v1 v2 μ)) : zW X G 4 0 [some (zR 0), some (zI v1), some (zI v2), none] [] μ := by
  refine zr_aload_n hX dX5_hoursTakenIfHouse_0 rfl rfl ?_
  refine zr_getr hX dX5_hoursTakenIfHouse_1 (k := 2) (q := 7) rfl rfl ww_201 rfl ?_
  refine zr_getrN hX dX5_hoursTakenIfHouse_4 (k := 0) (q := 8) rfl rfl nf_X5_125 rfl ?_
  refine zP_bind h (fun q1 hq1 h => ?_)
  refine zr_callS hX dX5_hoursTakenIfHouse_7 (m_X_hoursSeenInAll rfl hq1) rfl (z4 ww_535 ww_536 ww_70 ww_537) hy_X5_hoursSeenInAll rfl (Nat.le_of_ble_eq_true rfl) (Nat.le_of_ble_eq_true rfl) (Nat.le_of_ble_eq_true rfl) ?_
  refine zr_istore_n hX dX5_hoursTakenIfHouse_10 rfl (Nat.le_of_ble_eq_true rfl) ?_
  refine zr_aload_n hX dX5_hoursTakenIfHouse_11 rfl rfl ?_
  refine zr_getr hX dX5_hoursTakenIfHouse_12 (k := 4) (q := 13) rfl rfl ww_203 rfl ?_
  refine zr_aload_n hX dX5_hoursTakenIfHouse_15 rfl rfl ?_
  refine zr_getr hX dX5_hoursTakenIfHouse_16 (k := 2) (q := 7) rfl rfl ww_201 rfl ?_
  refine zr_getrN hX dX5_hoursTakenIfHouse_19 (k := 0) (q := 8) rfl rfl nf_X5_125 rfl ?_
  refine zP_bind h (fun q2 hq2 h => ?_)
  refine zr_callV hX dX5_hoursTakenIfHouse_22 (m_R_takeFrom rfl rfl hq2) rfl rfl rfl (z5 ww_544 ww_387 ww_388 ww_74 ww_389) hy_X1_takeFrom rfl (Nat.le_of_ble_eq_true rfl) (Nat.le_of_ble_eq_true rfl) (Nat.le_of_ble_eq_true rfl) ?_
  refine zr_aload_n hX dX5_hoursTakenIfHouse_25 rfl rfl ?_
  refine zr_getr hX dX5_hoursTakenIfHouse_26 (k := 4) (q := 13) rfl rfl ww_203 rfl ?_
  refine zr_iload_n hX dX5_hoursTakenIfHouse_29 rfl rfl ?_
  refine zr_iload_n hX dX5_hoursTakenIfHouse_30 rfl rfl ?_
  refine zr_iconst hX dX5_hoursTakenIfHouse_31 (zrl rfl) ?_
  refine zr_aload_n hX dX5_hoursTakenIfHouse_32 rfl rfl ?_
  refine zr_getr hX dX5_hoursTakenIfHouse_33 (k := 4) (q := 13) rfl rfl ww_203 rfl ?_
  refine zr_iload_n hX dX5_hoursTakenIfHouse_36 rfl rfl ?_
  refine zr_iload_n hX dX5_hoursTakenIfHouse_37 rfl rfl ?_
  refine zP_bind h (fun q3 hq3 h => ?_)
  refine zr_callV hX dX5_hoursTakenIfHouse_38 (m_R_borneAt rfl hq3) rfl rfl rfl (z5 ww_486 ww_401 ww_402 ww_74 ww_403) hy_X1_borneAt rfl (Nat.le_of_ble_eq_true rfl) (Nat.le_of_ble_eq_true rfl) (Nat.le_of_ble_eq_true rfl) ?_
  refine zP_bind h (fun q4 hq4 h => ?_)
  refine zr_callV hX dX5_hoursTakenIfHouse_41 (m_R_change rfl hq4) rfl rfl rfl (z5 ww_545 ww_371 ww_372 ww_74 ww_373) hy_X1_change rfl (Nat.le_of_ble_eq_true rfl) (Nat.le_of_ble_eq_true rfl) (Nat.le_of_ble_eq_true rfl) ?_
  refine zr_iload_n hX dX5_hoursTakenIfHouse_44 rfl rfl ?_
  refine zr_aload_n hX dX5_hoursTakenIfHouse_45 rfl rfl ?_
  refine zr_getr hX dX5_hoursTakenIfHouse_46 (k := 4) (q := 13) rfl rfl ww_203 rfl ?_
  refine zP_bind h (fun q5 hq5 h => ?_)
  refine zr_callS hX dX5_hoursTakenIfHouse_49 (m_X_hoursSeenInAll rfl hq5) rfl (z4 ww_535 ww_536 ww_70 ww_537) hy_X5_hoursSeenInAll rfl (Nat.le_of_ble_eq_true rfl) (Nat.le_of_ble_eq_true rfl) (Nat.le_of_ble_eq_true rfl) ?_
  refine zr_isub hX dX5_hoursTakenIfHouse_52 ?_
  exact zr_iret hX dX5_hoursTakenIfHouse_53 hF h
set_option maxRecDepth 100000 in
theorem m_X_hoursTakenIfHouse {l : Launch} {G : zG} {v1 : Int} {v2 : Int} {μ : zM} {q : Int × zM} (hq : f_X_hoursTakenIfHouse v1 v2 μ = some q) : zCT l G yX5_hoursTakenIfHouse cX5_hoursTakenIfHouse 4 (some .int) 6 [zR 0, zI v1, zI v2] μ (some (zI q.1)) q.2 := by
  refine zMet (lv := [some (zR 0), some (zI v1), some (zI v2), none]) (k := 1) pl_X5 rfl (Nat.le_of_ble_eq_true rfl) (fun X hl hX hF _ _ => ?_)
  exact w_X_hoursTakenIfHouse_e hX hF (zP_of hq rfl)
def k_X_lightenedBelow (X : zX) (G : zG) (v1 : Int) (v2 : Int) (μ : zM) : (Int × Int) → Prop := fun s => zW X G 6 5 [some (zR 0), some (zI v1), some (zI v2), some (zI s.1), some (zI s.2), none] [] μ
theorem k_X_lightenedBelow_5 {X : zX} {G : zG} {v1 : Int} {v2 : Int} {μ : zM} {F : Int → Prop} {v3 v4 : Int} (h : zP (Sum.elim (k_X_lightenedBelow X G v1 v2 μ) F) (some (.inl ((v3, v4))))) : zW X G 6 5 [some (zR 0), some (zI v1), some (zI v2), some (zI v3), some (zI v4), none] [] μ := h
set_option maxRecDepth 100000 in
set_option maxHeartbeats 4000000 in
theorem w_X_lightenedBelow_5 {X : zX} {G : zG} {v1 : Int} {v2 : Int} {μ : zM} {rv : Option zV} {ν : zM} (hX : zOk X G cX5_lightenedBelow RX5 6 (some .int) 5) (hF : zFin X G rv ν) {v3 v4 : Int} (h : zP (Sum.elim (k_X_lightenedBelow X G v1 v2 μ) (fun r : Int => (some (zI r), μ) = (rv, ν))) (b_X_lightenedBelow_5 v1 v2 v3 v4 μ)) : zW X G 6 5 [some (zR 0), some (zI v1), some (zI v2), some (zI v3), some (zI v4), none] [] μ := by
  refine zr_iload hX dX5_lightenedBelow_5 rfl ?_
  refine zr_iload_n hX dX5_lightenedBelow_7 rfl rfl ?_
  refine zr_icmpge (tgt := 58) hX dX5_lightenedBelow_8 rfl h (fun h => ?_) (fun h => ?_)
  · refine zr_iload_n hX dX5_lightenedBelow_58 rfl rfl ?_
    exact zr_iret hX dX5_lightenedBelow_59 hF h
  · refine zr_aload_n hX dX5_lightenedBelow_11 rfl rfl ?_
    refine zr_getr hX dX5_lightenedBelow_12 (k := 2) (q := 7) rfl rfl ww_201 rfl ?_
    refine zr_getrN hX dX5_lightenedBelow_15 (k := 0) (q := 8) rfl rfl nf_X5_125 rfl ?_
    refine zr_iload_n hX dX5_lightenedBelow_18 rfl rfl ?_
    refine zr_iload hX dX5_lightenedBelow_19 rfl ?_
    refine zP_bind h (fun q1 hq1 h => ?_)
    refine zr_callV hX dX5_lightenedBelow_21 (m_R_hoursSeen rfl hq1) rfl rfl rfl (z5 ww_538 ww_539 ww_540 ww_74 ww_541) hy_X1_hoursSeen rfl (Nat.le_of_ble_eq_true rfl) (Nat.le_of_ble_eq_true rfl) (Nat.le_of_ble_eq_true rfl) ?_
    refine zr_callS hX dX5_lightenedBelow_24 (m_J_bitCount) rfl (z4 ww_543 ww_506 ww_79 ww_507) hy_J6_bitCount_0f7a4 rfl (Nat.le_of_ble_eq_true rfl) (Nat.le_of_ble_eq_true rfl) (Nat.le_of_ble_eq_true rfl) ?_
    refine zr_istore hX dX5_lightenedBelow_27 (Nat.le_of_ble_eq_true rfl) ?_
    refine zr_iload hX dX5_lightenedBelow_29 rfl ?_
    refine zr_aload_n hX dX5_lightenedBelow_31 rfl rfl ?_
    refine zr_getr hX dX5_lightenedBelow_32 (k := 2) (q := 7) rfl rfl ww_201 rfl ?_
    refine zr_getrN hX dX5_lightenedBelow_35 (k := 0) (q := 8) rfl rfl nf_X5_125 rfl ?_
    refine zr_iload_n hX dX5_lightenedBelow_38 rfl rfl ?_
    refine zr_iload hX dX5_lightenedBelow_39 rfl ?_
    refine zP_bind h (fun q2 hq2 h => ?_)
    refine zr_callV hX dX5_lightenedBelow_41 (m_R_lampedAbove rfl hq2) rfl rfl rfl (z5 ww_551 ww_454 ww_455 ww_74 ww_456) hy_X1_lampedAbove rfl (Nat.le_of_ble_eq_true rfl) (Nat.le_of_ble_eq_true rfl) (Nat.le_of_ble_eq_true rfl) ?_
    refine zr_iadd hX dX5_lightenedBelow_44 ?_
    refine zr_iconst hX dX5_lightenedBelow_45 (zrl rfl) ?_
    refine zr_icmpgt (tgt := 52) hX dX5_lightenedBelow_46 rfl h (fun h => ?_) (fun h => ?_)
    · refine zr_iinc hX dX5_lightenedBelow_52 rfl (Nat.le_of_ble_eq_true rfl) ?_
      refine zr_goto hX dX5_lightenedBelow_55 (tgt := 5) rfl ?_
      exact zW_lf (k_X_lightenedBelow_5 h) (And.intro rfl (And.intro rfl (And.intro rfl (And.intro rfl (And.intro rfl trivial)))))
    · refine zr_iinc hX dX5_lightenedBelow_49 rfl (Nat.le_of_ble_eq_true rfl) ?_
      refine zr_iinc hX dX5_lightenedBelow_52 rfl (Nat.le_of_ble_eq_true rfl) ?_
      refine zr_goto hX dX5_lightenedBelow_55 (tgt := 5) rfl ?_
      exact zW_lf (k_X_lightenedBelow_5 h) (And.intro rfl (And.intro rfl (And.intro rfl (And.intro rfl (And.intro rfl trivial)))))
set_option maxRecDepth 100000 in
set_option maxHeartbeats 4000000 in
theorem w_X_lightenedBelow_e {X : zX} {G : zG} {v1 : Int} {v2 : Int} {μ : zM} {rv : Option zV} {ν : zM} (hX : zOk X G cX5_lightenedBelow RX5 6 (some .int) 5) (hF : zFin X G rv ν) (h : zP (Sum.elim (k_X_lightenedBelow X G v1 v2 μ) (fun r : Int => (some (zI r), μ) = (rv, ν))) (e_X_lightenedBelow v1 v2 μ)) : zW X G 6 0 [some (zR 0), some (zI v1), some (zI v2), none, none, none] [] μ := by
  refine zr_iconst hX dX5_lightenedBelow_0 (zrl rfl) ?_
  refine zr_istore_n hX dX5_lightenedBelow_1 rfl (Nat.le_of_ble_eq_true rfl) ?_
  refine zr_iconst hX dX5_lightenedBelow_2 (zrl rfl) ?_
  refine zr_istore hX dX5_lightenedBelow_3 (Nat.le_of_ble_eq_true rfl) ?_
  exact zW_lf (k_X_lightenedBelow_5 h) (And.intro rfl (And.intro rfl (And.intro rfl (And.intro rfl (And.intro rfl trivial)))))
set_option maxRecDepth 100000 in
theorem m_X_lightenedBelow {l : Launch} {G : zG} {v1 : Int} {v2 : Int} {μ : zM} {q : Int} (hq : f_X_lightenedBelow v1 v2 μ = some q) : zCT l G yX5_lightenedBelow cX5_lightenedBelow 6 (some .int) 5 [zR 0, zI v1, zI v2] μ (some (zI q)) μ := by
  refine zMet (lv := [some (zR 0), some (zI v1), some (zI v2), none, none, none]) (k := 3) pl_X5 rfl (Nat.le_of_ble_eq_true rfl) (fun X hl hX hF _ _ => ?_)
  refine w_X_lightenedBelow_e hX hF (zgo_K (r := q) (step := t_X_lightenedBelow v1 v2 μ) (fun s h => ?_) rfl hq)
  exact w_X_lightenedBelow_5 hX hF h
set_option maxRecDepth 100000 in
set_option maxHeartbeats 4000000 in
theorem w_X_markOf_e {X : zX} {G : zG} {v1 : Int} {v2 : Int} {v3 : Int} {μ : zM} {rv : Option zV} {ν : zM} (hX : zOk X G cX5_markOf RX5 4 (some .int) 7) (hF : zFin X G rv ν) (h : zP (fun r : (Int × zM) => (some (zI r.1), r.2) = (rv, ν)) (f_X_markOf v1 v2 v3 μ)) : zW X G 4 0 [some (zR 0), some (zI v1), some (zI v2), some (zI v3)] [] μ := by
  refine zr_iload_n hX dX5_markOf_0 rfl rfl ?_
  refine zr_tsw hX 1 dX5_markOf_1 (by decide) (zrl rfl) (t2 := 32) rfl rfl h (fun h => ?_) (fun hs1 h => ?_)
  · refine zr_aload_n hX dX5_markOf_32 rfl rfl ?_
    refine zr_iload_n hX dX5_markOf_33 rfl rfl ?_
    refine zr_iload_n hX dX5_markOf_34 rfl rfl ?_
    refine zP_bind h (fun q2 hq2 h => ?_)
    refine zr_callV hX dX5_markOf_35 (m_X_hoursTakenIfHouse hq2) rfl rfl rfl (z5 ww_531 ww_533 ww_11 ww_70 ww_534) hy_X5_hoursTakenIfHouse rfl (Nat.le_of_ble_eq_true rfl) (Nat.le_of_ble_eq_true rfl) (Nat.le_of_ble_eq_true rfl) ?_
    exact zr_iret hX dX5_markOf_38 hF h
  refine zr_tsw hX 2 dX5_markOf_1 (by decide) (zrl rfl) (t2 := 39) rfl rfl h (fun h => ?_) (fun hs3 h => ?_)
  · refine zr_aload_n hX dX5_markOf_39 rfl rfl ?_
    refine zr_getr hX dX5_markOf_40 (k := 2) (q := 7) rfl rfl ww_201 rfl ?_
    refine zr_getrN hX dX5_markOf_43 (k := 0) (q := 8) rfl rfl nf_X5_125 rfl ?_
    refine zr_iload_n hX dX5_markOf_46 rfl rfl ?_
    refine zr_iconst hX dX5_markOf_47 (zrl rfl) ?_
    refine zr_iadd hX dX5_markOf_48 ?_
    refine zP_bind h (fun q4 hq4 h => ?_)
    refine zr_callV hX dX5_markOf_49 (m_R_heightOf rfl hq4) rfl rfl rfl (z5 ww_422 ww_359 ww_360 ww_74 ww_361) hy_X1_heightOf rfl (Nat.le_of_ble_eq_true rfl) (Nat.le_of_ble_eq_true rfl) (Nat.le_of_ble_eq_true rfl) ?_
    refine zr_iload_n hX dX5_markOf_52 rfl rfl ?_
    refine zr_iconst hX dX5_markOf_53 (zrl rfl) ?_
    refine zr_iadd hX dX5_markOf_54 ?_
    refine zr_min hX dX5_markOf_55 (by decide +kernel) (Nat.le_of_ble_eq_true rfl) (Nat.le_of_ble_eq_true rfl) ?_
    exact zr_iret hX dX5_markOf_58 hF h
  refine zr_tsw hX 3 dX5_markOf_1 (by decide) (zrl rfl) (t2 := 59) rfl rfl h (fun h => ?_) (fun hs5 h => ?_)
  · refine zr_aload_n hX dX5_markOf_59 rfl rfl ?_
    refine zr_getr hX dX5_markOf_60 (k := 5) (q := 16) rfl rfl ww_204 rfl ?_
    refine zr_aload_n hX dX5_markOf_63 rfl rfl ?_
    refine zr_getr hX dX5_markOf_64 (k := 2) (q := 7) rfl rfl ww_201 rfl ?_
    refine zr_getrN hX dX5_markOf_67 (k := 0) (q := 8) rfl rfl nf_X5_125 rfl ?_
    refine zP_bind h (fun q6 hq6 h => ?_)
    refine zr_callV hX dX5_markOf_70 (m_L_reckon rfl hq6) rfl rfl rfl (z5 ww_432 ww_433 ww_434 ww_75 ww_435) hy_X0_reckon rfl (Nat.le_of_ble_eq_true rfl) (Nat.le_of_ble_eq_true rfl) (Nat.le_of_ble_eq_true rfl) ?_
    refine zr_aload_n hX dX5_markOf_73 rfl rfl ?_
    refine zr_getr hX dX5_markOf_74 (k := 5) (q := 16) rfl rfl ww_204 rfl ?_
    refine zr_aload_n hX dX5_markOf_77 rfl rfl ?_
    refine zr_getr hX dX5_markOf_78 (k := 2) (q := 7) rfl rfl ww_201 rfl ?_
    refine zr_getrN hX dX5_markOf_81 (k := 0) (q := 8) rfl rfl nf_X5_125 rfl ?_
    refine zr_iload_n hX dX5_markOf_84 rfl rfl ?_
    refine zr_iload_n hX dX5_markOf_85 rfl rfl ?_
    refine zP_bind h (fun q7 hq7 h => ?_)
    refine zr_callV hX dX5_markOf_86 (m_R_numberOf rfl hq7) rfl rfl rfl (z5 ww_484 ww_473 ww_474 ww_74 ww_475) hy_X1_numberOf rfl (Nat.le_of_ble_eq_true rfl) (Nat.le_of_ble_eq_true rfl) (Nat.le_of_ble_eq_true rfl) ?_
    refine zP_bind h (fun q8 hq8 h => ?_)
    refine zr_callV hX dX5_markOf_89 (m_L_owedOf hq8) rfl rfl rfl (z5 ww_515 ww_516 ww_517 ww_75 ww_518) hy_X0_owedOf rfl (Nat.le_of_ble_eq_true rfl) (Nat.le_of_ble_eq_true rfl) (Nat.le_of_ble_eq_true rfl) ?_
    exact zr_iret hX dX5_markOf_92 hF h
  refine zr_tsw hX 4 dX5_markOf_1 (by decide) (zrl rfl) (t2 := 93) rfl rfl h (fun h => ?_) (fun hs9 h => ?_)
  · refine zr_aload_n hX dX5_markOf_93 rfl rfl ?_
    refine zr_getr hX dX5_markOf_94 (k := 2) (q := 7) rfl rfl ww_201 rfl ?_
    refine zr_getrN hX dX5_markOf_97 (k := 0) (q := 8) rfl rfl nf_X5_125 rfl ?_
    refine zr_iload_n hX dX5_markOf_100 rfl rfl ?_
    refine zP_bind h (fun q10 hq10 h => ?_)
    refine zr_callV hX dX5_markOf_101 (m_R_heightOf rfl hq10) rfl rfl rfl (z5 ww_422 ww_359 ww_360 ww_74 ww_361) hy_X1_heightOf rfl (Nat.le_of_ble_eq_true rfl) (Nat.le_of_ble_eq_true rfl) (Nat.le_of_ble_eq_true rfl) ?_
    refine zr_iconst hX dX5_markOf_104 (zrl rfl) ?_
    refine zr_isub hX dX5_markOf_105 ?_
    refine zr_iload_n hX dX5_markOf_106 rfl rfl ?_
    refine zr_isub hX dX5_markOf_107 ?_
    exact zr_iret hX dX5_markOf_108 hF h
  refine zr_tswd (tgt := 109) hX dX5_markOf_1 (by omega) rfl ?_
  refine zr_aload_n hX dX5_markOf_109 rfl rfl ?_
  refine zr_iload_n hX dX5_markOf_110 rfl rfl ?_
  refine zr_iload_n hX dX5_markOf_111 rfl rfl ?_
  refine zP_bind h (fun q11 hq11 h => ?_)
  refine zr_callV hX dX5_markOf_112 (m_X_lightenedBelow hq11) rfl rfl rfl (z5 ww_547 ww_549 ww_12 ww_70 ww_550) hy_X5_lightenedBelow rfl (Nat.le_of_ble_eq_true rfl) (Nat.le_of_ble_eq_true rfl) (Nat.le_of_ble_eq_true rfl) ?_
  exact zr_iret hX dX5_markOf_115 hF h
set_option maxRecDepth 100000 in
theorem m_X_markOf {l : Launch} {G : zG} {v1 : Int} {v2 : Int} {v3 : Int} {μ : zM} {q : Int × zM} (hq : f_X_markOf v1 v2 v3 μ = some q) : zCT l G yX5_markOf cX5_markOf 4 (some .int) 7 [zR 0, zI v1, zI v2, zI v3] μ (some (zI q.1)) q.2 := by
  refine zMet (lv := [some (zR 0), some (zI v1), some (zI v2), some (zI v3)]) (k := 0) pl_X5 rfl (Nat.le_of_ble_eq_true rfl) (fun X hl hX hF _ _ => ?_)
  exact w_X_markOf_e hX hF (zP_of hq rfl)
set_option maxRecDepth 100000 in
set_option maxHeartbeats 4000000 in
theorem w_X_mark_e {X : zX} {G : zG} {v1 : Int} {v2 : Int} {v3 : Int} {μ : zM} {rv : Option zV} {ν : zM} (hX : zOk X G cX5_mark RX5 4 (some .int) 8) (hF : zFin X G rv ν) (h : zP (fun r : (Int × zM) => (some (zI r.1), r.2) = (rv, ν)) (f_X_mark v1 v2 v3 μ)) : zW X G 4 0 [some (zR 0), some (zI v1), some (zI v2), some (zI v3)] [] μ := by
  refine zr_aload_n hX dX5_mark_0 rfl rfl ?_
  refine zr_iload_n hX dX5_mark_1 rfl rfl ?_
  refine zr_iload_n hX dX5_mark_2 rfl rfl ?_
  refine zr_callV hX dX5_mark_3 (m_X_isNoPlace) rfl rfl rfl (z5 ww_427 ww_429 ww_4 ww_70 ww_430) hy_X5_isNoPlace rfl (Nat.le_of_ble_eq_true rfl) (Nat.le_of_ble_eq_true rfl) (Nat.le_of_ble_eq_true rfl) ?_
  refine zr_ifne (tgt := 20) hX dX5_mark_6 rfl h (fun h => ?_) (fun h => ?_)
  · refine zr_iconst hX dX5_mark_20 (zrl rfl) ?_
    exact zr_iret hX dX5_mark_21 hF h
  · refine zr_iload_n hX dX5_mark_9 rfl rfl ?_
    refine zr_callS hX dX5_mark_10 (m_X_isKind) rfl (z4 ww_523 ww_524 ww_70 ww_525) hy_X5_isKind rfl (Nat.le_of_ble_eq_true rfl) (Nat.le_of_ble_eq_true rfl) (Nat.le_of_ble_eq_true rfl) ?_
    refine zr_ifeq (tgt := 20) hX dX5_mark_13 rfl h (fun h => ?_) (fun h => ?_)
    · refine zr_iconst hX dX5_mark_20 (zrl rfl) ?_
      exact zr_iret hX dX5_mark_21 hF h
    · refine zr_iload_n hX dX5_mark_16 rfl rfl ?_
      refine zr_ifne (tgt := 22) hX dX5_mark_17 rfl h (fun h => ?_) (fun h => ?_)
      · refine zr_aload_n hX dX5_mark_22 rfl rfl ?_
        refine zr_getr hX dX5_mark_23 (k := 2) (q := 7) rfl rfl ww_201 rfl ?_
        refine zr_getrN hX dX5_mark_26 (k := 0) (q := 8) rfl rfl nf_X5_125 rfl ?_
        refine zr_iload_n hX dX5_mark_29 rfl rfl ?_
        refine zr_iload_n hX dX5_mark_30 rfl rfl ?_
        refine zP_bind h (fun q1 hq1 h => ?_)
        refine zr_callV hX dX5_mark_31 (m_R_has rfl hq1) rfl rfl rfl (z5 ww_431 ww_375 ww_376 ww_74 ww_377) hy_X1_has rfl (Nat.le_of_ble_eq_true rfl) (Nat.le_of_ble_eq_true rfl) (Nat.le_of_ble_eq_true rfl) ?_
        refine zr_ifne (tgt := 43) hX dX5_mark_34 rfl h (fun h => ?_) (fun h => ?_)
        · refine zr_aload_n hX dX5_mark_43 rfl rfl ?_
          refine zr_getr hX dX5_mark_44 (k := 2) (q := 7) rfl rfl ww_201 rfl ?_
          refine zr_getrN hX dX5_mark_47 (k := 0) (q := 8) rfl rfl nf_X5_125 rfl ?_
          refine zr_iload_n hX dX5_mark_50 rfl rfl ?_
          refine zr_iload_n hX dX5_mark_51 rfl rfl ?_
          refine zP_bind h (fun q2 hq2 h => ?_)
          refine zr_callV hX dX5_mark_52 (m_R_kindAt rfl hq2) rfl rfl rfl (z5 ww_485 ww_397 ww_398 ww_74 ww_399) hy_X1_kindAt rfl (Nat.le_of_ble_eq_true rfl) (Nat.le_of_ble_eq_true rfl) (Nat.le_of_ble_eq_true rfl) ?_
          refine zr_iload_n hX dX5_mark_55 rfl rfl ?_
          refine zP_bind h (fun q3 hq3 h => ?_)
          refine zr_callS hX dX5_mark_56 (m_X_isOf hq3) rfl (z4 ww_526 ww_470 ww_70 ww_471) hy_X5_isOf rfl (Nat.le_of_ble_eq_true rfl) (Nat.le_of_ble_eq_true rfl) (Nat.le_of_ble_eq_true rfl) ?_
          refine zr_ifne (tgt := 68) hX dX5_mark_59 rfl h (fun h => ?_) (fun h => ?_)
          · refine zr_aload_n hX dX5_mark_68 rfl rfl ?_
            refine zr_iload_n hX dX5_mark_69 rfl rfl ?_
            refine zr_iload_n hX dX5_mark_70 rfl rfl ?_
            refine zr_iload_n hX dX5_mark_71 rfl rfl ?_
            refine zP_bind h (fun q4 hq4 h => ?_)
            refine zr_callV hX dX5_mark_72 (m_X_markOf hq4) rfl rfl rfl (z5 ww_527 ww_529 ww_10 ww_70 ww_530) hy_X5_markOf rfl (Nat.le_of_ble_eq_true rfl) (Nat.le_of_ble_eq_true rfl) (Nat.le_of_ble_eq_true rfl) ?_
            exact zr_iret hX dX5_mark_75 hF h
          · refine zr_aload_n hX dX5_mark_62 rfl rfl ?_
            refine zr_iconst hX dX5_mark_63 (zrl rfl) ?_
            refine zP_bind h (fun q5 hq5 h => ?_)
            refine zr_callV hX dX5_mark_64 (m_X_found hq5) rfl rfl rfl (z5 ww_244 ww_246 ww_0 ww_70 ww_247) hy_X5_found rfl (Nat.le_of_ble_eq_true rfl) (Nat.le_of_ble_eq_true rfl) (Nat.le_of_ble_eq_true rfl) ?_
            exact zr_iret hX dX5_mark_67 hF h
        · refine zr_aload_n hX dX5_mark_37 rfl rfl ?_
          refine zr_iconst hX dX5_mark_38 (zrl rfl) ?_
          refine zP_bind h (fun q6 hq6 h => ?_)
          refine zr_callV hX dX5_mark_39 (m_X_found hq6) rfl rfl rfl (z5 ww_244 ww_246 ww_0 ww_70 ww_247) hy_X5_found rfl (Nat.le_of_ble_eq_true rfl) (Nat.le_of_ble_eq_true rfl) (Nat.le_of_ble_eq_true rfl) ?_
          exact zr_iret hX dX5_mark_42 hF h
      · refine zr_iconst hX dX5_mark_20 (zrl rfl) ?_
        exact zr_iret hX dX5_mark_21 hF h
set_option maxRecDepth 100000 in
theorem m_X_mark {l : Launch} {G : zG} {v1 : Int} {v2 : Int} {v3 : Int} {μ : zM} {q : Int × zM} (hq : f_X_mark v1 v2 v3 μ = some q) : zCT l G yX5_mark cX5_mark 4 (some .int) 8 [zR 0, zI v1, zI v2, zI v3] μ (some (zI q.1)) q.2 := by
  refine zMet (lv := [some (zR 0), some (zI v1), some (zI v2), some (zI v3)]) (k := 0) pl_X5 rfl (Nat.le_of_ble_eq_true rfl) (fun X hl hX hF _ _ => ?_)
  exact w_X_mark_e hX hF (zP_of hq rfl)
set_option maxRecDepth 100000 in
set_option maxHeartbeats 4000000 in
theorem w_X_bear_e {X : zX} {G : zG} {v1 : Int} {v2 : Int} {v3 : Int} {μ : zM} {rv : Option zV} {ν : zM} (hX : zOk X G cX5_bear RX5 5 (some .int) 3) (hF : zFin X G rv ν) (h : zP (fun r : (Int × zM) => (some (zI r.1), r.2) = (rv, ν)) (f_X_bear v1 v2 v3 μ)) : zW X G 5 0 [some (zR 0), some (zI v1), some (zI v2), some (zI v3), none] [] μ := by
  refine zr_aload_n hX dX5_bear_0 rfl rfl ?_
  refine zr_iload_n hX dX5_bear_1 rfl rfl ?_
  refine zr_iload_n hX dX5_bear_2 rfl rfl ?_
  refine zr_callV hX dX5_bear_3 (m_X_isNoPlace) rfl rfl rfl (z5 ww_427 ww_429 ww_4 ww_70 ww_430) hy_X5_isNoPlace rfl (Nat.le_of_ble_eq_true rfl) (Nat.le_of_ble_eq_true rfl) (Nat.le_of_ble_eq_true rfl) ?_
  refine zr_ifne (tgt := 16) hX dX5_bear_6 rfl h (fun h => ?_) (fun h => ?_)
  · refine zr_iconst hX dX5_bear_16 (zrl rfl) ?_
    exact zr_iret hX dX5_bear_17 hF h
  · refine zr_iload_n hX dX5_bear_9 rfl rfl ?_
    refine zr_callS hX dX5_bear_10 (m_X_isBorne) rfl (z4 ww_362 ww_363 ww_70 ww_364) hy_X5_isBorne rfl (Nat.le_of_ble_eq_true rfl) (Nat.le_of_ble_eq_true rfl) (Nat.le_of_ble_eq_true rfl) ?_
    refine zr_ifne (tgt := 18) hX dX5_bear_13 rfl h (fun h => ?_) (fun h => ?_)
    · refine zr_aload_n hX dX5_bear_18 rfl rfl ?_
      refine zr_getr hX dX5_bear_19 (k := 2) (q := 7) rfl rfl ww_201 rfl ?_
      refine zr_getrN hX dX5_bear_22 (k := 0) (q := 8) rfl rfl nf_X5_125 rfl ?_
      refine zr_iload_n hX dX5_bear_25 rfl rfl ?_
      refine zr_iload_n hX dX5_bear_26 rfl rfl ?_
      refine zP_bind h (fun q1 hq1 h => ?_)
      refine zr_callV hX dX5_bear_27 (m_R_has rfl hq1) rfl rfl rfl (z5 ww_431 ww_375 ww_376 ww_74 ww_377) hy_X1_has rfl (Nat.le_of_ble_eq_true rfl) (Nat.le_of_ble_eq_true rfl) (Nat.le_of_ble_eq_true rfl) ?_
      refine zr_ifne (tgt := 39) hX dX5_bear_30 rfl h (fun h => ?_) (fun h => ?_)
      · refine zr_aload_n hX dX5_bear_39 rfl rfl ?_
        refine zr_getr hX dX5_bear_40 (k := 2) (q := 7) rfl rfl ww_201 rfl ?_
        refine zr_getrN hX dX5_bear_43 (k := 0) (q := 8) rfl rfl nf_X5_125 rfl ?_
        refine zr_iload_n hX dX5_bear_46 rfl rfl ?_
        refine zr_iload_n hX dX5_bear_47 rfl rfl ?_
        refine zP_bind h (fun q2 hq2 h => ?_)
        refine zr_callV hX dX5_bear_48 (m_R_borneAt rfl hq2) rfl rfl rfl (z5 ww_486 ww_401 ww_402 ww_74 ww_403) hy_X1_borneAt rfl (Nat.le_of_ble_eq_true rfl) (Nat.le_of_ble_eq_true rfl) (Nat.le_of_ble_eq_true rfl) ?_
        refine zr_istore hX dX5_bear_51 (Nat.le_of_ble_eq_true rfl) ?_
        refine zr_aload_n hX dX5_bear_53 rfl rfl ?_
        refine zr_getr hX dX5_bear_54 (k := 2) (q := 7) rfl rfl ww_201 rfl ?_
        refine zr_getrN hX dX5_bear_57 (k := 0) (q := 8) rfl rfl nf_X5_125 rfl ?_
        refine zr_iload_n hX dX5_bear_60 rfl rfl ?_
        refine zr_iload_n hX dX5_bear_61 rfl rfl ?_
        refine zr_aload_n hX dX5_bear_62 rfl rfl ?_
        refine zr_getr hX dX5_bear_63 (k := 2) (q := 7) rfl rfl ww_201 rfl ?_
        refine zr_getrN hX dX5_bear_66 (k := 0) (q := 8) rfl rfl nf_X5_125 rfl ?_
        refine zr_iload_n hX dX5_bear_69 rfl rfl ?_
        refine zr_iload_n hX dX5_bear_70 rfl rfl ?_
        refine zP_bind h (fun q3 hq3 h => ?_)
        refine zr_callV hX dX5_bear_71 (m_R_kindAt rfl hq3) rfl rfl rfl (z5 ww_485 ww_397 ww_398 ww_74 ww_399) hy_X1_kindAt rfl (Nat.le_of_ble_eq_true rfl) (Nat.le_of_ble_eq_true rfl) (Nat.le_of_ble_eq_true rfl) ?_
        refine zr_iload_n hX dX5_bear_74 rfl rfl ?_
        refine zP_bind h (fun q4 hq4 h => ?_)
        refine zr_callV hX dX5_bear_75 (m_R_change rfl hq4) rfl rfl rfl (z5 ww_545 ww_371 ww_372 ww_74 ww_373) hy_X1_change rfl (Nat.le_of_ble_eq_true rfl) (Nat.le_of_ble_eq_true rfl) (Nat.le_of_ble_eq_true rfl) ?_
        refine zr_iload hX dX5_bear_78 rfl ?_
        exact zr_iret hX dX5_bear_80 hF h
      · refine zr_aload_n hX dX5_bear_33 rfl rfl ?_
        refine zr_iconst hX dX5_bear_34 (zrl rfl) ?_
        refine zP_bind h (fun q5 hq5 h => ?_)
        refine zr_callV hX dX5_bear_35 (m_X_found hq5) rfl rfl rfl (z5 ww_244 ww_246 ww_0 ww_70 ww_247) hy_X5_found rfl (Nat.le_of_ble_eq_true rfl) (Nat.le_of_ble_eq_true rfl) (Nat.le_of_ble_eq_true rfl) ?_
        exact zr_iret hX dX5_bear_38 hF h
    · refine zr_iconst hX dX5_bear_16 (zrl rfl) ?_
      exact zr_iret hX dX5_bear_17 hF h
set_option maxRecDepth 100000 in
theorem m_X_bear {l : Launch} {G : zG} {v1 : Int} {v2 : Int} {v3 : Int} {μ : zM} {q : Int × zM} (hq : f_X_bear v1 v2 v3 μ = some q) : zCT l G yX5_bear cX5_bear 5 (some .int) 3 [zR 0, zI v1, zI v2, zI v3] μ (some (zI q.1)) q.2 := by
  refine zMet (lv := [some (zR 0), some (zI v1), some (zI v2), some (zI v3), none]) (k := 1) pl_X5 rfl (Nat.le_of_ble_eq_true rfl) (fun X hl hX hF _ _ => ?_)
  exact w_X_bear_e hX hF (zP_of hq rfl)
set_option maxRecDepth 100000 in
set_option maxHeartbeats 4000000 in
theorem w_Y_hasRoomFor_e {X : zX} {G : zG} {o : Nat} {v1 : Int} {μ : zM} {rv : Option zV} {ν : zM} (hX : zOk X G cX4_hasRoomFor RX4 2 (some .boolean) 1) (hF : zFin X G rv ν) (ho : zsh o = (0, 4)) (h : zP (fun r : Int => (some (zI r), μ) = (rv, ν)) (fo_Y_hasRoomFor o v1 μ)) : zW X G 2 0 [some (zR o), some (zI v1)] [] μ := by
  refine zr_aload_n hX dX4_hasRoomFor_0 rfl rfl ?_
  refine zr_geti hX dX4_hasRoomFor_1 (k := 2) ho rfl ww_139 ?_
  refine zr_iload_n hX dX4_hasRoomFor_4 rfl rfl ?_
  refine zr_iadd hX dX4_hasRoomFor_5 ?_
  refine zr_bipush hX dX4_hasRoomFor_6 rfl ?_
  refine zr_icmpgt (tgt := 15) hX dX4_hasRoomFor_8 rfl h (fun h => ?_) (fun h => ?_)
  · refine zr_iconst hX dX4_hasRoomFor_15 (zrl rfl) ?_
    exact zr_bretc hX dX4_hasRoomFor_16 hF (Or.inl rfl) h
  · refine zr_iconst hX dX4_hasRoomFor_11 (zrl rfl) ?_
    refine zr_goto hX dX4_hasRoomFor_12 (tgt := 16) rfl ?_
    exact zr_bretc hX dX4_hasRoomFor_16 hF (Or.inr rfl) h
set_option maxRecDepth 100000 in
theorem m_Y_hasRoomFor {l : Launch} {G : zG} {o : Nat} {v1 : Int} {μ : zM} (ho : zsh o = (0, 4)) : zCT l G yX4_hasRoomFor cX4_hasRoomFor 2 (some .boolean) 1 [zR o, zI v1] μ (some (zI (f_Y_hasRoomFor o v1 μ))) μ := by
  refine zMet (lv := [some (zR o), some (zI v1)]) (k := 0) pl_X4 rfl (Nat.le_of_ble_eq_true rfl) (fun X hl hX hF _ _ => ?_)
  exact w_Y_hasRoomFor_e hX hF ho (by rw [fo_Y_hasRoomFor_eq]; rfl)
