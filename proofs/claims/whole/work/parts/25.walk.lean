set_option maxRecDepth 100000 in
set_option maxHeartbeats 4000000 in
theorem w_M_fault_e {X : zX} {G : zG} {v1 : Int} {μ : zM} {rv : Option zV} {ν : zM} (hX : zOk X G cX6_fault RX6 2 (some .int) 3) (hF : zFin X G rv ν) (h : zP (fun r : (Int × zM) => (some (zI r.1), r.2) = (rv, ν)) (f_M_fault v1 μ)) : zW X G 2 0 [some (zR 42), some (zI v1)] [] μ := by
  refine zr_iload_n hX dX6_fault_0 rfl rfl ?_
  refine zr_callS hX dX6_fault_1 (m_M_isText) rfl (z4 ww_957 ww_958 ww_77 ww_959) hy_X6_isText rfl (Nat.le_of_ble_eq_true rfl) (Nat.le_of_ble_eq_true rfl) (Nat.le_of_ble_eq_true rfl) ?_
  refine zr_ifne (tgt := 9) hX dX6_fault_4 rfl h (fun h => ?_) (fun h => ?_)
  · refine zr_aload_n hX dX6_fault_9 rfl rfl ?_
    refine zr_getr hX dX6_fault_10 (k := 6) (q := 48) rfl rfl ww_857 rfl ?_
    refine zr_iload_n hX dX6_fault_13 rfl rfl ?_
    refine zr_iald (N := 4) hX dX6_fault_14 rfl rfl h (fun h => ?_)
    refine zr_ifge (tgt := 26) hX dX6_fault_15 rfl h (fun h => ?_) (fun h => ?_)
    · refine zr_aload_n hX dX6_fault_26 rfl rfl ?_
      refine zr_iload_n hX dX6_fault_27 rfl rfl ?_
      refine zP_bind h (fun q1 hq1 h => ?_)
      refine zr_callV hX dX6_fault_28 (m_M_faultOf hq1) rfl rfl rfl (z5 ww_969 ww_971 ww_23 ww_77 ww_972) hy_X6_faultOf rfl (Nat.le_of_ble_eq_true rfl) (Nat.le_of_ble_eq_true rfl) (Nat.le_of_ble_eq_true rfl) ?_
      exact zr_iret hX dX6_fault_31 hF h
    · refine zr_aload_n hX dX6_fault_18 rfl rfl ?_
      refine zr_iconst hX dX6_fault_19 (zrl rfl) ?_
      refine zP_bind h (fun q2 hq2 h => ?_)
      refine zr_callV hX dX6_fault_20 (m_M_found hq2) rfl rfl rfl (z5 ww_921 ww_923 ww_21 ww_77 ww_924) hy_X6_found rfl (Nat.le_of_ble_eq_true rfl) (Nat.le_of_ble_eq_true rfl) (Nat.le_of_ble_eq_true rfl) ?_
      refine zr_goto hX dX6_fault_23 (tgt := 31) rfl ?_
      exact zr_iret hX dX6_fault_31 hF h
  · refine zr_iconst hX dX6_fault_7 (zrl rfl) ?_
    exact zr_iret hX dX6_fault_8 hF h
set_option maxRecDepth 100000 in
theorem m_M_fault {l : Launch} {G : zG} {v1 : Int} {μ : zM} {q : Int × zM} (hq : f_M_fault v1 μ = some q) : zCT l G yX6_fault cX6_fault 2 (some .int) 3 [zR 42, zI v1] μ (some (zI q.1)) q.2 := by
  refine zMet (lv := [some (zR 42), some (zI v1)]) (k := 0) pl_X6 rfl (Nat.le_of_ble_eq_true rfl) (fun X hl hX hF _ _ => ?_)
  exact w_M_fault_e hX hF (zP_of hq rfl)
def k_M_rock (X : zX) (G : zG) (v1 : Int) : (Int × zM) → Prop := fun s => zW X G 3 54 [some (zR 42), none, some (zI s.1)] [] s.2
theorem k_M_rock_54 {X : zX} {G : zG} {v1 : Int} {F : (Int × zM) → Prop} {v2 : Int} {κ : zM} (h : zP (Sum.elim (k_M_rock X G v1) F) (some (.inl ((v2, κ))))) : zW X G 3 54 [some (zR 42), none, some (zI v2)] [] κ := h
set_option maxRecDepth 100000 in
set_option maxHeartbeats 4000000 in
theorem w_M_rock_54 {X : zX} {G : zG} {v1 : Int} {μ : zM} {rv : Option zV} {ν : zM} (hX : zOk X G cX6_rock RX6 3 (some .int) 3) (hF : zFin X G rv ν) {v2 : Int} (h : zP (Sum.elim (k_M_rock X G v1) (fun r : (Int × zM) => (some (zI r.1), r.2) = (rv, ν))) (b_M_rock_54 v1 v2 μ)) : zW X G 3 54 [some (zR 42), none, some (zI v2)] [] μ := by
  refine zr_iload_n hX dX6_rock_54 rfl rfl ?_
  refine zr_iconst hX dX6_rock_55 (zrl rfl) ?_
  refine zr_icmpge (tgt := 72) hX dX6_rock_56 rfl h (fun h => ?_) (fun h => ?_)
  · refine zr_aload_n hX dX6_rock_72 rfl rfl ?_
    refine zr_getr hX dX6_rock_73 (k := 0) (q := 43) rfl rfl ww_851 rfl ?_
    refine zr_iconst hX dX6_rock_76 (zrl rfl) ?_
    refine zr_ialdc hX dX6_rock_77 (N := 10956) rfl rfl rfl ?_
    exact zr_iret hX dX6_rock_78 hF h
  · refine zr_aload_n hX dX6_rock_59 rfl rfl ?_
    refine zr_getr hX dX6_rock_60 (k := 2) (q := 44) rfl rfl ww_853 rfl ?_
    refine zr_iload_n hX dX6_rock_63 rfl rfl ?_
    refine zr_iconst hX dX6_rock_64 (zrl rfl) ?_
    refine zr_iast (N := 3) hX dX6_rock_65 rfl rfl h (fun h => ?_)
    refine zr_iinc hX dX6_rock_66 rfl (Nat.le_of_ble_eq_true rfl) ?_
    refine zr_goto hX dX6_rock_69 (tgt := 54) rfl ?_
    exact zW_lf (k_M_rock_54 h) (And.intro rfl (And.intro rfl trivial))
set_option maxRecDepth 100000 in
set_option maxHeartbeats 4000000 in
theorem w_M_rock_e {X : zX} {G : zG} {v1 : Int} {μ : zM} {rv : Option zV} {ν : zM} (hX : zOk X G cX6_rock RX6 3 (some .int) 3) (hF : zFin X G rv ν) (h : zP (Sum.elim (k_M_rock X G v1) (fun r : (Int × zM) => (some (zI r.1), r.2) = (rv, ν))) (e_M_rock v1 μ)) : zW X G 3 0 [some (zR 42), some (zI v1), none] [] μ := by
  refine zr_iload_n hX dX6_rock_0 rfl rfl ?_
  refine zr_callS hX dX6_rock_1 (m_M_isText) rfl (z4 ww_957 ww_958 ww_77 ww_959) hy_X6_isText rfl (Nat.le_of_ble_eq_true rfl) (Nat.le_of_ble_eq_true rfl) (Nat.le_of_ble_eq_true rfl) ?_
  refine zr_ifne (tgt := 9) hX dX6_rock_4 rfl h (fun h => ?_) (fun h => ?_)
  · refine zr_aload_n hX dX6_rock_9 rfl rfl ?_
    refine zr_getr hX dX6_rock_10 (k := 6) (q := 48) rfl rfl ww_857 rfl ?_
    refine zr_iload_n hX dX6_rock_13 rfl rfl ?_
    refine zr_iald (N := 4) hX dX6_rock_14 rfl rfl h (fun h => ?_)
    refine zr_ifge (tgt := 24) hX dX6_rock_15 rfl h (fun h => ?_) (fun h => ?_)
    · refine zr_aload_n hX dX6_rock_24 rfl rfl ?_
      refine zr_iload_n hX dX6_rock_25 rfl rfl ?_
      refine zP_bind h (fun q1 hq1 h => ?_)
      refine zr_callV hX dX6_rock_26 (m_M_faultOf hq1) rfl rfl rfl (z5 ww_969 ww_971 ww_23 ww_77 ww_972) hy_X6_faultOf rfl (Nat.le_of_ble_eq_true rfl) (Nat.le_of_ble_eq_true rfl) (Nat.le_of_ble_eq_true rfl) ?_
      refine zr_bipush hX dX6_rock_29 rfl ?_
      refine zr_icmpeq (tgt := 37) hX dX6_rock_31 rfl h (fun h => ?_) (fun h => ?_)
      · refine zr_aload_n hX dX6_rock_37 rfl rfl ?_
        refine zr_sipush hX dX6_rock_38 rfl ?_
        refine zr_iconst hX dX6_rock_41 (zrl rfl) ?_
        refine zr_bipush hX dX6_rock_42 rfl ?_
        refine zP_bind h (fun q2 hq2 h => ?_)
        refine zr_callV hX dX6_rock_44 (m_M_copyAll hq2) rfl rfl rfl (z5 ww_994 ww_996 ww_27 ww_77 ww_997) hy_X6_copyAll rfl (Nat.le_of_ble_eq_true rfl) (Nat.le_of_ble_eq_true rfl) (Nat.le_of_ble_eq_true rfl) ?_
        refine zr_aload_n hX dX6_rock_47 rfl rfl ?_
        refine zr_iconst hX dX6_rock_48 (zrl rfl) ?_
        refine zr_puti hX dX6_rock_49 (k := 1) rfl rfl ww_852 rfl (by decide +kernel) ?_
        refine zr_iconst hX dX6_rock_52 (zrl rfl) ?_
        refine zr_istore_n hX dX6_rock_53 rfl (Nat.le_of_ble_eq_true rfl) ?_
        exact zW_lf (k_M_rock_54 h) (And.intro rfl (And.intro rfl trivial))
      · refine zr_bipush hX dX6_rock_34 rfl ?_
        exact zr_iret hX dX6_rock_36 hF h
    · refine zr_aload_n hX dX6_rock_18 rfl rfl ?_
      refine zr_iconst hX dX6_rock_19 (zrl rfl) ?_
      refine zP_bind h (fun q3 hq3 h => ?_)
      refine zr_callV hX dX6_rock_20 (m_M_found hq3) rfl rfl rfl (z5 ww_921 ww_923 ww_21 ww_77 ww_924) hy_X6_found rfl (Nat.le_of_ble_eq_true rfl) (Nat.le_of_ble_eq_true rfl) (Nat.le_of_ble_eq_true rfl) ?_
      exact zr_iret hX dX6_rock_23 hF h
  · refine zr_iconst hX dX6_rock_7 (zrl rfl) ?_
    exact zr_iret hX dX6_rock_8 hF h
set_option maxRecDepth 100000 in
theorem m_M_rock {l : Launch} {G : zG} {v1 : Int} {μ : zM} {q : Int × zM} (hq : f_M_rock v1 μ = some q) : zCT l G yX6_rock cX6_rock 3 (some .int) 3 [zR 42, zI v1] μ (some (zI q.1)) q.2 := by
  refine zMet (lv := [some (zR 42), some (zI v1), none]) (k := 1) pl_X6 rfl (Nat.le_of_ble_eq_true rfl) (fun X hl hX hF _ _ => ?_)
  refine w_M_rock_e hX hF (zgo_K (r := q) (step := t_M_rock v1) (fun s h => ?_) rfl hq)
  exact w_M_rock_54 hX hF h
set_option maxRecDepth 100000 in
set_option maxHeartbeats 4000000 in
theorem w_M_isTower_e {X : zX} {G : zG} {v1 : Int} {μ : zM} {rv : Option zV} {ν : zM} (hX : zOk X G cX6_isTower RX6 2 (some .boolean) 2) (hF : zFin X G rv ν) (h : zP (fun r : Int => (some (zI r), μ) = (rv, ν)) (fo_M_isTower v1 μ)) : zW X G 2 0 [some (zR 42), some (zI v1)] [] μ := by
  refine zr_iload_n hX dX6_isTower_0 rfl rfl ?_
  refine zr_i2l hX dX6_isTower_1 ?_
  refine zr_lconst hX dX6_isTower_2 (n := 0) rfl (zrlJ rfl) ?_
  refine zr_aload_n hX dX6_isTower_3 rfl rfl ?_
  refine zr_getr hX dX6_isTower_4 (k := 0) (q := 43) rfl rfl ww_851 rfl ?_
  refine zr_iconst hX dX6_isTower_7 (zrl rfl) ?_
  refine zr_ialdc hX dX6_isTower_8 (N := 10956) rfl rfl rfl ?_
  refine zr_iconst hX dX6_isTower_9 (zrl rfl) ?_
  refine zr_isub hX dX6_isTower_10 ?_
  refine zr_i2l hX dX6_isTower_11 ?_
  refine zr_callS hX dX6_isTower_12 (m_M_in) rfl (z4 ww_918 ww_919 ww_77 ww_920) hy_X6_in rfl (Nat.le_of_ble_eq_true rfl) (Nat.le_of_ble_eq_true rfl) (Nat.le_of_ble_eq_true rfl) ?_
  exact zr_bretc hX dX6_isTower_15 hF (b_M_in _ _ _) h
set_option maxRecDepth 100000 in
theorem m_M_isTower {l : Launch} {G : zG} {v1 : Int} {μ : zM} : zCT l G yX6_isTower cX6_isTower 2 (some .boolean) 2 [zR 42, zI v1] μ (some (zI (f_M_isTower v1 μ))) μ := by
  refine zMet (lv := [some (zR 42), some (zI v1)]) (k := 0) pl_X6 rfl (Nat.le_of_ble_eq_true rfl) (fun X hl hX hF _ _ => ?_)
  exact w_M_isTower_e hX hF (by rw [fo_M_isTower_eq]; rfl)
set_option maxRecDepth 100000 in
set_option maxHeartbeats 4000000 in
theorem w_M_isNone_e {X : zX} {G : zG} {μ : zM} {rv : Option zV} {ν : zM} (hX : zOk X G cX6_isNone RX6 1 (some .boolean) 1) (hF : zFin X G rv ν) (h : zP (fun r : Int => (some (zI r), μ) = (rv, ν)) (fo_M_isNone μ)) : zW X G 1 0 [some (zR 42)] [] μ := by
  refine zr_aload_n hX dX6_isNone_0 rfl rfl ?_
  refine zr_getr hX dX6_isNone_1 (k := 0) (q := 43) rfl rfl ww_851 rfl ?_
  refine zr_iconst hX dX6_isNone_4 (zrl rfl) ?_
  refine zr_ialdc hX dX6_isNone_5 (N := 10956) rfl rfl rfl ?_
  refine zr_ifne (tgt := 13) hX dX6_isNone_6 rfl h (fun h => ?_) (fun h => ?_)
  · refine zr_iconst hX dX6_isNone_13 (zrl rfl) ?_
    exact zr_bretc hX dX6_isNone_14 hF (Or.inl rfl) h
  · refine zr_iconst hX dX6_isNone_9 (zrl rfl) ?_
    refine zr_goto hX dX6_isNone_10 (tgt := 14) rfl ?_
    exact zr_bretc hX dX6_isNone_14 hF (Or.inr rfl) h
set_option maxRecDepth 100000 in
theorem m_M_isNone {l : Launch} {G : zG} {μ : zM} : zCT l G yX6_isNone cX6_isNone 1 (some .boolean) 1 [zR 42] μ (some (zI (f_M_isNone μ))) μ := by
  refine zMet (lv := [some (zR 42)]) (k := 0) pl_X6 rfl (Nat.le_of_ble_eq_true rfl) (fun X hl hX hF _ _ => ?_)
  exact w_M_isNone_e hX hF (by rw [fo_M_isNone_eq]; rfl)
set_option maxRecDepth 100000 in
set_option maxHeartbeats 4000000 in
theorem w_M_houses_e {X : zX} {G : zG} {μ : zM} {rv : Option zV} {ν : zM} (hX : zOk X G cX6_houses RX6 1 (some .int) 2) (hF : zFin X G rv ν) (h : zP (fun r : Int => (some (zI r), μ) = (rv, ν)) (f_M_houses μ)) : zW X G 1 0 [some (zR 42)] [] μ := by
  refine zr_aload_n hX dX6_houses_0 rfl rfl ?_
  refine zr_iconst hX dX6_houses_1 (zrl rfl) ?_
  refine zP_bind h (fun q1 hq1 h => ?_)
  refine zr_callV hX dX6_houses_2 (m_M_housesOf hq1) rfl rfl rfl (z5 ww_980 ww_982 ww_25 ww_77 ww_983) hy_X6_housesOf rfl (Nat.le_of_ble_eq_true rfl) (Nat.le_of_ble_eq_true rfl) (Nat.le_of_ble_eq_true rfl) ?_
  exact zr_iret hX dX6_houses_5 hF h
set_option maxRecDepth 100000 in
theorem m_M_houses {l : Launch} {G : zG} {μ : zM} {q : Int} (hq : f_M_houses μ = some q) : zCT l G yX6_houses cX6_houses 1 (some .int) 2 [zR 42] μ (some (zI q)) μ := by
  refine zMet (lv := [some (zR 42)]) (k := 0) pl_X6 rfl (Nat.le_of_ble_eq_true rfl) (fun X hl hX hF _ _ => ?_)
  exact w_M_houses_e hX hF (zP_of hq rfl)
set_option maxRecDepth 100000 in
set_option maxHeartbeats 4000000 in
theorem w_M_isTold_e {X : zX} {G : zG} {v1 : Int} {v2 : Int} {μ : zM} {rv : Option zV} {ν : zM} (hX : zOk X G cX6_isTold RX6 3 (some .boolean) 3) (hF : zFin X G rv ν) (h : zP (fun r : Int => (some (zI r), μ) = (rv, ν)) (fo_M_isTold v1 v2 μ)) : zW X G 3 0 [some (zR 42), some (zI v1), some (zI v2)] [] μ := by
  refine zr_aload_n hX dX6_isTold_0 rfl rfl ?_
  refine zr_iload_n hX dX6_isTold_1 rfl rfl ?_
  refine zr_callV hX dX6_isTold_2 (m_M_isTower) rfl rfl rfl (z5 ww_1002 ww_1004 ww_28 ww_77 ww_1005) hy_X6_isTower rfl (Nat.le_of_ble_eq_true rfl) (Nat.le_of_ble_eq_true rfl) (Nat.le_of_ble_eq_true rfl) ?_
  refine zr_ifeq (tgt := 16) hX dX6_isTold_5 rfl h (fun h => ?_) (fun h => ?_)
  · refine zr_iconst hX dX6_isTold_16 (zrl rfl) ?_
    exact zr_bretc hX dX6_isTold_17 hF (Or.inl rfl) h
  · refine zr_iload_n hX dX6_isTold_8 rfl rfl ?_
    refine zr_iflt (tgt := 16) hX dX6_isTold_9 rfl h (fun h => ?_) (fun h => ?_)
    · refine zr_iconst hX dX6_isTold_16 (zrl rfl) ?_
      exact zr_bretc hX dX6_isTold_17 hF (Or.inl rfl) h
    · refine zr_iconst hX dX6_isTold_12 (zrl rfl) ?_
      refine zr_goto hX dX6_isTold_13 (tgt := 17) rfl ?_
      exact zr_bretc hX dX6_isTold_17 hF (Or.inr rfl) h
set_option maxRecDepth 100000 in
theorem m_M_isTold {l : Launch} {G : zG} {v1 : Int} {v2 : Int} {μ : zM} : zCT l G yX6_isTold cX6_isTold 3 (some .boolean) 3 [zR 42, zI v1, zI v2] μ (some (zI (f_M_isTold v1 v2 μ))) μ := by
  refine zMet (lv := [some (zR 42), some (zI v1), some (zI v2)]) (k := 0) pl_X6 rfl (Nat.le_of_ble_eq_true rfl) (fun X hl hX hF _ _ => ?_)
  exact w_M_isTold_e hX hF (by rw [fo_M_isTold_eq]; rfl)
set_option maxRecDepth 100000 in
set_option maxHeartbeats 4000000 in
theorem w_M_isThere_e {X : zX} {G : zG} {v1 : Int} {v2 : Int} {μ : zM} {rv : Option zV} {ν : zM} (hX : zOk X G cX6_isThere RX6 3 (some .boolean) 1) (hF : zFin X G rv ν) (h : zP (fun r : Int => (some (zI r), μ) = (rv, ν)) (f_M_isThere v1 v2 μ)) : zW X G 3 0 [some (zR 42), some (zI v1), some (zI v2)] [] μ := by
  refine zr_iload_n hX dX6_isThere_0 rfl rfl ?_
  refine zr_iflt (tgt := 34) hX dX6_isThere_1 rfl h (fun h => ?_) (fun h => ?_)
  · refine zr_iconst hX dX6_isThere_34 (zrl rfl) ?_
    exact zr_bretc hX dX6_isThere_35 hF (Or.inl rfl) h
  · refine zr_iload_n hX dX6_isThere_4 rfl rfl ?_
    refine zr_aload_n hX dX6_isThere_5 rfl rfl ?_
    refine zr_getr hX dX6_isThere_6 (k := 0) (q := 43) rfl rfl ww_851 rfl ?_
    refine zr_iconst hX dX6_isThere_9 (zrl rfl) ?_
    refine zr_ialdc hX dX6_isThere_10 (N := 10956) rfl rfl rfl ?_
    refine zr_icmpge (tgt := 34) hX dX6_isThere_11 rfl h (fun h => ?_) (fun h => ?_)
    · refine zr_iconst hX dX6_isThere_34 (zrl rfl) ?_
      exact zr_bretc hX dX6_isThere_35 hF (Or.inl rfl) h
    · refine zr_iload_n hX dX6_isThere_14 rfl rfl ?_
      refine zr_iflt (tgt := 34) hX dX6_isThere_15 rfl h (fun h => ?_) (fun h => ?_)
      · refine zr_iconst hX dX6_isThere_34 (zrl rfl) ?_
        exact zr_bretc hX dX6_isThere_35 hF (Or.inl rfl) h
      · refine zr_iload_n hX dX6_isThere_18 rfl rfl ?_
        refine zr_aload_n hX dX6_isThere_19 rfl rfl ?_
        refine zr_getr hX dX6_isThere_20 (k := 0) (q := 43) rfl rfl ww_851 rfl ?_
        refine zr_iconst hX dX6_isThere_23 (zrl rfl) ?_
        refine zr_iload_n hX dX6_isThere_24 rfl rfl ?_
        refine zr_iadd hX dX6_isThere_25 ?_
        refine zr_iald (N := 10956) hX dX6_isThere_26 rfl rfl h (fun h => ?_)
        refine zr_icmpge (tgt := 34) hX dX6_isThere_27 rfl h (fun h => ?_) (fun h => ?_)
        · refine zr_iconst hX dX6_isThere_34 (zrl rfl) ?_
          exact zr_bretc hX dX6_isThere_35 hF (Or.inl rfl) h
        · refine zr_iconst hX dX6_isThere_30 (zrl rfl) ?_
          refine zr_goto hX dX6_isThere_31 (tgt := 35) rfl ?_
          exact zr_bretc hX dX6_isThere_35 hF (Or.inr rfl) h
set_option maxRecDepth 100000 in
theorem m_M_isThere {l : Launch} {G : zG} {v1 : Int} {v2 : Int} {μ : zM} {q : Int} (hq : f_M_isThere v1 v2 μ = some q) : zCT l G yX6_isThere cX6_isThere 3 (some .boolean) 1 [zR 42, zI v1, zI v2] μ (some (zI q)) μ := by
  refine zMet (lv := [some (zR 42), some (zI v1), some (zI v2)]) (k := 0) pl_X6 rfl (Nat.le_of_ble_eq_true rfl) (fun X hl hX hF _ _ => ?_)
  exact w_M_isThere_e hX hF (zP_of hq rfl)
set_option maxRecDepth 100000 in
set_option maxHeartbeats 4000000 in
theorem w_M_kindAt_e {X : zX} {G : zG} {v1 : Int} {v2 : Int} {μ : zM} {rv : Option zV} {ν : zM} (hX : zOk X G cX6_kindAt RX6 3 (some .int) 1) (hF : zFin X G rv ν) (h : zP (fun r : Int => (some (zI r), μ) = (rv, ν)) (f_M_kindAt v1 v2 μ)) : zW X G 3 0 [some (zR 42), some (zI v1), some (zI v2)] [] μ := by
  refine zr_aload_n hX dX6_kindAt_0 rfl rfl ?_
  refine zr_getr hX dX6_kindAt_1 (k := 0) (q := 43) rfl rfl ww_851 rfl ?_
  refine zr_bipush hX dX6_kindAt_4 rfl ?_
  refine zr_bipush hX dX6_kindAt_6 rfl ?_
  refine zr_iload_n hX dX6_kindAt_8 rfl rfl ?_
  refine zr_imul hX dX6_kindAt_9 ?_
  refine zr_iadd hX dX6_kindAt_10 ?_
  refine zr_iload_n hX dX6_kindAt_11 rfl rfl ?_
  refine zr_iadd hX dX6_kindAt_12 ?_
  refine zr_iald (N := 10956) hX dX6_kindAt_13 rfl rfl h (fun h => ?_)
  exact zr_iret hX dX6_kindAt_14 hF h
set_option maxRecDepth 100000 in
theorem m_M_kindAt {l : Launch} {G : zG} {v1 : Int} {v2 : Int} {μ : zM} {q : Int} (hq : f_M_kindAt v1 v2 μ = some q) : zCT l G yX6_kindAt cX6_kindAt 3 (some .int) 1 [zR 42, zI v1, zI v2] μ (some (zI q)) μ := by
  refine zMet (lv := [some (zR 42), some (zI v1), some (zI v2)]) (k := 0) pl_X6 rfl (Nat.le_of_ble_eq_true rfl) (fun X hl hX hF _ _ => ?_)
  exact w_M_kindAt_e hX hF (zP_of hq rfl)
set_option maxRecDepth 100000 in
set_option maxHeartbeats 4000000 in
theorem w_M_bearsAt_e {X : zX} {G : zG} {v1 : Int} {v2 : Int} {μ : zM} {rv : Option zV} {ν : zM} (hX : zOk X G cX6_bearsAt RX6 3 (some .int) 1) (hF : zFin X G rv ν) (h : zP (fun r : Int => (some (zI r), μ) = (rv, ν)) (f_M_bearsAt v1 v2 μ)) : zW X G 3 0 [some (zR 42), some (zI v1), some (zI v2)] [] μ := by
  refine zr_aload_n hX dX6_bearsAt_0 rfl rfl ?_
  refine zr_getr hX dX6_bearsAt_1 (k := 0) (q := 43) rfl rfl ww_851 rfl ?_
  refine zr_bipush hX dX6_bearsAt_4 rfl ?_
  refine zr_bipush hX dX6_bearsAt_6 rfl ?_
  refine zr_iload_n hX dX6_bearsAt_8 rfl rfl ?_
  refine zr_imul hX dX6_bearsAt_9 ?_
  refine zr_iadd hX dX6_bearsAt_10 ?_
  refine zr_iload_n hX dX6_bearsAt_11 rfl rfl ?_
  refine zr_iadd hX dX6_bearsAt_12 ?_
  refine zr_iald (N := 10956) hX dX6_bearsAt_13 rfl rfl h (fun h => ?_)
  exact zr_iret hX dX6_bearsAt_14 hF h
set_option maxRecDepth 100000 in
theorem m_M_bearsAt {l : Launch} {G : zG} {v1 : Int} {v2 : Int} {μ : zM} {q : Int} (hq : f_M_bearsAt v1 v2 μ = some q) : zCT l G yX6_bearsAt cX6_bearsAt 3 (some .int) 1 [zR 42, zI v1, zI v2] μ (some (zI q)) μ := by
  refine zMet (lv := [some (zR 42), some (zI v1), some (zI v2)]) (k := 0) pl_X6 rfl (Nat.le_of_ble_eq_true rfl) (fun X hl hX hF _ _ => ?_)
  exact w_M_bearsAt_e hX hF (zP_of hq rfl)
def k_M_goes (X : zX) (G : zG) (v1 : Int) (v2 : Int) : (Int × zM) → Prop := fun s => zW X G 4 7 [some (zR 42), some (zI v1), none, some (zI s.1)] [] s.2
theorem k_M_goes_7 {X : zX} {G : zG} {v1 : Int} {v2 : Int} {F : zM → Prop} {v3 : Int} {κ : zM} (h : zP (Sum.elim (k_M_goes X G v1 v2) F) (some (.inl ((v3, κ))))) : zW X G 4 7 [some (zR 42), some (zI v1), none, some (zI v3)] [] κ := h
set_option maxRecDepth 100000 in
set_option maxHeartbeats 4000000 in
theorem w_M_goes_7 {X : zX} {G : zG} {v1 : Int} {v2 : Int} {μ : zM} {rv : Option zV} {ν : zM} (hX : zOk X G cX6_goes RX6 4 none 1) (hF : zFin X G rv ν) {v3 : Int} (h : zP (Sum.elim (k_M_goes X G v1 v2) (fun r : zM => ((none : Option zV), r) = (rv, ν))) (b_M_goes_7 v1 v2 v3 μ)) : zW X G 4 7 [some (zR 42), some (zI v1), none, some (zI v3)] [] μ := by
  refine zr_iload_n hX dX6_goes_7 rfl rfl ?_
  refine zr_iconst hX dX6_goes_8 (zrl rfl) ?_
  refine zr_iadd hX dX6_goes_9 ?_
  refine zr_bipush hX dX6_goes_10 rfl ?_
  refine zr_iload_n hX dX6_goes_12 rfl rfl ?_
  refine zr_imul hX dX6_goes_13 ?_
  refine zr_aload_n hX dX6_goes_14 rfl rfl ?_
  refine zr_getr hX dX6_goes_15 (k := 0) (q := 43) rfl rfl ww_851 rfl ?_
  refine zr_iconst hX dX6_goes_18 (zrl rfl) ?_
  refine zr_iload_n hX dX6_goes_19 rfl rfl ?_
  refine zr_iadd hX dX6_goes_20 ?_
  refine zr_iald (N := 10956) hX dX6_goes_21 rfl rfl h (fun h => ?_)
  refine zr_iadd hX dX6_goes_22 ?_
  refine zr_icmpge (tgt := 72) hX dX6_goes_23 rfl h (fun h => ?_) (fun h => ?_)
  · refine zr_aload_n hX dX6_goes_72 rfl rfl ?_
    refine zr_getr hX dX6_goes_73 (k := 0) (q := 43) rfl rfl ww_851 rfl ?_
    refine zr_iconst hX dX6_goes_76 (zrl rfl) ?_
    refine zr_iload_n hX dX6_goes_77 rfl rfl ?_
    refine zr_iadd hX dX6_goes_78 ?_
    refine zr_dup2 hX dX6_goes_79 rfl rfl ?_
    refine zr_iald (N := 10956) hX dX6_goes_80 rfl rfl h (fun h => ?_)
    refine zr_iconst hX dX6_goes_81 (zrl rfl) ?_
    refine zr_isub hX dX6_goes_82 ?_
    refine zr_iast (N := 10956) hX dX6_goes_83 rfl rfl h (fun h => ?_)
    exact zr_vret hX dX6_goes_84 hF h
  · refine zr_aload_n hX dX6_goes_26 rfl rfl ?_
    refine zr_getr hX dX6_goes_27 (k := 0) (q := 43) rfl rfl ww_851 rfl ?_
    refine zr_bipush hX dX6_goes_30 rfl ?_
    refine zr_iload_n hX dX6_goes_32 rfl rfl ?_
    refine zr_iadd hX dX6_goes_33 ?_
    refine zr_aload_n hX dX6_goes_34 rfl rfl ?_
    refine zr_getr hX dX6_goes_35 (k := 0) (q := 43) rfl rfl ww_851 rfl ?_
    refine zr_bipush hX dX6_goes_38 rfl ?_
    refine zr_iload_n hX dX6_goes_40 rfl rfl ?_
    refine zr_iadd hX dX6_goes_41 ?_
    refine zr_iconst hX dX6_goes_42 (zrl rfl) ?_
    refine zr_iadd hX dX6_goes_43 ?_
    refine zr_iald (N := 10956) hX dX6_goes_44 rfl rfl h (fun h => ?_)
    refine zr_iast (N := 10956) hX dX6_goes_45 rfl rfl h (fun h => ?_)
    refine zr_aload_n hX dX6_goes_46 rfl rfl ?_
    refine zr_getr hX dX6_goes_47 (k := 0) (q := 43) rfl rfl ww_851 rfl ?_
    refine zr_bipush hX dX6_goes_50 rfl ?_
    refine zr_iload_n hX dX6_goes_52 rfl rfl ?_
    refine zr_iadd hX dX6_goes_53 ?_
    refine zr_aload_n hX dX6_goes_54 rfl rfl ?_
    refine zr_getr hX dX6_goes_55 (k := 0) (q := 43) rfl rfl ww_851 rfl ?_
    refine zr_bipush hX dX6_goes_58 rfl ?_
    refine zr_iload_n hX dX6_goes_60 rfl rfl ?_
    refine zr_iadd hX dX6_goes_61 ?_
    refine zr_iconst hX dX6_goes_62 (zrl rfl) ?_
    refine zr_iadd hX dX6_goes_63 ?_
    refine zr_iald (N := 10956) hX dX6_goes_64 rfl rfl h (fun h => ?_)
    refine zr_iast (N := 10956) hX dX6_goes_65 rfl rfl h (fun h => ?_)
    refine zr_iinc hX dX6_goes_66 rfl (Nat.le_of_ble_eq_true rfl) ?_
    refine zr_goto hX dX6_goes_69 (tgt := 7) rfl ?_
    exact zW_lf (k_M_goes_7 h) (And.intro rfl (And.intro rfl (And.intro rfl trivial)))
set_option maxRecDepth 100000 in
set_option maxHeartbeats 4000000 in
theorem w_M_goes_e {X : zX} {G : zG} {v1 : Int} {v2 : Int} {μ : zM} {rv : Option zV} {ν : zM} (hX : zOk X G cX6_goes RX6 4 none 1) (hF : zFin X G rv ν) (h : zP (Sum.elim (k_M_goes X G v1 v2) (fun r : zM => ((none : Option zV), r) = (rv, ν))) (e_M_goes v1 v2 μ)) : zW X G 4 0 [some (zR 42), some (zI v1), some (zI v2), none] [] μ := by
  refine zr_bipush hX dX6_goes_0 rfl ?_
  refine zr_iload_n hX dX6_goes_2 rfl rfl ?_
  refine zr_imul hX dX6_goes_3 ?_
  refine zr_iload_n hX dX6_goes_4 rfl rfl ?_
  refine zr_iadd hX dX6_goes_5 ?_
  refine zr_istore_n hX dX6_goes_6 rfl (Nat.le_of_ble_eq_true rfl) ?_
  exact zW_lf (k_M_goes_7 h) (And.intro rfl (And.intro rfl (And.intro rfl trivial)))
set_option maxRecDepth 100000 in
theorem m_M_goes {l : Launch} {G : zG} {v1 : Int} {v2 : Int} {μ : zM} {q : zM} (hq : f_M_goes v1 v2 μ = some q) : zCT l G yX6_goes cX6_goes 4 none 1 [zR 42, zI v1, zI v2] μ (none) q := by
  refine zMet (lv := [some (zR 42), some (zI v1), some (zI v2), none]) (k := 1) pl_X6 rfl (Nat.le_of_ble_eq_true rfl) (fun X hl hX hF _ _ => ?_)
  refine w_M_goes_e hX hF (zgo_K (r := q) (step := t_M_goes v1 v2) (fun s h => ?_) rfl hq)
  exact w_M_goes_7 hX hF h
def k_M_numberOf (X : zX) (G : zG) (v1 : Int) (v2 : Int) (μ : zM) : (Int × Int) → Prop := fun s => zW X G 5 5 [some (zR 42), some (zI v1), none, some (zI s.1), some (zI s.2)] [] μ
theorem k_M_numberOf_5 {X : zX} {G : zG} {v1 : Int} {v2 : Int} {μ : zM} {F : Int → Prop} {v3 v4 : Int} (h : zP (Sum.elim (k_M_numberOf X G v1 v2 μ) F) (some (.inl ((v3, v4))))) : zW X G 5 5 [some (zR 42), some (zI v1), none, some (zI v3), some (zI v4)] [] μ := h
set_option maxRecDepth 100000 in
set_option maxHeartbeats 4000000 in
theorem w_M_numberOf_5 {X : zX} {G : zG} {v1 : Int} {v2 : Int} {μ : zM} {rv : Option zV} {ν : zM} (hX : zOk X G cX6_numberOf RX6 5 (some .int) 1) (hF : zFin X G rv ν) {v3 v4 : Int} (h : zP (Sum.elim (k_M_numberOf X G v1 v2 μ) (fun r : Int => (some (zI r), μ) = (rv, ν))) (b_M_numberOf_5 v1 v2 v3 v4 μ)) : zW X G 5 5 [some (zR 42), some (zI v1), none, some (zI v3), some (zI v4)] [] μ := by
  refine zr_iload hX dX6_numberOf_5 rfl ?_
  refine zr_iload_n hX dX6_numberOf_7 rfl rfl ?_
  refine zr_icmpge (tgt := 29) hX dX6_numberOf_8 rfl h (fun h => ?_) (fun h => ?_)
  · refine zr_iload_n hX dX6_numberOf_29 rfl rfl ?_
    exact zr_iret hX dX6_numberOf_30 hF h
  · refine zr_iload_n hX dX6_numberOf_11 rfl rfl ?_
    refine zr_aload_n hX dX6_numberOf_12 rfl rfl ?_
    refine zr_getr hX dX6_numberOf_13 (k := 0) (q := 43) rfl rfl ww_851 rfl ?_
    refine zr_iconst hX dX6_numberOf_16 (zrl rfl) ?_
    refine zr_iload hX dX6_numberOf_17 rfl ?_
    refine zr_iadd hX dX6_numberOf_19 ?_
    refine zr_iald (N := 10956) hX dX6_numberOf_20 rfl rfl h (fun h => ?_)
    refine zr_iadd hX dX6_numberOf_21 ?_
    refine zr_istore_n hX dX6_numberOf_22 rfl (Nat.le_of_ble_eq_true rfl) ?_
    refine zr_iinc hX dX6_numberOf_23 rfl (Nat.le_of_ble_eq_true rfl) ?_
    refine zr_goto hX dX6_numberOf_26 (tgt := 5) rfl ?_
    exact zW_lf (k_M_numberOf_5 h) (And.intro rfl (And.intro rfl (And.intro rfl (And.intro rfl trivial))))
set_option maxRecDepth 100000 in
set_option maxHeartbeats 4000000 in
theorem w_M_numberOf_e {X : zX} {G : zG} {v1 : Int} {v2 : Int} {μ : zM} {rv : Option zV} {ν : zM} (hX : zOk X G cX6_numberOf RX6 5 (some .int) 1) (hF : zFin X G rv ν) (h : zP (Sum.elim (k_M_numberOf X G v1 v2 μ) (fun r : Int => (some (zI r), μ) = (rv, ν))) (e_M_numberOf v1 v2 μ)) : zW X G 5 0 [some (zR 42), some (zI v1), some (zI v2), none, none] [] μ := by
  refine zr_iload_n hX dX6_numberOf_0 rfl rfl ?_
  refine zr_istore_n hX dX6_numberOf_1 rfl (Nat.le_of_ble_eq_true rfl) ?_
  refine zr_iconst hX dX6_numberOf_2 (zrl rfl) ?_
  refine zr_istore hX dX6_numberOf_3 (Nat.le_of_ble_eq_true rfl) ?_
  exact zW_lf (k_M_numberOf_5 h) (And.intro rfl (And.intro rfl (And.intro rfl (And.intro rfl trivial))))
set_option maxRecDepth 100000 in
theorem m_M_numberOf {l : Launch} {G : zG} {v1 : Int} {v2 : Int} {μ : zM} {q : Int} (hq : f_M_numberOf v1 v2 μ = some q) : zCT l G yX6_numberOf cX6_numberOf 5 (some .int) 1 [zR 42, zI v1, zI v2] μ (some (zI q)) μ := by
  refine zMet (lv := [some (zR 42), some (zI v1), some (zI v2), none, none]) (k := 2) pl_X6 rfl (Nat.le_of_ble_eq_true rfl) (fun X hl hX hF _ _ => ?_)
  refine w_M_numberOf_e hX hF (zgo_K (r := q) (step := t_M_numberOf v1 v2 μ) (fun s h => ?_) rfl hq)
  exact w_M_numberOf_5 hX hF h
def k_M_towerOf (X : zX) (G : zG) (v1 : Int) (μ : zM) : (Int × Int) → Prop := fun s => zW X G 4 4 [some (zR 42), none, some (zI s.1), some (zI s.2)] [] μ
theorem k_M_towerOf_4 {X : zX} {G : zG} {v1 : Int} {μ : zM} {F : Int → Prop} {v2 v3 : Int} (h : zP (Sum.elim (k_M_towerOf X G v1 μ) F) (some (.inl ((v2, v3))))) : zW X G 4 4 [some (zR 42), none, some (zI v2), some (zI v3)] [] μ := h
set_option maxRecDepth 100000 in
set_option maxHeartbeats 4000000 in
theorem w_M_towerOf_4 {X : zX} {G : zG} {v1 : Int} {μ : zM} {rv : Option zV} {ν : zM} (hX : zOk X G cX6_towerOf RX6 4 (some .int) 1) (hF : zFin X G rv ν) {v2 v3 : Int} (h : zP (Sum.elim (k_M_towerOf X G v1 μ) (fun r : Int => (some (zI r), μ) = (rv, ν))) (b_M_towerOf_4 v1 v2 v3 μ)) : zW X G 4 4 [some (zR 42), none, some (zI v2), some (zI v3)] [] μ := by
  refine zr_iload_n hX dX6_towerOf_4 rfl rfl ?_
  refine zr_aload_n hX dX6_towerOf_5 rfl rfl ?_
  refine zr_getr hX dX6_towerOf_6 (k := 0) (q := 43) rfl rfl ww_851 rfl ?_
  refine zr_iconst hX dX6_towerOf_9 (zrl rfl) ?_
  refine zr_iload_n hX dX6_towerOf_10 rfl rfl ?_
  refine zr_iadd hX dX6_towerOf_11 ?_
  refine zr_iald (N := 10956) hX dX6_towerOf_12 rfl rfl h (fun h => ?_)
  refine zr_icmplt (tgt := 33) hX dX6_towerOf_13 rfl h (fun h => ?_) (fun h => ?_)
  · refine zr_iload_n hX dX6_towerOf_33 rfl rfl ?_
    exact zr_iret hX dX6_towerOf_34 hF h
  · refine zr_iload_n hX dX6_towerOf_16 rfl rfl ?_
    refine zr_aload_n hX dX6_towerOf_17 rfl rfl ?_
    refine zr_getr hX dX6_towerOf_18 (k := 0) (q := 43) rfl rfl ww_851 rfl ?_
    refine zr_iconst hX dX6_towerOf_21 (zrl rfl) ?_
    refine zr_iload_n hX dX6_towerOf_22 rfl rfl ?_
    refine zr_iadd hX dX6_towerOf_23 ?_
    refine zr_iald (N := 10956) hX dX6_towerOf_24 rfl rfl h (fun h => ?_)
    refine zr_isub hX dX6_towerOf_25 ?_
    refine zr_istore_n hX dX6_towerOf_26 rfl (Nat.le_of_ble_eq_true rfl) ?_
    refine zr_iinc hX dX6_towerOf_27 rfl (Nat.le_of_ble_eq_true rfl) ?_
    refine zr_goto hX dX6_towerOf_30 (tgt := 4) rfl ?_
    exact zW_lf (k_M_towerOf_4 h) (And.intro rfl (And.intro rfl (And.intro rfl trivial)))
set_option maxRecDepth 100000 in
set_option maxHeartbeats 4000000 in
theorem w_M_towerOf_e {X : zX} {G : zG} {v1 : Int} {μ : zM} {rv : Option zV} {ν : zM} (hX : zOk X G cX6_towerOf RX6 4 (some .int) 1) (hF : zFin X G rv ν) (h : zP (Sum.elim (k_M_towerOf X G v1 μ) (fun r : Int => (some (zI r), μ) = (rv, ν))) (e_M_towerOf v1 μ)) : zW X G 4 0 [some (zR 42), some (zI v1), none, none] [] μ := by
  refine zr_iconst hX dX6_towerOf_0 (zrl rfl) ?_
  refine zr_istore_n hX dX6_towerOf_1 rfl (Nat.le_of_ble_eq_true rfl) ?_
  refine zr_iload_n hX dX6_towerOf_2 rfl rfl ?_
  refine zr_istore_n hX dX6_towerOf_3 rfl (Nat.le_of_ble_eq_true rfl) ?_
  exact zW_lf (k_M_towerOf_4 h) (And.intro rfl (And.intro rfl (And.intro rfl trivial)))
set_option maxRecDepth 100000 in
theorem m_M_towerOf {l : Launch} {G : zG} {v1 : Int} {μ : zM} {q : Int} (hq : f_M_towerOf v1 μ = some q) : zCT l G yX6_towerOf cX6_towerOf 4 (some .int) 1 [zR 42, zI v1] μ (some (zI q)) μ := by
  refine zMet (lv := [some (zR 42), some (zI v1), none, none]) (k := 2) pl_X6 rfl (Nat.le_of_ble_eq_true rfl) (fun X hl hX hF _ _ => ?_)
  refine w_M_towerOf_e hX hF (zgo_K (r := q) (step := t_M_towerOf v1 μ) (fun s h => ?_) rfl hq)
  exact w_M_towerOf_4 hX hF h
set_option maxRecDepth 100000 in
set_option maxHeartbeats 4000000 in
theorem w_M_storeyOf_e {X : zX} {G : zG} {v1 : Int} {μ : zM} {rv : Option zV} {ν : zM} (hX : zOk X G cX6_storeyOf RX6 2 (some .int) 2) (hF : zFin X G rv ν) (h : zP (fun r : Int => (some (zI r), μ) = (rv, ν)) (f_M_storeyOf v1 μ)) : zW X G 2 0 [some (zR 42), some (zI v1)] [] μ := by
  refine zr_iload_n hX dX6_storeyOf_0 rfl rfl ?_
  refine zr_aload_n hX dX6_storeyOf_1 rfl rfl ?_
  refine zr_aload_n hX dX6_storeyOf_2 rfl rfl ?_
  refine zr_iload_n hX dX6_storeyOf_3 rfl rfl ?_
  refine zP_bind h (fun q1 hq1 h => ?_)
  refine zr_callV hX dX6_storeyOf_4 (m_M_towerOf hq1) rfl rfl rfl (z5 ww_1027 ww_1029 ww_33 ww_77 ww_1030) hy_X6_towerOf rfl (Nat.le_of_ble_eq_true rfl) (Nat.le_of_ble_eq_true rfl) (Nat.le_of_ble_eq_true rfl) ?_
  refine zr_iconst hX dX6_storeyOf_7 (zrl rfl) ?_
  refine zP_bind h (fun q2 hq2 h => ?_)
  refine zr_callV hX dX6_storeyOf_8 (m_M_numberOf hq2) rfl rfl rfl (z5 ww_1035 ww_1037 ww_35 ww_77 ww_1038) hy_X6_numberOf rfl (Nat.le_of_ble_eq_true rfl) (Nat.le_of_ble_eq_true rfl) (Nat.le_of_ble_eq_true rfl) ?_
  refine zr_isub hX dX6_storeyOf_11 ?_
  exact zr_iret hX dX6_storeyOf_12 hF h
set_option maxRecDepth 100000 in
theorem m_M_storeyOf {l : Launch} {G : zG} {v1 : Int} {μ : zM} {q : Int} (hq : f_M_storeyOf v1 μ = some q) : zCT l G yX6_storeyOf cX6_storeyOf 2 (some .int) 2 [zR 42, zI v1] μ (some (zI q)) μ := by
  refine zMet (lv := [some (zR 42), some (zI v1)]) (k := 0) pl_X6 rfl (Nat.le_of_ble_eq_true rfl) (fun X hl hX hF _ _ => ?_)
  exact w_M_storeyOf_e hX hF (zP_of hq rfl)
set_option maxRecDepth 100000 in
set_option maxHeartbeats 4000000 in
theorem w_M_tower_e {X : zX} {G : zG} {v1 : Int} {μ : zM} {rv : Option zV} {ν : zM} (hX : zOk X G cX6_tower RX6 2 (some .int) 3) (hF : zFin X G rv ν) (h : zP (fun r : Int => (some (zI r), μ) = (rv, ν)) (f_M_tower v1 μ)) : zW X G 2 0 [some (zR 42), some (zI v1)] [] μ := by
  refine zr_aload_n hX dX6_tower_0 rfl rfl ?_
  refine zr_iload_n hX dX6_tower_1 rfl rfl ?_
  refine zr_callV hX dX6_tower_2 (m_M_isTower) rfl rfl rfl (z5 ww_1002 ww_1004 ww_28 ww_77 ww_1005) hy_X6_isTower rfl (Nat.le_of_ble_eq_true rfl) (Nat.le_of_ble_eq_true rfl) (Nat.le_of_ble_eq_true rfl) ?_
  refine zr_ifeq (tgt := 19) hX dX6_tower_5 rfl h (fun h => ?_) (fun h => ?_)
  · refine zr_iconst hX dX6_tower_19 (zrl rfl) ?_
    exact zr_iret hX dX6_tower_20 hF h
  · refine zr_aload_n hX dX6_tower_8 rfl rfl ?_
    refine zr_getr hX dX6_tower_9 (k := 0) (q := 43) rfl rfl ww_851 rfl ?_
    refine zr_iconst hX dX6_tower_12 (zrl rfl) ?_
    refine zr_iload_n hX dX6_tower_13 rfl rfl ?_
    refine zr_iadd hX dX6_tower_14 ?_
    refine zr_iald (N := 10956) hX dX6_tower_15 rfl rfl h (fun h => ?_)
    refine zr_goto hX dX6_tower_16 (tgt := 20) rfl ?_
    exact zr_iret hX dX6_tower_20 hF h
set_option maxRecDepth 100000 in
theorem m_M_tower {l : Launch} {G : zG} {v1 : Int} {μ : zM} {q : Int} (hq : f_M_tower v1 μ = some q) : zCT l G yX6_tower cX6_tower 2 (some .int) 3 [zR 42, zI v1] μ (some (zI q)) μ := by
  refine zMet (lv := [some (zR 42), some (zI v1)]) (k := 0) pl_X6 rfl (Nat.le_of_ble_eq_true rfl) (fun X hl hX hF _ _ => ?_)
  exact w_M_tower_e hX hF (zP_of hq rfl)
set_option maxRecDepth 100000 in
set_option maxHeartbeats 4000000 in
theorem w_M_isGlass_e {X : zX} {G : zG} {v0 : Int} {μ : zM} {rv : Option zV} {ν : zM} (hX : zOk X G cX6_isGlass RX6 1 (some .boolean) 1) (hF : zFin X G rv ν) (h : zP (fun r : Int => (some (zI r), μ) = (rv, ν)) (fo_M_isGlass v0)) : zW X G 1 0 [some (zI v0)] [] μ := by
  refine zr_iload_n hX dX6_isGlass_0 rfl rfl ?_
  refine zr_iconst hX dX6_isGlass_1 (zrl rfl) ?_
  refine zr_icmpeq (tgt := 10) hX dX6_isGlass_2 rfl h (fun h => ?_) (fun h => ?_)
  · refine zr_iconst hX dX6_isGlass_10 (zrl rfl) ?_
    refine zr_goto hX dX6_isGlass_11 (tgt := 15) rfl ?_
    exact zr_bretc hX dX6_isGlass_15 hF (Or.inr rfl) h
  · refine zr_iload_n hX dX6_isGlass_5 rfl rfl ?_
    refine zr_iconst hX dX6_isGlass_6 (zrl rfl) ?_
    refine zr_icmpne (tgt := 14) hX dX6_isGlass_7 rfl h (fun h => ?_) (fun h => ?_)
    · refine zr_iconst hX dX6_isGlass_14 (zrl rfl) ?_
      exact zr_bretc hX dX6_isGlass_15 hF (Or.inl rfl) h
    · refine zr_iconst hX dX6_isGlass_10 (zrl rfl) ?_
      refine zr_goto hX dX6_isGlass_11 (tgt := 15) rfl ?_
      exact zr_bretc hX dX6_isGlass_15 hF (Or.inr rfl) h
set_option maxRecDepth 100000 in
theorem m_M_isGlass {l : Launch} {G : zG} {v0 : Int} {μ : zM} : zCT l G yX6_isGlass cX6_isGlass 1 (some .boolean) 1 [zI v0] μ (some (zI (f_M_isGlass v0))) μ := by
  refine zMet (lv := [some (zI v0)]) (k := 0) pl_X6 rfl (Nat.le_of_ble_eq_true rfl) (fun X hl hX hF _ _ => ?_)
  exact w_M_isGlass_e hX hF (by rw [fo_M_isGlass_eq]; rfl)
set_option maxRecDepth 100000 in
set_option maxHeartbeats 4000000 in
theorem w_M_isLeaning_e {X : zX} {G : zG} {v0 : Int} {μ : zM} {rv : Option zV} {ν : zM} (hX : zOk X G cX6_isLeaning RX6 1 (some .boolean) 1) (hF : zFin X G rv ν) (h : zP (fun r : Int => (some (zI r), μ) = (rv, ν)) (fo_M_isLeaning v0)) : zW X G 1 0 [some (zI v0)] [] μ := by
  refine zr_iload_n hX dX6_isLeaning_0 rfl rfl ?_
  refine zr_iconst hX dX6_isLeaning_1 (zrl rfl) ?_
  refine zr_icmpeq (tgt := 10) hX dX6_isLeaning_2 rfl h (fun h => ?_) (fun h => ?_)
  · refine zr_iconst hX dX6_isLeaning_10 (zrl rfl) ?_
    refine zr_goto hX dX6_isLeaning_11 (tgt := 15) rfl ?_
    exact zr_bretc hX dX6_isLeaning_15 hF (Or.inr rfl) h
  · refine zr_iload_n hX dX6_isLeaning_5 rfl rfl ?_
    refine zr_iconst hX dX6_isLeaning_6 (zrl rfl) ?_
    refine zr_icmpne (tgt := 14) hX dX6_isLeaning_7 rfl h (fun h => ?_) (fun h => ?_)
    · refine zr_iconst hX dX6_isLeaning_14 (zrl rfl) ?_
      exact zr_bretc hX dX6_isLeaning_15 hF (Or.inl rfl) h
    · refine zr_iconst hX dX6_isLeaning_10 (zrl rfl) ?_
      refine zr_goto hX dX6_isLeaning_11 (tgt := 15) rfl ?_
      exact zr_bretc hX dX6_isLeaning_15 hF (Or.inr rfl) h
set_option maxRecDepth 100000 in
theorem m_M_isLeaning {l : Launch} {G : zG} {v0 : Int} {μ : zM} : zCT l G yX6_isLeaning cX6_isLeaning 1 (some .boolean) 1 [zI v0] μ (some (zI (f_M_isLeaning v0))) μ := by
  refine zMet (lv := [some (zI v0)]) (k := 0) pl_X6 rfl (Nat.le_of_ble_eq_true rfl) (fun X hl hX hF _ _ => ?_)
  exact w_M_isLeaning_e hX hF (by rw [fo_M_isLeaning_eq]; rfl)
set_option maxRecDepth 100000 in
set_option maxHeartbeats 4000000 in
theorem w_M_weightIn_17 {X : zX} {G : zG} {v1 : Int} {v2 : Int} {μ : zM} {rv : Option zV} {ν : zM} (hX : zOk X G cX6_weightIn RX6 4 (some .int) 2) (hF : zFin X G rv ν) {w0 : Int} (h : zP (fun r : Int => (some (zI r), μ) = (rv, ν)) (j_M_weightIn_17 v1 v2 w0 μ)) : zW X G 4 17 [none, none, some (zI v2), none] [zI w0] μ := by
  refine zr_istore_n hX dX6_weightIn_17 rfl (Nat.le_of_ble_eq_true rfl) ?_
  refine zr_iload_n hX dX6_weightIn_18 rfl rfl ?_
  refine zr_callS hX dX6_weightIn_19 (m_M_isGlass) rfl (z4 ww_1053 ww_1054 ww_77 ww_1055) hy_X6_isGlass rfl (Nat.le_of_ble_eq_true rfl) (Nat.le_of_ble_eq_true rfl) (Nat.le_of_ble_eq_true rfl) ?_
  refine zr_ifeq (tgt := 29) hX dX6_weightIn_22 rfl h (fun h => ?_) (fun h => ?_)
  · refine zr_iload_n hX dX6_weightIn_29 rfl rfl ?_
    refine zr_callS hX dX6_weightIn_30 (m_M_isLeaning) rfl (z4 ww_1072 ww_1073 ww_77 ww_1074) hy_X6_isLeaning rfl (Nat.le_of_ble_eq_true rfl) (Nat.le_of_ble_eq_true rfl) (Nat.le_of_ble_eq_true rfl) ?_
    refine zr_ifeq (tgt := 48) hX dX6_weightIn_33 rfl h (fun h => ?_) (fun h => ?_)
    · refine zr_iload_n hX dX6_weightIn_48 rfl rfl ?_
      refine zr_iconst hX dX6_weightIn_49 (zrl rfl) ?_
      refine zr_icmpne (tgt := 57) hX dX6_weightIn_50 rfl h (fun h => ?_) (fun h => ?_)
      · refine zr_iconst hX dX6_weightIn_57 (zrl rfl) ?_
        exact zr_iret hX dX6_weightIn_58 hF h
      · refine zr_iconst hX dX6_weightIn_53 (zrl rfl) ?_
        refine zr_goto hX dX6_weightIn_54 (tgt := 58) rfl ?_
        exact zr_iret hX dX6_weightIn_58 hF h
    · refine zr_iload_n hX dX6_weightIn_36 rfl rfl ?_
      refine zr_ifeq (tgt := 44) hX dX6_weightIn_37 rfl h (fun h => ?_) (fun h => ?_)
      · refine zr_iconst hX dX6_weightIn_44 (zrl rfl) ?_
        refine zr_goto hX dX6_weightIn_45 (tgt := 58) rfl ?_
        exact zr_iret hX dX6_weightIn_58 hF h
      · refine zr_iconst hX dX6_weightIn_40 (zrl rfl) ?_
        refine zr_goto hX dX6_weightIn_41 (tgt := 58) rfl ?_
        exact zr_iret hX dX6_weightIn_58 hF h
  · refine zr_iconst hX dX6_weightIn_25 (zrl rfl) ?_
    refine zr_goto hX dX6_weightIn_26 (tgt := 58) rfl ?_
    exact zr_iret hX dX6_weightIn_58 hF h
set_option maxRecDepth 100000 in
set_option maxHeartbeats 4000000 in
theorem w_M_weightIn_e {X : zX} {G : zG} {v1 : Int} {v2 : Int} {μ : zM} {rv : Option zV} {ν : zM} (hX : zOk X G cX6_weightIn RX6 4 (some .int) 2) (hF : zFin X G rv ν) (h : zP (fun r : Int => (some (zI r), μ) = (rv, ν)) (f_M_weightIn v1 v2 μ)) : zW X G 4 0 [some (zR 42), some (zI v1), some (zI v2), none] [] μ := by
  refine zr_iload_n hX dX6_weightIn_0 rfl rfl ?_
  refine zr_aload_n hX dX6_weightIn_1 rfl rfl ?_
  refine zr_getr hX dX6_weightIn_2 (k := 0) (q := 43) rfl rfl ww_851 rfl ?_
  refine zr_iconst hX dX6_weightIn_5 (zrl rfl) ?_
  refine zr_ialdc hX dX6_weightIn_6 (N := 10956) rfl rfl rfl ?_
  refine zr_iconst hX dX6_weightIn_7 (zrl rfl) ?_
  refine zr_isub hX dX6_weightIn_8 ?_
  refine zr_icmpne (tgt := 16) hX dX6_weightIn_9 rfl h (fun h => ?_) (fun h => ?_)
  · refine zr_iconst hX dX6_weightIn_16 (zrl rfl) ?_
    exact zW_lf (w_M_weightIn_17 hX hF h) (And.intro rfl trivial)
  · refine zr_iconst hX dX6_weightIn_12 (zrl rfl) ?_
    refine zr_goto hX dX6_weightIn_13 (tgt := 17) rfl ?_
    exact zW_lf (w_M_weightIn_17 hX hF h) (And.intro rfl trivial)
set_option maxRecDepth 100000 in
theorem m_M_weightIn {l : Launch} {G : zG} {v1 : Int} {v2 : Int} {μ : zM} {q : Int} (hq : f_M_weightIn v1 v2 μ = some q) : zCT l G yX6_weightIn cX6_weightIn 4 (some .int) 2 [zR 42, zI v1, zI v2] μ (some (zI q)) μ := by
  refine zMet (lv := [some (zR 42), some (zI v1), some (zI v2), none]) (k := 1) pl_X6 rfl (Nat.le_of_ble_eq_true rfl) (fun X hl hX hF _ _ => ?_)
  exact w_M_weightIn_e hX hF (zP_of hq rfl)
def k_M_weighsOn (X : zX) (G : zG) (v1 : Int) (v2 : Int) (μ : zM) : ((Int × Int) ⊕ (Int × Int)) → Prop := fun s => match s with
  | .inl (s) => zW X G 5 7 [some (zR 42), some (zI v1), some (zI v2), some (zI s.1), some (zI s.2)] [] μ
  | .inr (s) => zW X G 5 44 [some (zR 42), some (zI v1), none, some (zI s.1), some (zI s.2)] [] μ
theorem k_M_weighsOn_7 {X : zX} {G : zG} {v1 : Int} {v2 : Int} {μ : zM} {F : Int → Prop} {v3 v4 : Int} (h : zP (Sum.elim (k_M_weighsOn X G v1 v2 μ) F) (some (.inl (.inl ((v3, v4)))))) : zW X G 5 7 [some (zR 42), some (zI v1), some (zI v2), some (zI v3), some (zI v4)] [] μ := h
theorem k_M_weighsOn_44 {X : zX} {G : zG} {v1 : Int} {v2 : Int} {μ : zM} {F : Int → Prop} {v3 v4 : Int} (h : zP (Sum.elim (k_M_weighsOn X G v1 v2 μ) F) (some (.inl (.inr ((v3, v4)))))) : zW X G 5 44 [some (zR 42), some (zI v1), none, some (zI v3), some (zI v4)] [] μ := h
set_option maxRecDepth 100000 in
set_option maxHeartbeats 4000000 in
theorem w_M_weighsOn_7 {X : zX} {G : zG} {v1 : Int} {v2 : Int} {μ : zM} {rv : Option zV} {ν : zM} (hX : zOk X G cX6_weighsOn RX6 5 (some .int) 3) (hF : zFin X G rv ν) {v3 v4 : Int} (h : zP (Sum.elim (k_M_weighsOn X G v1 v2 μ) (fun r : Int => (some (zI r), μ) = (rv, ν))) (b_M_weighsOn_7 v1 v2 v3 v4 μ)) : zW X G 5 7 [some (zR 42), some (zI v1), some (zI v2), some (zI v3), some (zI v4)] [] μ := by
  refine zr_iload hX dX6_weighsOn_7 rfl ?_
  refine zr_aload_n hX dX6_weighsOn_9 rfl rfl ?_
  refine zr_getr hX dX6_weighsOn_10 (k := 0) (q := 43) rfl rfl ww_851 rfl ?_
  refine zr_iconst hX dX6_weighsOn_13 (zrl rfl) ?_
  refine zr_iload_n hX dX6_weighsOn_14 rfl rfl ?_
  refine zr_iadd hX dX6_weighsOn_15 ?_
  refine zr_iald (N := 10956) hX dX6_weighsOn_16 rfl rfl h (fun h => ?_)
  refine zr_icmpge (tgt := 41) hX dX6_weighsOn_17 rfl h (fun h => ?_) (fun h => ?_)
  · refine zr_iload_n hX dX6_weighsOn_41 rfl rfl ?_
    refine zr_istore hX dX6_weighsOn_42 (Nat.le_of_ble_eq_true rfl) ?_
    exact zW_lf (k_M_weighsOn_44 h) (And.intro rfl (And.intro rfl (And.intro rfl (And.intro rfl trivial))))
  · refine zr_iload_n hX dX6_weighsOn_20 rfl rfl ?_
    refine zr_aload_n hX dX6_weighsOn_21 rfl rfl ?_
    refine zr_iload_n hX dX6_weighsOn_22 rfl rfl ?_
    refine zr_aload_n hX dX6_weighsOn_23 rfl rfl ?_
    refine zr_iload_n hX dX6_weighsOn_24 rfl rfl ?_
    refine zr_iload hX dX6_weighsOn_25 rfl ?_
    refine zP_bind h (fun q1 hq1 h => ?_)
    refine zr_callV hX dX6_weighsOn_27 (m_M_kindAt hq1) rfl rfl rfl (z5 ww_1039 ww_1041 ww_36 ww_77 ww_1042) hy_X6_kindAt rfl (Nat.le_of_ble_eq_true rfl) (Nat.le_of_ble_eq_true rfl) (Nat.le_of_ble_eq_true rfl) ?_
    refine zP_bind h (fun q2 hq2 h => ?_)
    refine zr_callV hX dX6_weighsOn_30 (m_M_weightIn hq2) rfl rfl rfl (z5 ww_1068 ww_1070 ww_41 ww_77 ww_1071) hy_X6_weightIn rfl (Nat.le_of_ble_eq_true rfl) (Nat.le_of_ble_eq_true rfl) (Nat.le_of_ble_eq_true rfl) ?_
    refine zr_iadd hX dX6_weighsOn_33 ?_
    refine zr_istore_n hX dX6_weighsOn_34 rfl (Nat.le_of_ble_eq_true rfl) ?_
    refine zr_iinc hX dX6_weighsOn_35 rfl (Nat.le_of_ble_eq_true rfl) ?_
    refine zr_goto hX dX6_weighsOn_38 (tgt := 7) rfl ?_
    exact zW_lf (k_M_weighsOn_7 h) (And.intro rfl (And.intro rfl (And.intro rfl (And.intro rfl (And.intro rfl trivial)))))
set_option maxRecDepth 100000 in
set_option maxHeartbeats 4000000 in
theorem w_M_weighsOn_44 {X : zX} {G : zG} {v1 : Int} {v2 : Int} {μ : zM} {rv : Option zV} {ν : zM} (hX : zOk X G cX6_weighsOn RX6 5 (some .int) 3) (hF : zFin X G rv ν) {v3 v4 : Int} (h : zP (Sum.elim (k_M_weighsOn X G v1 v2 μ) (fun r : Int => (some (zI r), μ) = (rv, ν))) (b_M_weighsOn_44 v1 v2 v3 v4 μ)) : zW X G 5 44 [some (zR 42), some (zI v1), none, some (zI v3), some (zI v4)] [] μ := by
  refine zr_iload_n hX dX6_weighsOn_44 rfl rfl ?_
  refine zr_ifle (tgt := 92) hX dX6_weighsOn_45 rfl h (fun h => ?_) (fun h => ?_)
  · refine zr_iload_n hX dX6_weighsOn_92 rfl rfl ?_
    exact zr_iret hX dX6_weighsOn_93 hF h
  · refine zr_iload hX dX6_weighsOn_48 rfl ?_
    refine zr_aload_n hX dX6_weighsOn_50 rfl rfl ?_
    refine zr_getr hX dX6_weighsOn_51 (k := 0) (q := 43) rfl rfl ww_851 rfl ?_
    refine zr_iconst hX dX6_weighsOn_54 (zrl rfl) ?_
    refine zr_iload_n hX dX6_weighsOn_55 rfl rfl ?_
    refine zr_iadd hX dX6_weighsOn_56 ?_
    refine zr_iconst hX dX6_weighsOn_57 (zrl rfl) ?_
    refine zr_isub hX dX6_weighsOn_58 ?_
    refine zr_iald (N := 10956) hX dX6_weighsOn_59 rfl rfl h (fun h => ?_)
    refine zr_icmpge (tgt := 92) hX dX6_weighsOn_60 rfl h (fun h => ?_) (fun h => ?_)
    · refine zr_iload_n hX dX6_weighsOn_92 rfl rfl ?_
      exact zr_iret hX dX6_weighsOn_93 hF h
    · refine zr_iload_n hX dX6_weighsOn_63 rfl rfl ?_
      refine zr_aload_n hX dX6_weighsOn_64 rfl rfl ?_
      refine zr_iload_n hX dX6_weighsOn_65 rfl rfl ?_
      refine zr_iconst hX dX6_weighsOn_66 (zrl rfl) ?_
      refine zr_isub hX dX6_weighsOn_67 ?_
      refine zr_iload hX dX6_weighsOn_68 rfl ?_
      refine zP_bind h (fun q3 hq3 h => ?_)
      refine zr_callV hX dX6_weighsOn_70 (m_M_kindAt hq3) rfl rfl rfl (z5 ww_1039 ww_1041 ww_36 ww_77 ww_1042) hy_X6_kindAt rfl (Nat.le_of_ble_eq_true rfl) (Nat.le_of_ble_eq_true rfl) (Nat.le_of_ble_eq_true rfl) ?_
      refine zr_callS hX dX6_weighsOn_73 (m_M_isLeaning) rfl (z4 ww_1072 ww_1073 ww_77 ww_1074) hy_X6_isLeaning rfl (Nat.le_of_ble_eq_true rfl) (Nat.le_of_ble_eq_true rfl) (Nat.le_of_ble_eq_true rfl) ?_
      refine zr_ifeq (tgt := 83) hX dX6_weighsOn_76 rfl h (fun h => ?_) (fun h => ?_)
      · refine zr_iconst hX dX6_weighsOn_83 (zrl rfl) ?_
        refine zr_iadd hX dX6_weighsOn_84 ?_
        refine zr_istore_n hX dX6_weighsOn_85 rfl (Nat.le_of_ble_eq_true rfl) ?_
        refine zr_iinc hX dX6_weighsOn_86 rfl (Nat.le_of_ble_eq_true rfl) ?_
        refine zr_goto hX dX6_weighsOn_89 (tgt := 44) rfl ?_
        exact zW_lf (k_M_weighsOn_44 h) (And.intro rfl (And.intro rfl (And.intro rfl (And.intro rfl trivial))))
      · refine zr_iconst hX dX6_weighsOn_79 (zrl rfl) ?_
        refine zr_goto hX dX6_weighsOn_80 (tgt := 84) rfl ?_
        refine zr_iadd hX dX6_weighsOn_84 ?_
        refine zr_istore_n hX dX6_weighsOn_85 rfl (Nat.le_of_ble_eq_true rfl) ?_
        refine zr_iinc hX dX6_weighsOn_86 rfl (Nat.le_of_ble_eq_true rfl) ?_
        refine zr_goto hX dX6_weighsOn_89 (tgt := 44) rfl ?_
        exact zW_lf (k_M_weighsOn_44 h) (And.intro rfl (And.intro rfl (And.intro rfl (And.intro rfl trivial))))
set_option maxRecDepth 100000 in
set_option maxHeartbeats 4000000 in
theorem w_M_weighsOn_e {X : zX} {G : zG} {v1 : Int} {v2 : Int} {μ : zM} {rv : Option zV} {ν : zM} (hX : zOk X G cX6_weighsOn RX6 5 (some .int) 3) (hF : zFin X G rv ν) (h : zP (Sum.elim (k_M_weighsOn X G v1 v2 μ) (fun r : Int => (some (zI r), μ) = (rv, ν))) (e_M_weighsOn v1 v2 μ)) : zW X G 5 0 [some (zR 42), some (zI v1), some (zI v2), none, none] [] μ := by
  refine zr_iconst hX dX6_weighsOn_0 (zrl rfl) ?_
  refine zr_istore_n hX dX6_weighsOn_1 rfl (Nat.le_of_ble_eq_true rfl) ?_
  refine zr_iload_n hX dX6_weighsOn_2 rfl rfl ?_
  refine zr_iconst hX dX6_weighsOn_3 (zrl rfl) ?_
  refine zr_iadd hX dX6_weighsOn_4 ?_
  refine zr_istore hX dX6_weighsOn_5 (Nat.le_of_ble_eq_true rfl) ?_
  exact zW_lf (k_M_weighsOn_7 h) (And.intro rfl (And.intro rfl (And.intro rfl (And.intro rfl (And.intro rfl trivial)))))
set_option maxRecDepth 100000 in
theorem m_M_weighsOn {l : Launch} {G : zG} {v1 : Int} {v2 : Int} {μ : zM} {q : Int} (hq : f_M_weighsOn v1 v2 μ = some q) : zCT l G yX6_weighsOn cX6_weighsOn 5 (some .int) 3 [zR 42, zI v1, zI v2] μ (some (zI q)) μ := by
  refine zMet (lv := [some (zR 42), some (zI v1), some (zI v2), none, none]) (k := 2) pl_X6 rfl (Nat.le_of_ble_eq_true rfl) (fun X hl hX hF _ _ => ?_)
  refine w_M_weighsOn_e hX hF (zgo_K (r := q) (step := t_M_weighsOn v1 v2 μ) (fun s h => ?_) rfl hq)
  cases s with
  | inl s => exact w_M_weighsOn_7 hX hF h
  | inr s => exact w_M_weighsOn_44 hX hF h
def k_M_swaying (X : zX) (G : zG) (μ : zM) : ((Int × Int) ⊕ (Int × Int × Int)) → Prop := fun s => match s with
  | .inl (s) => zW X G 4 4 [some (zR 42), some (zI s.1), some (zI s.2), none] [] μ
  | .inr (s) => zW X G 4 16 [some (zR 42), some (zI s.1), some (zI s.2.1), some (zI s.2.2)] [] μ
theorem k_M_swaying_4 {X : zX} {G : zG} {μ : zM} {F : Int → Prop} {v1 v2 : Int} (h : zP (Sum.elim (k_M_swaying X G μ) F) (some (.inl (.inl ((v1, v2)))))) : zW X G 4 4 [some (zR 42), some (zI v1), some (zI v2), none] [] μ := h
theorem k_M_swaying_16 {X : zX} {G : zG} {μ : zM} {F : Int → Prop} {v1 v2 v3 : Int} (h : zP (Sum.elim (k_M_swaying X G μ) F) (some (.inl (.inr ((v1, v2, v3)))))) : zW X G 4 16 [some (zR 42), some (zI v1), some (zI v2), some (zI v3)] [] μ := h
set_option maxRecDepth 100000 in
set_option maxHeartbeats 4000000 in
theorem w_M_swaying_4 {X : zX} {G : zG} {μ : zM} {rv : Option zV} {ν : zM} (hX : zOk X G cX6_swaying RX6 4 (some .int) 4) (hF : zFin X G rv ν) {v1 v2 : Int} (h : zP (Sum.elim (k_M_swaying X G μ) (fun r : Int => (some (zI r), μ) = (rv, ν))) (b_M_swaying_4 v1 v2 μ)) : zW X G 4 4 [some (zR 42), some (zI v1), some (zI v2), none] [] μ := by
  refine zr_iload_n hX dX6_swaying_4 rfl rfl ?_
  refine zr_aload_n hX dX6_swaying_5 rfl rfl ?_
  refine zr_getr hX dX6_swaying_6 (k := 0) (q := 43) rfl rfl ww_851 rfl ?_
  refine zr_iconst hX dX6_swaying_9 (zrl rfl) ?_
  refine zr_ialdc hX dX6_swaying_10 (N := 10956) rfl rfl rfl ?_
  refine zr_icmpge (tgt := 70) hX dX6_swaying_11 rfl h (fun h => ?_) (fun h => ?_)
  · refine zr_iload_n hX dX6_swaying_70 rfl rfl ?_
    exact zr_iret hX dX6_swaying_71 hF h
  · refine zr_iconst hX dX6_swaying_14 (zrl rfl) ?_
    refine zr_istore_n hX dX6_swaying_15 rfl (Nat.le_of_ble_eq_true rfl) ?_
    exact zW_lf (k_M_swaying_16 h) (And.intro rfl (And.intro rfl (And.intro rfl (And.intro rfl trivial))))
set_option maxRecDepth 100000 in
set_option maxHeartbeats 4000000 in
theorem w_M_swaying_16 {X : zX} {G : zG} {μ : zM} {rv : Option zV} {ν : zM} (hX : zOk X G cX6_swaying RX6 4 (some .int) 4) (hF : zFin X G rv ν) {v1 v2 v3 : Int} (h : zP (Sum.elim (k_M_swaying X G μ) (fun r : Int => (some (zI r), μ) = (rv, ν))) (b_M_swaying_16 v1 v2 v3 μ)) : zW X G 4 16 [some (zR 42), some (zI v1), some (zI v2), some (zI v3)] [] μ := by
  refine zr_iload_n hX dX6_swaying_16 rfl rfl ?_
  refine zr_aload_n hX dX6_swaying_17 rfl rfl ?_
  refine zr_getr hX dX6_swaying_18 (k := 0) (q := 43) rfl rfl ww_851 rfl ?_
  refine zr_iconst hX dX6_swaying_21 (zrl rfl) ?_
  refine zr_iload_n hX dX6_swaying_22 rfl rfl ?_
  refine zr_iadd hX dX6_swaying_23 ?_
  refine zr_iald (N := 10956) hX dX6_swaying_24 rfl rfl h (fun h => ?_)
  refine zr_icmpge (tgt := 64) hX dX6_swaying_25 rfl h (fun h => ?_) (fun h => ?_)
  · refine zr_iinc hX dX6_swaying_64 rfl (Nat.le_of_ble_eq_true rfl) ?_
    refine zr_goto hX dX6_swaying_67 (tgt := 4) rfl ?_
    exact zW_lf (k_M_swaying_4 h) (And.intro rfl (And.intro rfl (And.intro rfl trivial)))
  · refine zr_iload_n hX dX6_swaying_28 rfl rfl ?_
    refine zr_aload_n hX dX6_swaying_29 rfl rfl ?_
    refine zr_iload_n hX dX6_swaying_30 rfl rfl ?_
    refine zr_iload_n hX dX6_swaying_31 rfl rfl ?_
    refine zP_bind h (fun q1 hq1 h => ?_)
    refine zr_callV hX dX6_swaying_32 (m_M_weighsOn hq1) rfl rfl rfl (z5 ww_1064 ww_1066 ww_40 ww_77 ww_1067) hy_X6_weighsOn rfl (Nat.le_of_ble_eq_true rfl) (Nat.le_of_ble_eq_true rfl) (Nat.le_of_ble_eq_true rfl) ?_
    refine zr_aload_n hX dX6_swaying_35 rfl rfl ?_
    refine zr_iload_n hX dX6_swaying_36 rfl rfl ?_
    refine zr_iload_n hX dX6_swaying_37 rfl rfl ?_
    refine zP_bind h (fun q2 hq2 h => ?_)
    refine zr_callV hX dX6_swaying_38 (m_M_bearsAt hq2) rfl rfl rfl (z5 ww_1060 ww_1062 ww_39 ww_77 ww_1063) hy_X6_bearsAt rfl (Nat.le_of_ble_eq_true rfl) (Nat.le_of_ble_eq_true rfl) (Nat.le_of_ble_eq_true rfl) ?_
    refine zr_icmple (tgt := 55) hX dX6_swaying_41 rfl h (fun h => ?_) (fun h => ?_)
    · refine zr_iconst hX dX6_swaying_55 (zrl rfl) ?_
      refine zr_ior hX dX6_swaying_56 ?_
      refine zr_istore_n hX dX6_swaying_57 rfl (Nat.le_of_ble_eq_true rfl) ?_
      refine zr_iinc hX dX6_swaying_58 rfl (Nat.le_of_ble_eq_true rfl) ?_
      refine zr_goto hX dX6_swaying_61 (tgt := 16) rfl ?_
      exact zW_lf (k_M_swaying_16 h) (And.intro rfl (And.intro rfl (And.intro rfl (And.intro rfl trivial))))
    · refine zr_iconst hX dX6_swaying_44 (zrl rfl) ?_
      refine zr_aload_n hX dX6_swaying_45 rfl rfl ?_
      refine zr_iload_n hX dX6_swaying_46 rfl rfl ?_
      refine zr_iload_n hX dX6_swaying_47 rfl rfl ?_
      refine zP_bind h (fun q3 hq3 h => ?_)
      refine zr_callV hX dX6_swaying_48 (m_M_numberOf hq3) rfl rfl rfl (z5 ww_1035 ww_1037 ww_35 ww_77 ww_1038) hy_X6_numberOf rfl (Nat.le_of_ble_eq_true rfl) (Nat.le_of_ble_eq_true rfl) (Nat.le_of_ble_eq_true rfl) ?_
      refine zr_ishl hX dX6_swaying_51 ?_
      refine zr_goto hX dX6_swaying_52 (tgt := 56) rfl ?_
      refine zr_ior hX dX6_swaying_56 ?_
      refine zr_istore_n hX dX6_swaying_57 rfl (Nat.le_of_ble_eq_true rfl) ?_
      refine zr_iinc hX dX6_swaying_58 rfl (Nat.le_of_ble_eq_true rfl) ?_
      refine zr_goto hX dX6_swaying_61 (tgt := 16) rfl ?_
      exact zW_lf (k_M_swaying_16 h) (And.intro rfl (And.intro rfl (And.intro rfl (And.intro rfl trivial))))
set_option maxRecDepth 100000 in
set_option maxHeartbeats 4000000 in
theorem w_M_swaying_e {X : zX} {G : zG} {μ : zM} {rv : Option zV} {ν : zM} (hX : zOk X G cX6_swaying RX6 4 (some .int) 4) (hF : zFin X G rv ν) (h : zP (Sum.elim (k_M_swaying X G μ) (fun r : Int => (some (zI r), μ) = (rv, ν))) (e_M_swaying μ)) : zW X G 4 0 [some (zR 42), none, none, none] [] μ := by
  refine zr_iconst hX dX6_swaying_0 (zrl rfl) ?_
  refine zr_istore_n hX dX6_swaying_1 rfl (Nat.le_of_ble_eq_true rfl) ?_
  refine zr_iconst hX dX6_swaying_2 (zrl rfl) ?_
  refine zr_istore_n hX dX6_swaying_3 rfl (Nat.le_of_ble_eq_true rfl) ?_
  exact zW_lf (k_M_swaying_4 h) (And.intro rfl (And.intro rfl (And.intro rfl trivial)))
set_option maxRecDepth 100000 in
theorem m_M_swaying {l : Launch} {G : zG} {μ : zM} {q : Int} (hq : f_M_swaying μ = some q) : zCT l G yX6_swaying cX6_swaying 4 (some .int) 4 [zR 42] μ (some (zI q)) μ := by
  refine zMet (lv := [some (zR 42), none, none, none]) (k := 3) pl_X6 rfl (Nat.le_of_ble_eq_true rfl) (fun X hl hX hF _ _ => ?_)
  refine w_M_swaying_e hX hF (zgo_K (r := q) (step := t_M_swaying μ) (fun s h => ?_) rfl hq)
  cases s with
  | inl s => exact w_M_swaying_4 hX hF h
  | inr s => exact w_M_swaying_16 hX hF h
set_option maxRecDepth 100000 in
set_option maxHeartbeats 4000000 in
theorem w_M_eastIn_e {X : zX} {G : zG} {v0 : Int} {μ : zM} {rv : Option zV} {ν : zM} (hX : zOk X G cX6_eastIn RX6 1 (some .int) 1) (hF : zFin X G rv ν) (h : zP (fun r : Int => (some (zI r), μ) = (rv, ν)) (fo_M_eastIn v0)) : zW X G 1 0 [some (zI v0)] [] μ := by
  refine zr_iload_n hX dX6_eastIn_0 rfl rfl ?_
  refine zr_iconst hX dX6_eastIn_1 (zrl rfl) ?_
  refine zr_icmpge (tgt := 9) hX dX6_eastIn_2 rfl h (fun h => ?_) (fun h => ?_)
  · refine zr_iload_n hX dX6_eastIn_9 rfl rfl ?_
    refine zr_iconst hX dX6_eastIn_10 (zrl rfl) ?_
    refine zr_icmple (tgt := 18) hX dX6_eastIn_11 rfl h (fun h => ?_) (fun h => ?_)
    · refine zr_iconst hX dX6_eastIn_18 (zrl rfl) ?_
      exact zr_iret hX dX6_eastIn_19 hF h
    · refine zr_iconst hX dX6_eastIn_14 (zrl rfl) ?_
      refine zr_goto hX dX6_eastIn_15 (tgt := 19) rfl ?_
      exact zr_iret hX dX6_eastIn_19 hF h
  · refine zr_iconst hX dX6_eastIn_5 (zrl rfl) ?_
    refine zr_goto hX dX6_eastIn_6 (tgt := 19) rfl ?_
    exact zr_iret hX dX6_eastIn_19 hF h
set_option maxRecDepth 100000 in
theorem m_M_eastIn {l : Launch} {G : zG} {v0 : Int} {μ : zM} : zCT l G yX6_eastIn cX6_eastIn 1 (some .int) 1 [zI v0] μ (some (zI (f_M_eastIn v0))) μ := by
  refine zMet (lv := [some (zI v0)]) (k := 0) pl_X6 rfl (Nat.le_of_ble_eq_true rfl) (fun X hl hX hF _ _ => ?_)
  exact w_M_eastIn_e hX hF (by rw [fo_M_eastIn_eq]; rfl)
set_option maxRecDepth 100000 in
set_option maxHeartbeats 4000000 in
theorem w_M_upIn_e {X : zX} {G : zG} {v0 : Int} {μ : zM} {rv : Option zV} {ν : zM} (hX : zOk X G cX6_upIn RX6 1 (some .int) 1) (hF : zFin X G rv ν) (h : zP (fun r : Int => (some (zI r), μ) = (rv, ν)) (fo_M_upIn v0)) : zW X G 1 0 [some (zI v0)] [] μ := by
  refine zr_iload_n hX dX6_upIn_0 rfl rfl ?_
  refine zr_ifle (tgt := 13) hX dX6_upIn_1 rfl h (fun h => ?_) (fun h => ?_)
  · refine zr_iconst hX dX6_upIn_13 (zrl rfl) ?_
    exact zr_iret hX dX6_upIn_14 hF h
  · refine zr_iload_n hX dX6_upIn_4 rfl rfl ?_
    refine zr_iconst hX dX6_upIn_5 (zrl rfl) ?_
    refine zr_icmpge (tgt := 13) hX dX6_upIn_6 rfl h (fun h => ?_) (fun h => ?_)
    · refine zr_iconst hX dX6_upIn_13 (zrl rfl) ?_
      exact zr_iret hX dX6_upIn_14 hF h
    · refine zr_iconst hX dX6_upIn_9 (zrl rfl) ?_
      refine zr_goto hX dX6_upIn_10 (tgt := 14) rfl ?_
      exact zr_iret hX dX6_upIn_14 hF h
set_option maxRecDepth 100000 in
theorem m_M_upIn {l : Launch} {G : zG} {v0 : Int} {μ : zM} : zCT l G yX6_upIn cX6_upIn 1 (some .int) 1 [zI v0] μ (some (zI (f_M_upIn v0))) μ := by
  refine zMet (lv := [some (zI v0)]) (k := 0) pl_X6 rfl (Nat.le_of_ble_eq_true rfl) (fun X hl hX hF _ _ => ?_)
  exact w_M_upIn_e hX hF (by rw [fo_M_upIn_eq]; rfl)
def k_M_shader (X : zX) (G : zG) (v1 : Int) (v2 : Int) (v3 : Int) (μ : zM) : Int → Prop := fun s => zW X G 7 3 [some (zR 42), some (zI v1), some (zI v2), some (zI v3), some (zI s), none, none] [] μ
theorem k_M_shader_3 {X : zX} {G : zG} {v1 : Int} {v2 : Int} {v3 : Int} {μ : zM} {F : Int → Prop} {v4 : Int} (h : zP (Sum.elim (k_M_shader X G v1 v2 v3 μ) F) (some (.inl (v4)))) : zW X G 7 3 [some (zR 42), some (zI v1), some (zI v2), some (zI v3), some (zI v4), none, none] [] μ := h
set_option maxRecDepth 100000 in
set_option maxHeartbeats 4000000 in
theorem w_M_shader_3 {X : zX} {G : zG} {v1 : Int} {v2 : Int} {v3 : Int} {μ : zM} {rv : Option zV} {ν : zM} (hX : zOk X G cX6_shader RX6 7 (some .int) 2) (hF : zFin X G rv ν) {v4 : Int} (h : zP (Sum.elim (k_M_shader X G v1 v2 v3 μ) (fun r : Int => (some (zI r), μ) = (rv, ν))) (b_M_shader_3 v1 v2 v3 v4 μ)) : zW X G 7 3 [some (zR 42), some (zI v1), some (zI v2), some (zI v3), some (zI v4), none, none] [] μ := by
  refine zr_iload hX dX6_shader_3 rfl ?_
  refine zr_bipush hX dX6_shader_5 rfl ?_
  refine zr_icmpge (tgt := 72) hX dX6_shader_7 rfl h (fun h => ?_) (fun h => ?_)
  · refine zr_bipush hX dX6_shader_72 rfl ?_
    exact zr_iret hX dX6_shader_74 hF h
  · refine zr_iload_n hX dX6_shader_10 rfl rfl ?_
    refine zr_iload hX dX6_shader_11 rfl ?_
    refine zr_iload_n hX dX6_shader_13 rfl rfl ?_
    refine zr_callS hX dX6_shader_14 (m_M_eastIn) rfl (z4 ww_1047 ww_1048 ww_77 ww_1049) hy_X6_eastIn rfl (Nat.le_of_ble_eq_true rfl) (Nat.le_of_ble_eq_true rfl) (Nat.le_of_ble_eq_true rfl) ?_
    refine zr_imul hX dX6_shader_17 ?_
    refine zr_iadd hX dX6_shader_18 ?_
    refine zr_istore hX dX6_shader_19 (Nat.le_of_ble_eq_true rfl) ?_
    refine zr_iload_n hX dX6_shader_21 rfl rfl ?_
    refine zr_iload hX dX6_shader_22 rfl ?_
    refine zr_iload_n hX dX6_shader_24 rfl rfl ?_
    refine zr_callS hX dX6_shader_25 (m_M_upIn) rfl (z4 ww_1050 ww_1051 ww_77 ww_1052) hy_X6_upIn rfl (Nat.le_of_ble_eq_true rfl) (Nat.le_of_ble_eq_true rfl) (Nat.le_of_ble_eq_true rfl) ?_
    refine zr_imul hX dX6_shader_28 ?_
    refine zr_iadd hX dX6_shader_29 ?_
    refine zr_istore hX dX6_shader_30 (Nat.le_of_ble_eq_true rfl) ?_
    refine zr_aload_n hX dX6_shader_32 rfl rfl ?_
    refine zr_iload hX dX6_shader_33 rfl ?_
    refine zr_iload hX dX6_shader_35 rfl ?_
    refine zP_bind h (fun q1 hq1 h => ?_)
    refine zr_callV hX dX6_shader_37 (m_M_isThere hq1) rfl rfl rfl (z5 ww_1015 ww_1017 ww_30 ww_77 ww_1018) hy_X6_isThere rfl (Nat.le_of_ble_eq_true rfl) (Nat.le_of_ble_eq_true rfl) (Nat.le_of_ble_eq_true rfl) ?_
    refine zr_ifeq (tgt := 66) hX dX6_shader_40 rfl h (fun h => ?_) (fun h => ?_)
    · refine zr_iinc hX dX6_shader_66 rfl (Nat.le_of_ble_eq_true rfl) ?_
      refine zr_goto hX dX6_shader_69 (tgt := 3) rfl ?_
      exact zW_lf (k_M_shader_3 h) (And.intro rfl (And.intro rfl (And.intro rfl (And.intro rfl (And.intro rfl trivial)))))
    · refine zr_aload_n hX dX6_shader_43 rfl rfl ?_
      refine zr_iload hX dX6_shader_44 rfl ?_
      refine zr_iload hX dX6_shader_46 rfl ?_
      refine zP_bind h (fun q2 hq2 h => ?_)
      refine zr_callV hX dX6_shader_48 (m_M_kindAt hq2) rfl rfl rfl (z5 ww_1039 ww_1041 ww_36 ww_77 ww_1042) hy_X6_kindAt rfl (Nat.le_of_ble_eq_true rfl) (Nat.le_of_ble_eq_true rfl) (Nat.le_of_ble_eq_true rfl) ?_
      refine zr_callS hX dX6_shader_51 (m_M_isGlass) rfl (z4 ww_1053 ww_1054 ww_77 ww_1055) hy_X6_isGlass rfl (Nat.le_of_ble_eq_true rfl) (Nat.le_of_ble_eq_true rfl) (Nat.le_of_ble_eq_true rfl) ?_
      refine zr_ifne (tgt := 66) hX dX6_shader_54 rfl h (fun h => ?_) (fun h => ?_)
      · refine zr_iinc hX dX6_shader_66 rfl (Nat.le_of_ble_eq_true rfl) ?_
        refine zr_goto hX dX6_shader_69 (tgt := 3) rfl ?_
        exact zW_lf (k_M_shader_3 h) (And.intro rfl (And.intro rfl (And.intro rfl (And.intro rfl (And.intro rfl trivial)))))
      · refine zr_aload_n hX dX6_shader_57 rfl rfl ?_
        refine zr_iload hX dX6_shader_58 rfl ?_
        refine zr_iload hX dX6_shader_60 rfl ?_
        refine zP_bind h (fun q3 hq3 h => ?_)
        refine zr_callV hX dX6_shader_62 (m_M_numberOf hq3) rfl rfl rfl (z5 ww_1035 ww_1037 ww_35 ww_77 ww_1038) hy_X6_numberOf rfl (Nat.le_of_ble_eq_true rfl) (Nat.le_of_ble_eq_true rfl) (Nat.le_of_ble_eq_true rfl) ?_
        exact zr_iret hX dX6_shader_65 hF h
set_option maxRecDepth 100000 in
set_option maxHeartbeats 4000000 in
theorem w_M_shader_e {X : zX} {G : zG} {v1 : Int} {v2 : Int} {v3 : Int} {μ : zM} {rv : Option zV} {ν : zM} (hX : zOk X G cX6_shader RX6 7 (some .int) 2) (hF : zFin X G rv ν) (h : zP (Sum.elim (k_M_shader X G v1 v2 v3 μ) (fun r : Int => (some (zI r), μ) = (rv, ν))) (e_M_shader v1 v2 v3 μ)) : zW X G 7 0 [some (zR 42), some (zI v1), some (zI v2), some (zI v3), none, none, none] [] μ := by
  refine zr_iconst hX dX6_shader_0 (zrl rfl) ?_
  refine zr_istore hX dX6_shader_1 (Nat.le_of_ble_eq_true rfl) ?_
  exact zW_lf (k_M_shader_3 h) (And.intro rfl (And.intro rfl (And.intro rfl (And.intro rfl (And.intro rfl trivial)))))
set_option maxRecDepth 100000 in
theorem m_M_shader {l : Launch} {G : zG} {v1 : Int} {v2 : Int} {v3 : Int} {μ : zM} {q : Int} (hq : f_M_shader v1 v2 v3 μ = some q) : zCT l G yX6_shader cX6_shader 7 (some .int) 2 [zR 42, zI v1, zI v2, zI v3] μ (some (zI q)) μ := by
  refine zMet (lv := [some (zR 42), some (zI v1), some (zI v2), some (zI v3), none, none, none]) (k := 3) pl_X6 rfl (Nat.le_of_ble_eq_true rfl) (fun X hl hX hF _ _ => ?_)
  refine w_M_shader_e hX hF (zgo_K (r := q) (step := t_M_shader v1 v2 v3 μ) (fun s h => ?_) rfl hq)
  exact w_M_shader_3 hX hF h
def k_M_hoursOf (X : zX) (G : zG) (v1 : Int) (v2 : Int) (μ : zM) : (Int × Int) → Prop := fun s => zW X G 5 5 [some (zR 42), some (zI v1), some (zI v2), some (zI s.1), some (zI s.2)] [] μ
theorem k_M_hoursOf_5 {X : zX} {G : zG} {v1 : Int} {v2 : Int} {μ : zM} {F : Int → Prop} {v3 v4 : Int} (h : zP (Sum.elim (k_M_hoursOf X G v1 v2 μ) F) (some (.inl ((v3, v4))))) : zW X G 5 5 [some (zR 42), some (zI v1), some (zI v2), some (zI v3), some (zI v4)] [] μ := h
set_option maxRecDepth 100000 in
set_option maxHeartbeats 4000000 in
theorem w_M_hoursOf_5 {X : zX} {G : zG} {v1 : Int} {v2 : Int} {μ : zM} {rv : Option zV} {ν : zM} (hX : zOk X G cX6_hoursOf RX6 5 (some .int) 3) (hF : zFin X G rv ν) {v3 v4 : Int} (h : zP (Sum.elim (k_M_hoursOf X G v1 v2 μ) (fun r : Int => (some (zI r), μ) = (rv, ν))) (b_M_hoursOf_5 v1 v2 v3 v4 μ)) : zW X G 5 5 [some (zR 42), some (zI v1), some (zI v2), some (zI v3), some (zI v4)] [] μ := by
  refine zr_iload hX dX6_hoursOf_5 rfl ?_
  refine zr_iconst hX dX6_hoursOf_7 (zrl rfl) ?_
  refine zr_icmpge (tgt := 41) hX dX6_hoursOf_8 rfl h (fun h => ?_) (fun h => ?_)
  · refine zr_iload_n hX dX6_hoursOf_41 rfl rfl ?_
    exact zr_iret hX dX6_hoursOf_42 hF h
  · refine zr_iload_n hX dX6_hoursOf_11 rfl rfl ?_
    refine zr_aload_n hX dX6_hoursOf_12 rfl rfl ?_
    refine zr_iload_n hX dX6_hoursOf_13 rfl rfl ?_
    refine zr_iload_n hX dX6_hoursOf_14 rfl rfl ?_
    refine zr_iload hX dX6_hoursOf_15 rfl ?_
    refine zP_bind h (fun q1 hq1 h => ?_)
    refine zr_callV hX dX6_hoursOf_17 (m_M_shader hq1) rfl rfl rfl (z5 ww_1043 ww_1045 ww_37 ww_77 ww_1046) hy_X6_shader rfl (Nat.le_of_ble_eq_true rfl) (Nat.le_of_ble_eq_true rfl) (Nat.le_of_ble_eq_true rfl) ?_
    refine zr_bipush hX dX6_hoursOf_20 rfl ?_
    refine zr_icmpne (tgt := 32) hX dX6_hoursOf_22 rfl h (fun h => ?_) (fun h => ?_)
    · refine zr_iconst hX dX6_hoursOf_32 (zrl rfl) ?_
      refine zr_ior hX dX6_hoursOf_33 ?_
      refine zr_istore_n hX dX6_hoursOf_34 rfl (Nat.le_of_ble_eq_true rfl) ?_
      refine zr_iinc hX dX6_hoursOf_35 rfl (Nat.le_of_ble_eq_true rfl) ?_
      refine zr_goto hX dX6_hoursOf_38 (tgt := 5) rfl ?_
      exact zW_lf (k_M_hoursOf_5 h) (And.intro rfl (And.intro rfl (And.intro rfl (And.intro rfl (And.intro rfl trivial)))))
    · refine zr_iconst hX dX6_hoursOf_25 (zrl rfl) ?_
      refine zr_iload hX dX6_hoursOf_26 rfl ?_
      refine zr_ishl hX dX6_hoursOf_28 ?_
      refine zr_goto hX dX6_hoursOf_29 (tgt := 33) rfl ?_
      refine zr_ior hX dX6_hoursOf_33 ?_
      refine zr_istore_n hX dX6_hoursOf_34 rfl (Nat.le_of_ble_eq_true rfl) ?_
      refine zr_iinc hX dX6_hoursOf_35 rfl (Nat.le_of_ble_eq_true rfl) ?_
      refine zr_goto hX dX6_hoursOf_38 (tgt := 5) rfl ?_
      exact zW_lf (k_M_hoursOf_5 h) (And.intro rfl (And.intro rfl (And.intro rfl (And.intro rfl (And.intro rfl trivial)))))
set_option maxRecDepth 100000 in
set_option maxHeartbeats 4000000 in
theorem w_M_hoursOf_e {X : zX} {G : zG} {v1 : Int} {v2 : Int} {μ : zM} {rv : Option zV} {ν : zM} (hX : zOk X G cX6_hoursOf RX6 5 (some .int) 3) (hF : zFin X G rv ν) (h : zP (Sum.elim (k_M_hoursOf X G v1 v2 μ) (fun r : Int => (some (zI r), μ) = (rv, ν))) (e_M_hoursOf v1 v2 μ)) : zW X G 5 0 [some (zR 42), some (zI v1), some (zI v2), none, none] [] μ := by
  refine zr_iconst hX dX6_hoursOf_0 (zrl rfl) ?_
  refine zr_istore_n hX dX6_hoursOf_1 rfl (Nat.le_of_ble_eq_true rfl) ?_
  refine zr_iconst hX dX6_hoursOf_2 (zrl rfl) ?_
  refine zr_istore hX dX6_hoursOf_3 (Nat.le_of_ble_eq_true rfl) ?_
  exact zW_lf (k_M_hoursOf_5 h) (And.intro rfl (And.intro rfl (And.intro rfl (And.intro rfl (And.intro rfl trivial)))))
set_option maxRecDepth 100000 in
theorem m_M_hoursOf {l : Launch} {G : zG} {v1 : Int} {v2 : Int} {μ : zM} {q : Int} (hq : f_M_hoursOf v1 v2 μ = some q) : zCT l G yX6_hoursOf cX6_hoursOf 5 (some .int) 3 [zR 42, zI v1, zI v2] μ (some (zI q)) μ := by
  refine zMet (lv := [some (zR 42), some (zI v1), some (zI v2), none, none]) (k := 2) pl_X6 rfl (Nat.le_of_ble_eq_true rfl) (fun X hl hX hF _ _ => ?_)
  refine w_M_hoursOf_e hX hF (zgo_K (r := q) (step := t_M_hoursOf v1 v2 μ) (fun s h => ?_) rfl hq)
  exact w_M_hoursOf_5 hX hF h
def k_M_lampsOver (X : zX) (G : zG) (v1 : Int) (v2 : Int) (μ : zM) : (Int × Int) → Prop := fun s => zW X G 5 7 [some (zR 42), some (zI v1), none, some (zI s.1), some (zI s.2)] [] μ
theorem k_M_lampsOver_7 {X : zX} {G : zG} {v1 : Int} {v2 : Int} {μ : zM} {F : Int → Prop} {v3 v4 : Int} (h : zP (Sum.elim (k_M_lampsOver X G v1 v2 μ) F) (some (.inl ((v3, v4))))) : zW X G 5 7 [some (zR 42), some (zI v1), none, some (zI v3), some (zI v4)] [] μ := h
set_option maxRecDepth 100000 in
set_option maxHeartbeats 4000000 in
theorem w_M_lampsOver_7 {X : zX} {G : zG} {v1 : Int} {v2 : Int} {μ : zM} {rv : Option zV} {ν : zM} (hX : zOk X G cX6_lampsOver RX6 5 (some .int) 2) (hF : zFin X G rv ν) {v3 v4 : Int} (h : zP (Sum.elim (k_M_lampsOver X G v1 v2 μ) (fun r : Int => (some (zI r), μ) = (rv, ν))) (b_M_lampsOver_7 v1 v2 v3 v4 μ)) : zW X G 5 7 [some (zR 42), some (zI v1), none, some (zI v3), some (zI v4)] [] μ := by
  refine zr_iload hX dX6_lampsOver_7 rfl ?_
  refine zr_aload_n hX dX6_lampsOver_9 rfl rfl ?_
  refine zr_getr hX dX6_lampsOver_10 (k := 0) (q := 43) rfl rfl ww_851 rfl ?_
  refine zr_iconst hX dX6_lampsOver_13 (zrl rfl) ?_
  refine zr_iload_n hX dX6_lampsOver_14 rfl rfl ?_
  refine zr_iadd hX dX6_lampsOver_15 ?_
  refine zr_iald (N := 10956) hX dX6_lampsOver_16 rfl rfl h (fun h => ?_)
  refine zr_icmpge (tgt := 45) hX dX6_lampsOver_17 rfl h (fun h => ?_) (fun h => ?_)
  · refine zr_iload_n hX dX6_lampsOver_45 rfl rfl ?_
    exact zr_iret hX dX6_lampsOver_46 hF h
  · refine zr_iload_n hX dX6_lampsOver_20 rfl rfl ?_
    refine zr_aload_n hX dX6_lampsOver_21 rfl rfl ?_
    refine zr_iload_n hX dX6_lampsOver_22 rfl rfl ?_
    refine zr_iload hX dX6_lampsOver_23 rfl ?_
    refine zP_bind h (fun q1 hq1 h => ?_)
    refine zr_callV hX dX6_lampsOver_25 (m_M_kindAt hq1) rfl rfl rfl (z5 ww_1039 ww_1041 ww_36 ww_77 ww_1042) hy_X6_kindAt rfl (Nat.le_of_ble_eq_true rfl) (Nat.le_of_ble_eq_true rfl) (Nat.le_of_ble_eq_true rfl) ?_
    refine zr_iconst hX dX6_lampsOver_28 (zrl rfl) ?_
    refine zr_icmpne (tgt := 36) hX dX6_lampsOver_29 rfl h (fun h => ?_) (fun h => ?_)
    · refine zr_iconst hX dX6_lampsOver_36 (zrl rfl) ?_
      refine zr_iadd hX dX6_lampsOver_37 ?_
      refine zr_istore_n hX dX6_lampsOver_38 rfl (Nat.le_of_ble_eq_true rfl) ?_
      refine zr_iinc hX dX6_lampsOver_39 rfl (Nat.le_of_ble_eq_true rfl) ?_
      refine zr_goto hX dX6_lampsOver_42 (tgt := 7) rfl ?_
      exact zW_lf (k_M_lampsOver_7 h) (And.intro rfl (And.intro rfl (And.intro rfl (And.intro rfl trivial))))
    · refine zr_iconst hX dX6_lampsOver_32 (zrl rfl) ?_
      refine zr_goto hX dX6_lampsOver_33 (tgt := 37) rfl ?_
      refine zr_iadd hX dX6_lampsOver_37 ?_
      refine zr_istore_n hX dX6_lampsOver_38 rfl (Nat.le_of_ble_eq_true rfl) ?_
      refine zr_iinc hX dX6_lampsOver_39 rfl (Nat.le_of_ble_eq_true rfl) ?_
      refine zr_goto hX dX6_lampsOver_42 (tgt := 7) rfl ?_
      exact zW_lf (k_M_lampsOver_7 h) (And.intro rfl (And.intro rfl (And.intro rfl (And.intro rfl trivial))))
set_option maxRecDepth 100000 in
set_option maxHeartbeats 4000000 in
theorem w_M_lampsOver_e {X : zX} {G : zG} {v1 : Int} {v2 : Int} {μ : zM} {rv : Option zV} {ν : zM} (hX : zOk X G cX6_lampsOver RX6 5 (some .int) 2) (hF : zFin X G rv ν) (h : zP (Sum.elim (k_M_lampsOver X G v1 v2 μ) (fun r : Int => (some (zI r), μ) = (rv, ν))) (e_M_lampsOver v1 v2 μ)) : zW X G 5 0 [some (zR 42), some (zI v1), some (zI v2), none, none] [] μ := by
  refine zr_iconst hX dX6_lampsOver_0 (zrl rfl) ?_
  refine zr_istore_n hX dX6_lampsOver_1 rfl (Nat.le_of_ble_eq_true rfl) ?_
  refine zr_iload_n hX dX6_lampsOver_2 rfl rfl ?_
  refine zr_iconst hX dX6_lampsOver_3 (zrl rfl) ?_
  refine zr_iadd hX dX6_lampsOver_4 ?_
  refine zr_istore hX dX6_lampsOver_5 (Nat.le_of_ble_eq_true rfl) ?_
  exact zW_lf (k_M_lampsOver_7 h) (And.intro rfl (And.intro rfl (And.intro rfl (And.intro rfl trivial))))
set_option maxRecDepth 100000 in
theorem m_M_lampsOver {l : Launch} {G : zG} {v1 : Int} {v2 : Int} {μ : zM} {q : Int} (hq : f_M_lampsOver v1 v2 μ = some q) : zCT l G yX6_lampsOver cX6_lampsOver 5 (some .int) 2 [zR 42, zI v1, zI v2] μ (some (zI q)) μ := by
  refine zMet (lv := [some (zR 42), some (zI v1), some (zI v2), none, none]) (k := 2) pl_X6 rfl (Nat.le_of_ble_eq_true rfl) (fun X hl hX hF _ _ => ?_)
  refine w_M_lampsOver_e hX hF (zgo_K (r := q) (step := t_M_lampsOver v1 v2 μ) (fun s h => ?_) rfl hq)
  exact w_M_lampsOver_7 hX hF h
set_option maxRecDepth 100000 in
set_option maxHeartbeats 4000000 in
theorem w_M_lesser_e {X : zX} {G : zG} {v0 : Int} {v1 : Int} {μ : zM} {rv : Option zV} {ν : zM} (hX : zOk X G cX6_lesser RX6 2 (some .int) 1) (hF : zFin X G rv ν) (h : zP (fun r : Int => (some (zI r), μ) = (rv, ν)) (fo_M_lesser v0 v1)) : zW X G 2 0 [some (zI v0), some (zI v1)] [] μ := by
  refine zr_iload_n hX dX6_lesser_0 rfl rfl ?_
  refine zr_iload_n hX dX6_lesser_1 rfl rfl ?_
  refine zr_icmpge (tgt := 9) hX dX6_lesser_2 rfl h (fun h => ?_) (fun h => ?_)
  · refine zr_iload_n hX dX6_lesser_9 rfl rfl ?_
    exact zr_iret hX dX6_lesser_10 hF h
  · refine zr_iload_n hX dX6_lesser_5 rfl rfl ?_
    refine zr_goto hX dX6_lesser_6 (tgt := 10) rfl ?_
    exact zr_iret hX dX6_lesser_10 hF h
set_option maxRecDepth 100000 in
theorem m_M_lesser {l : Launch} {G : zG} {v0 : Int} {v1 : Int} {μ : zM} : zCT l G yX6_lesser cX6_lesser 2 (some .int) 1 [zI v0, zI v1] μ (some (zI (f_M_lesser v0 v1))) μ := by
  refine zMet (lv := [some (zI v0), some (zI v1)]) (k := 0) pl_X6 rfl (Nat.le_of_ble_eq_true rfl) (fun X hl hX hF _ _ => ?_)
  exact w_M_lesser_e hX hF (by rw [fo_M_lesser_eq]; rfl)
set_option maxRecDepth 100000 in
set_option maxHeartbeats 4000000 in
theorem w_M_lightBy_e {X : zX} {G : zG} {v1 : Int} {v2 : Int} {v3 : Int} {μ : zM} {rv : Option zV} {ν : zM} (hX : zOk X G cX6_lightBy RX6 4 (some .int) 4) (hF : zFin X G rv ν) (h : zP (fun r : Int => (some (zI r), μ) = (rv, ν)) (f_M_lightBy v1 v2 v3 μ)) : zW X G 4 0 [some (zR 42), some (zI v1), some (zI v2), some (zI v3)] [] μ := by
  refine zr_iconst hX dX6_lightBy_0 (zrl rfl) ?_
  refine zr_aload_n hX dX6_lightBy_1 rfl rfl ?_
  refine zr_iload_n hX dX6_lightBy_2 rfl rfl ?_
  refine zr_iload_n hX dX6_lightBy_3 rfl rfl ?_
  refine zP_bind h (fun q1 hq1 h => ?_)
  refine zr_callV hX dX6_lightBy_4 (m_M_hoursOf hq1) rfl rfl rfl (z5 ww_1083 ww_1085 ww_44 ww_77 ww_1086) hy_X6_hoursOf rfl (Nat.le_of_ble_eq_true rfl) (Nat.le_of_ble_eq_true rfl) (Nat.le_of_ble_eq_true rfl) ?_
  refine zr_iload_n hX dX6_lightBy_7 rfl rfl ?_
  refine zr_iconst hX dX6_lightBy_8 (zrl rfl) ?_
  refine zr_ixor hX dX6_lightBy_9 ?_
  refine zr_iand hX dX6_lightBy_10 ?_
  refine zP_bind h (fun q2 hq2 h => ?_)
  refine zr_callS hX dX6_lightBy_11 (m_M_ones hq2) rfl (z4 ww_1087 ww_1088 ww_77 ww_1089) hy_X6_ones rfl (Nat.le_of_ble_eq_true rfl) (Nat.le_of_ble_eq_true rfl) (Nat.le_of_ble_eq_true rfl) ?_
  refine zr_aload_n hX dX6_lightBy_14 rfl rfl ?_
  refine zr_iload_n hX dX6_lightBy_15 rfl rfl ?_
  refine zr_iload_n hX dX6_lightBy_16 rfl rfl ?_
  refine zP_bind h (fun q3 hq3 h => ?_)
  refine zr_callV hX dX6_lightBy_17 (m_M_lampsOver hq3) rfl rfl rfl (z5 ww_1090 ww_1092 ww_45 ww_77 ww_1093) hy_X6_lampsOver rfl (Nat.le_of_ble_eq_true rfl) (Nat.le_of_ble_eq_true rfl) (Nat.le_of_ble_eq_true rfl) ?_
  refine zr_iadd hX dX6_lightBy_20 ?_
  refine zr_callS hX dX6_lightBy_21 (m_M_lesser) rfl (z4 ww_1094 ww_1095 ww_77 ww_1096) hy_X6_lesser rfl (Nat.le_of_ble_eq_true rfl) (Nat.le_of_ble_eq_true rfl) (Nat.le_of_ble_eq_true rfl) ?_
  exact zr_iret hX dX6_lightBy_24 hF h
set_option maxRecDepth 100000 in
theorem m_M_lightBy {l : Launch} {G : zG} {v1 : Int} {v2 : Int} {v3 : Int} {μ : zM} {q : Int} (hq : f_M_lightBy v1 v2 v3 μ = some q) : zCT l G yX6_lightBy cX6_lightBy 4 (some .int) 4 [zR 42, zI v1, zI v2, zI v3] μ (some (zI q)) μ := by
  refine zMet (lv := [some (zR 42), some (zI v1), some (zI v2), some (zI v3)]) (k := 0) pl_X6 rfl (Nat.le_of_ble_eq_true rfl) (fun X hl hX hF _ _ => ?_)
  exact w_M_lightBy_e hX hF (zP_of hq rfl)
set_option maxRecDepth 100000 in
set_option maxHeartbeats 4000000 in
theorem w_M_lightOf_e {X : zX} {G : zG} {v1 : Int} {μ : zM} {rv : Option zV} {ν : zM} (hX : zOk X G cX6_lightOf RX6 2 (some .int) 5) (hF : zFin X G rv ν) (h : zP (fun r : Int => (some (zI r), μ) = (rv, ν)) (f_M_lightOf v1 μ)) : zW X G 2 0 [some (zR 42), some (zI v1)] [] μ := by
  refine zr_aload_n hX dX6_lightOf_0 rfl rfl ?_
  refine zr_aload_n hX dX6_lightOf_1 rfl rfl ?_
  refine zr_iload_n hX dX6_lightOf_2 rfl rfl ?_
  refine zP_bind h (fun q1 hq1 h => ?_)
  refine zr_callV hX dX6_lightOf_3 (m_M_towerOf hq1) rfl rfl rfl (z5 ww_1027 ww_1029 ww_33 ww_77 ww_1030) hy_X6_towerOf rfl (Nat.le_of_ble_eq_true rfl) (Nat.le_of_ble_eq_true rfl) (Nat.le_of_ble_eq_true rfl) ?_
  refine zr_aload_n hX dX6_lightOf_6 rfl rfl ?_
  refine zr_iload_n hX dX6_lightOf_7 rfl rfl ?_
  refine zP_bind h (fun q2 hq2 h => ?_)
  refine zr_callV hX dX6_lightOf_8 (m_M_storeyOf hq2) rfl rfl rfl (z5 ww_1031 ww_1033 ww_34 ww_77 ww_1034) hy_X6_storeyOf rfl (Nat.le_of_ble_eq_true rfl) (Nat.le_of_ble_eq_true rfl) (Nat.le_of_ble_eq_true rfl) ?_
  refine zr_iconst hX dX6_lightOf_11 (zrl rfl) ?_
  refine zP_bind h (fun q3 hq3 h => ?_)
  refine zr_callV hX dX6_lightOf_12 (m_M_lightBy hq3) rfl rfl rfl (z5 ww_1079 ww_1081 ww_43 ww_77 ww_1082) hy_X6_lightBy rfl (Nat.le_of_ble_eq_true rfl) (Nat.le_of_ble_eq_true rfl) (Nat.le_of_ble_eq_true rfl) ?_
  exact zr_iret hX dX6_lightOf_15 hF h
set_option maxRecDepth 100000 in
theorem m_M_lightOf {l : Launch} {G : zG} {v1 : Int} {μ : zM} {q : Int} (hq : f_M_lightOf v1 μ = some q) : zCT l G yX6_lightOf cX6_lightOf 2 (some .int) 5 [zR 42, zI v1] μ (some (zI q)) μ := by
  refine zMet (lv := [some (zR 42), some (zI v1)]) (k := 0) pl_X6 rfl (Nat.le_of_ble_eq_true rfl) (fun X hl hX hF _ _ => ?_)
  exact w_M_lightOf_e hX hF (zP_of hq rfl)
def k_M_allLight (X : zX) (G : zG) (μ : zM) : (Int × Int) → Prop := fun s => zW X G 3 4 [some (zR 42), some (zI s.1), some (zI s.2)] [] μ
theorem k_M_allLight_4 {X : zX} {G : zG} {μ : zM} {F : Int → Prop} {v1 v2 : Int} (h : zP (Sum.elim (k_M_allLight X G μ) F) (some (.inl ((v1, v2))))) : zW X G 3 4 [some (zR 42), some (zI v1), some (zI v2)] [] μ := h
set_option maxRecDepth 100000 in
set_option maxHeartbeats 4000000 in
theorem w_M_allLight_4 {X : zX} {G : zG} {μ : zM} {rv : Option zV} {ν : zM} (hX : zOk X G cX6_allLight RX6 3 (some .int) 6) (hF : zFin X G rv ν) {v1 v2 : Int} (h : zP (Sum.elim (k_M_allLight X G μ) (fun r : Int => (some (zI r), μ) = (rv, ν))) (b_M_allLight_4 v1 v2 μ)) : zW X G 3 4 [some (zR 42), some (zI v1), some (zI v2)] [] μ := by
  refine zr_iload_n hX dX6_allLight_4 rfl rfl ?_
  refine zr_aload_n hX dX6_allLight_5 rfl rfl ?_
  refine zP_bind h (fun q1 hq1 h => ?_)
  refine zr_callV hX dX6_allLight_6 (m_M_houses hq1) rfl rfl rfl (z5 ww_1023 ww_1025 ww_32 ww_77 ww_1026) hy_X6_houses rfl (Nat.le_of_ble_eq_true rfl) (Nat.le_of_ble_eq_true rfl) (Nat.le_of_ble_eq_true rfl) ?_
  refine zr_icmpge (tgt := 26) hX dX6_allLight_9 rfl h (fun h => ?_) (fun h => ?_)
  · refine zr_iload_n hX dX6_allLight_26 rfl rfl ?_
    exact zr_iret hX dX6_allLight_27 hF h
  · refine zr_iload_n hX dX6_allLight_12 rfl rfl ?_
    refine zr_aload_n hX dX6_allLight_13 rfl rfl ?_
    refine zr_iload_n hX dX6_allLight_14 rfl rfl ?_
    refine zP_bind h (fun q2 hq2 h => ?_)
    refine zr_callV hX dX6_allLight_15 (m_M_lightOf hq2) rfl rfl rfl (z5 ww_1075 ww_1077 ww_42 ww_77 ww_1078) hy_X6_lightOf rfl (Nat.le_of_ble_eq_true rfl) (Nat.le_of_ble_eq_true rfl) (Nat.le_of_ble_eq_true rfl) ?_
    refine zr_iadd hX dX6_allLight_18 ?_
    refine zr_istore_n hX dX6_allLight_19 rfl (Nat.le_of_ble_eq_true rfl) ?_
    refine zr_iinc hX dX6_allLight_20 rfl (Nat.le_of_ble_eq_true rfl) ?_
    refine zr_goto hX dX6_allLight_23 (tgt := 4) rfl ?_
    exact zW_lf (k_M_allLight_4 h) (And.intro rfl (And.intro rfl (And.intro rfl trivial)))
set_option maxRecDepth 100000 in
set_option maxHeartbeats 4000000 in
theorem w_M_allLight_e {X : zX} {G : zG} {μ : zM} {rv : Option zV} {ν : zM} (hX : zOk X G cX6_allLight RX6 3 (some .int) 6) (hF : zFin X G rv ν) (h : zP (Sum.elim (k_M_allLight X G μ) (fun r : Int => (some (zI r), μ) = (rv, ν))) (e_M_allLight μ)) : zW X G 3 0 [some (zR 42), none, none] [] μ := by
  refine zr_iconst hX dX6_allLight_0 (zrl rfl) ?_
  refine zr_istore_n hX dX6_allLight_1 rfl (Nat.le_of_ble_eq_true rfl) ?_
  refine zr_iconst hX dX6_allLight_2 (zrl rfl) ?_
  refine zr_istore_n hX dX6_allLight_3 rfl (Nat.le_of_ble_eq_true rfl) ?_
  exact zW_lf (k_M_allLight_4 h) (And.intro rfl (And.intro rfl (And.intro rfl trivial)))
set_option maxRecDepth 100000 in
theorem m_M_allLight {l : Launch} {G : zG} {μ : zM} {q : Int} (hq : f_M_allLight μ = some q) : zCT l G yX6_allLight cX6_allLight 3 (some .int) 6 [zR 42] μ (some (zI q)) μ := by
  refine zMet (lv := [some (zR 42), none, none]) (k := 2) pl_X6 rfl (Nat.le_of_ble_eq_true rfl) (fun X hl hX hF _ _ => ?_)
  refine w_M_allLight_e hX hF (zgo_K (r := q) (step := t_M_allLight μ) (fun s h => ?_) rfl hq)
  exact w_M_allLight_4 hX hF h
def k_M_layLamps (X : zX) (G : zG) : ((Int × zM) ⊕ (Int × zM) ⊕ (Int × Int × Int × Int × Int × zM)) → Prop := fun s => match s with
  | .inl (s) => zW X G 7 2 [some (zR 42), some (zI s.1), none, none, none, none, none] [] s.2
  | .inr (.inl (s)) => zW X G 7 24 [some (zR 42), some (zI s.1), none, none, none, none, none] [] s.2
  | .inr (.inr (s)) => zW X G 7 78 [some (zR 42), some (zI s.1), some (zI s.2.1), some (zI s.2.2.1), some (zI s.2.2.2.1), some (zI s.2.2.2.2.1), none] [] s.2.2.2.2.2
theorem k_M_layLamps_2 {X : zX} {G : zG} {F : zM → Prop} {v1 : Int} {κ : zM} (h : zP (Sum.elim (k_M_layLamps X G) F) (some (.inl (.inl ((v1, κ)))))) : zW X G 7 2 [some (zR 42), some (zI v1), none, none, none, none, none] [] κ := h
theorem k_M_layLamps_24 {X : zX} {G : zG} {F : zM → Prop} {v1 : Int} {κ : zM} (h : zP (Sum.elim (k_M_layLamps X G) F) (some (.inl (.inr (.inl ((v1, κ))))))) : zW X G 7 24 [some (zR 42), some (zI v1), none, none, none, none, none] [] κ := h
theorem k_M_layLamps_78 {X : zX} {G : zG} {F : zM → Prop} {v1 v2 v3 v4 v5 : Int} {κ : zM} (h : zP (Sum.elim (k_M_layLamps X G) F) (some (.inl (.inr (.inr ((v1, v2, v3, v4, v5, κ))))))) : zW X G 7 78 [some (zR 42), some (zI v1), some (zI v2), some (zI v3), some (zI v4), some (zI v5), none] [] κ := h
set_option maxRecDepth 100000 in
set_option maxHeartbeats 4000000 in
theorem w_M_layLamps_116 {X : zX} {G : zG} {μ : zM} {rv : Option zV} {ν : zM} (hX : zOk X G cX6_layLamps RX6 7 none 3) (hF : zFin X G rv ν) {v1 v2 v3 v4 v5 v6 w1 : Int} (h : zP (Sum.elim (k_M_layLamps X G) (fun r : zM => ((none : Option zV), r) = (rv, ν))) (j_M_layLamps_116 v1 v2 v3 v4 v5 v6 w1 μ)) : zW X G 7 116 [some (zR 42), some (zI v1), some (zI v2), some (zI v3), some (zI v4), some (zI v5), some (zI v6)] [zI w1, zR 51] μ := by
  refine zr_dup2 hX dX6_layLamps_116 rfl rfl ?_
  refine zr_iald (N := 144) hX dX6_layLamps_117 rfl rfl h (fun h => ?_)
  refine zr_iload hX dX6_layLamps_118 rfl ?_
  refine zr_bipush hX dX6_layLamps_120 rfl ?_
  refine zr_icmpne (tgt := 129) hX dX6_layLamps_122 rfl h (fun h => ?_) (fun h => ?_)
  · refine zr_iload hX dX6_layLamps_129 rfl ?_
    refine zr_iadd hX dX6_layLamps_131 ?_
    refine zr_iast (N := 144) hX dX6_layLamps_132 rfl rfl h (fun h => ?_)
    refine zr_iinc hX dX6_layLamps_133 rfl (Nat.le_of_ble_eq_true rfl) ?_
    refine zr_goto hX dX6_layLamps_136 (tgt := 78) rfl ?_
    exact zW_lf (k_M_layLamps_78 h) (And.intro rfl (And.intro rfl (And.intro rfl (And.intro rfl (And.intro rfl (And.intro rfl trivial))))))
  · refine zr_iconst hX dX6_layLamps_125 (zrl rfl) ?_
    refine zr_goto hX dX6_layLamps_126 (tgt := 131) rfl ?_
    refine zr_iadd hX dX6_layLamps_131 ?_
    refine zr_iast (N := 144) hX dX6_layLamps_132 rfl rfl h (fun h => ?_)
    refine zr_iinc hX dX6_layLamps_133 rfl (Nat.le_of_ble_eq_true rfl) ?_
    refine zr_goto hX dX6_layLamps_136 (tgt := 78) rfl ?_
    exact zW_lf (k_M_layLamps_78 h) (And.intro rfl (And.intro rfl (And.intro rfl (And.intro rfl (And.intro rfl (And.intro rfl trivial))))))
set_option maxRecDepth 100000 in
set_option maxHeartbeats 4000000 in
theorem w_M_layLamps_2 {X : zX} {G : zG} {μ : zM} {rv : Option zV} {ν : zM} (hX : zOk X G cX6_layLamps RX6 7 none 3) (hF : zFin X G rv ν) {v1 : Int} (h : zP (Sum.elim (k_M_layLamps X G) (fun r : zM => ((none : Option zV), r) = (rv, ν))) (b_M_layLamps_2 v1 μ)) : zW X G 7 2 [some (zR 42), some (zI v1), none, none, none, none, none] [] μ := by
  refine zr_iload_n hX dX6_layLamps_2 rfl rfl ?_
  refine zr_sipush hX dX6_layLamps_3 rfl ?_
  refine zr_icmpge (tgt := 22) hX dX6_layLamps_6 rfl h (fun h => ?_) (fun h => ?_)
  · refine zr_iconst hX dX6_layLamps_22 (zrl rfl) ?_
    refine zr_istore_n hX dX6_layLamps_23 rfl (Nat.le_of_ble_eq_true rfl) ?_
    exact zW_lf (k_M_layLamps_24 h) (And.intro rfl (And.intro rfl trivial))
  · refine zr_aload_n hX dX6_layLamps_9 rfl rfl ?_
    refine zr_getr hX dX6_layLamps_10 (k := 13) (q := 51) rfl rfl ww_864 rfl ?_
    refine zr_iload_n hX dX6_layLamps_13 rfl rfl ?_
    refine zr_iconst hX dX6_layLamps_14 (zrl rfl) ?_
    refine zr_iast (N := 144) hX dX6_layLamps_15 rfl rfl h (fun h => ?_)
    refine zr_iinc hX dX6_layLamps_16 rfl (Nat.le_of_ble_eq_true rfl) ?_
    refine zr_goto hX dX6_layLamps_19 (tgt := 2) rfl ?_
    exact zW_lf (k_M_layLamps_2 h) (And.intro rfl (And.intro rfl trivial))
set_option maxRecDepth 100000 in
set_option maxHeartbeats 4000000 in
theorem w_M_layLamps_24 {X : zX} {G : zG} {μ : zM} {rv : Option zV} {ν : zM} (hX : zOk X G cX6_layLamps RX6 7 none 3) (hF : zFin X G rv ν) {v1 : Int} (h : zP (Sum.elim (k_M_layLamps X G) (fun r : zM => ((none : Option zV), r) = (rv, ν))) (b_M_layLamps_24 v1 μ)) : zW X G 7 24 [some (zR 42), some (zI v1), none, none, none, none, none] [] μ := by
  refine zr_iload_n hX dX6_layLamps_24 rfl rfl ?_
  refine zr_aload_n hX dX6_layLamps_25 rfl rfl ?_
  refine zP_bind h (fun q1 hq1 h => ?_)
  refine zr_callV hX dX6_layLamps_26 (m_M_houses hq1) rfl rfl rfl (z5 ww_1023 ww_1025 ww_32 ww_77 ww_1026) hy_X6_houses rfl (Nat.le_of_ble_eq_true rfl) (Nat.le_of_ble_eq_true rfl) (Nat.le_of_ble_eq_true rfl) ?_
  refine zr_icmpge (tgt := 145) hX dX6_layLamps_29 rfl h (fun h => ?_) (fun h => ?_)
  · exact zr_vret hX dX6_layLamps_145 hF h
  · refine zr_aload_n hX dX6_layLamps_32 rfl rfl ?_
    refine zr_iload_n hX dX6_layLamps_33 rfl rfl ?_
    refine zP_bind h (fun q2 hq2 h => ?_)
    refine zr_callV hX dX6_layLamps_34 (m_M_towerOf hq2) rfl rfl rfl (z5 ww_1027 ww_1029 ww_33 ww_77 ww_1030) hy_X6_towerOf rfl (Nat.le_of_ble_eq_true rfl) (Nat.le_of_ble_eq_true rfl) (Nat.le_of_ble_eq_true rfl) ?_
    refine zr_istore_n hX dX6_layLamps_37 rfl (Nat.le_of_ble_eq_true rfl) ?_
    refine zr_aload_n hX dX6_layLamps_38 rfl rfl ?_
    refine zr_iload_n hX dX6_layLamps_39 rfl rfl ?_
    refine zP_bind h (fun q3 hq3 h => ?_)
    refine zr_callV hX dX6_layLamps_40 (m_M_storeyOf hq3) rfl rfl rfl (z5 ww_1031 ww_1033 ww_34 ww_77 ww_1034) hy_X6_storeyOf rfl (Nat.le_of_ble_eq_true rfl) (Nat.le_of_ble_eq_true rfl) (Nat.le_of_ble_eq_true rfl) ?_
    refine zr_istore_n hX dX6_layLamps_43 rfl (Nat.le_of_ble_eq_true rfl) ?_
    refine zr_aload_n hX dX6_layLamps_44 rfl rfl ?_
    refine zr_iload_n hX dX6_layLamps_45 rfl rfl ?_
    refine zr_iload_n hX dX6_layLamps_46 rfl rfl ?_
    refine zP_bind h (fun q4 hq4 h => ?_)
    refine zr_callV hX dX6_layLamps_47 (m_M_kindAt hq4) rfl rfl rfl (z5 ww_1039 ww_1041 ww_36 ww_77 ww_1042) hy_X6_kindAt rfl (Nat.le_of_ble_eq_true rfl) (Nat.le_of_ble_eq_true rfl) (Nat.le_of_ble_eq_true rfl) ?_
    refine zr_iconst hX dX6_layLamps_50 (zrl rfl) ?_
    refine zr_icmpne (tgt := 58) hX dX6_layLamps_51 rfl h (fun h => ?_) (fun h => ?_)
    · refine zr_aload_n hX dX6_layLamps_58 rfl rfl ?_
      refine zr_iload_n hX dX6_layLamps_59 rfl rfl ?_
      refine zr_iload_n hX dX6_layLamps_60 rfl rfl ?_
      refine zP_bind h (fun q5 hq5 h => ?_)
      refine zr_callV hX dX6_layLamps_61 (m_M_kindAt hq5) rfl rfl rfl (z5 ww_1039 ww_1041 ww_36 ww_77 ww_1042) hy_X6_kindAt rfl (Nat.le_of_ble_eq_true rfl) (Nat.le_of_ble_eq_true rfl) (Nat.le_of_ble_eq_true rfl) ?_
      refine zr_iconst hX dX6_layLamps_64 (zrl rfl) ?_
      refine zr_icmpne (tgt := 72) hX dX6_layLamps_65 rfl h (fun h => ?_) (fun h => ?_)
      · refine zr_iconst hX dX6_layLamps_72 (zrl rfl) ?_
        refine zr_istore hX dX6_layLamps_73 (Nat.le_of_ble_eq_true rfl) ?_
        refine zr_iconst hX dX6_layLamps_75 (zrl rfl) ?_
        refine zr_istore hX dX6_layLamps_76 (Nat.le_of_ble_eq_true rfl) ?_
        exact zW_lf (k_M_layLamps_78 h) (And.intro rfl (And.intro rfl (And.intro rfl (And.intro rfl (And.intro rfl (And.intro rfl trivial))))))
      · refine zr_iconst hX dX6_layLamps_68 (zrl rfl) ?_
        refine zr_goto hX dX6_layLamps_69 (tgt := 73) rfl ?_
        refine zr_istore hX dX6_layLamps_73 (Nat.le_of_ble_eq_true rfl) ?_
        refine zr_iconst hX dX6_layLamps_75 (zrl rfl) ?_
        refine zr_istore hX dX6_layLamps_76 (Nat.le_of_ble_eq_true rfl) ?_
        exact zW_lf (k_M_layLamps_78 h) (And.intro rfl (And.intro rfl (And.intro rfl (And.intro rfl (And.intro rfl (And.intro rfl trivial))))))
    · refine zr_iconst hX dX6_layLamps_54 (zrl rfl) ?_
      refine zr_goto hX dX6_layLamps_55 (tgt := 73) rfl ?_
      refine zr_istore hX dX6_layLamps_73 (Nat.le_of_ble_eq_true rfl) ?_
      refine zr_iconst hX dX6_layLamps_75 (zrl rfl) ?_
      refine zr_istore hX dX6_layLamps_76 (Nat.le_of_ble_eq_true rfl) ?_
      exact zW_lf (k_M_layLamps_78 h) (And.intro rfl (And.intro rfl (And.intro rfl (And.intro rfl (And.intro rfl (And.intro rfl trivial))))))
set_option maxRecDepth 100000 in
set_option maxHeartbeats 4000000 in
theorem w_M_layLamps_78 {X : zX} {G : zG} {μ : zM} {rv : Option zV} {ν : zM} (hX : zOk X G cX6_layLamps RX6 7 none 3) (hF : zFin X G rv ν) {v1 v2 v3 v4 v5 : Int} (h : zP (Sum.elim (k_M_layLamps X G) (fun r : zM => ((none : Option zV), r) = (rv, ν))) (b_M_layLamps_78 v1 v2 v3 v4 v5 μ)) : zW X G 7 78 [some (zR 42), some (zI v1), some (zI v2), some (zI v3), some (zI v4), some (zI v5), none] [] μ := by
  refine zr_iload hX dX6_layLamps_78 rfl ?_
  refine zr_iconst hX dX6_layLamps_80 (zrl rfl) ?_
  refine zr_icmpge (tgt := 139) hX dX6_layLamps_81 rfl h (fun h => ?_) (fun h => ?_)
  · refine zr_iinc hX dX6_layLamps_139 rfl (Nat.le_of_ble_eq_true rfl) ?_
    refine zr_goto hX dX6_layLamps_142 (tgt := 24) rfl ?_
    exact zW_lf (k_M_layLamps_24 h) (And.intro rfl (And.intro rfl trivial))
  · refine zr_aload_n hX dX6_layLamps_84 rfl rfl ?_
    refine zr_iload_n hX dX6_layLamps_85 rfl rfl ?_
    refine zr_iload_n hX dX6_layLamps_86 rfl rfl ?_
    refine zr_iload hX dX6_layLamps_87 rfl ?_
    refine zP_bind h (fun q6 hq6 h => ?_)
    refine zr_callV hX dX6_layLamps_89 (m_M_shader hq6) rfl rfl rfl (z5 ww_1043 ww_1045 ww_37 ww_77 ww_1046) hy_X6_shader rfl (Nat.le_of_ble_eq_true rfl) (Nat.le_of_ble_eq_true rfl) (Nat.le_of_ble_eq_true rfl) ?_
    refine zr_istore hX dX6_layLamps_92 (Nat.le_of_ble_eq_true rfl) ?_
    refine zr_aload_n hX dX6_layLamps_94 rfl rfl ?_
    refine zr_getr hX dX6_layLamps_95 (k := 13) (q := 51) rfl rfl ww_864 rfl ?_
    refine zr_iload hX dX6_layLamps_98 rfl ?_
    refine zr_bipush hX dX6_layLamps_100 rfl ?_
    refine zr_icmpne (tgt := 109) hX dX6_layLamps_102 rfl h (fun h => ?_) (fun h => ?_)
    · refine zr_bipush hX dX6_layLamps_109 rfl ?_
      refine zr_iload hX dX6_layLamps_111 rfl ?_
      refine zr_imul hX dX6_layLamps_113 ?_
      refine zr_iload_n hX dX6_layLamps_114 rfl rfl ?_
      refine zr_iadd hX dX6_layLamps_115 ?_
      exact zW_lf (w_M_layLamps_116 hX hF h) (And.intro rfl (And.intro rfl (And.intro rfl (And.intro rfl (And.intro rfl (And.intro rfl (And.intro rfl trivial)))))))
    · refine zr_iconst hX dX6_layLamps_105 (zrl rfl) ?_
      refine zr_goto hX dX6_layLamps_106 (tgt := 116) rfl ?_
      exact zW_lf (w_M_layLamps_116 hX hF h) (And.intro rfl (And.intro rfl (And.intro rfl (And.intro rfl (And.intro rfl (And.intro rfl (And.intro rfl trivial)))))))
set_option maxRecDepth 100000 in
set_option maxHeartbeats 4000000 in
theorem w_M_layLamps_e {X : zX} {G : zG} {μ : zM} {rv : Option zV} {ν : zM} (hX : zOk X G cX6_layLamps RX6 7 none 3) (hF : zFin X G rv ν) (h : zP (Sum.elim (k_M_layLamps X G) (fun r : zM => ((none : Option zV), r) = (rv, ν))) (e_M_layLamps μ)) : zW X G 7 0 [some (zR 42), none, none, none, none, none, none] [] μ := by
  refine zr_iconst hX dX6_layLamps_0 (zrl rfl) ?_
  refine zr_istore_n hX dX6_layLamps_1 rfl (Nat.le_of_ble_eq_true rfl) ?_
  exact zW_lf (k_M_layLamps_2 h) (And.intro rfl (And.intro rfl trivial))
set_option maxRecDepth 100000 in
theorem m_M_layLamps {l : Launch} {G : zG} {μ : zM} {q : zM} (hq : f_M_layLamps μ = some q) : zCT l G yX6_layLamps cX6_layLamps 7 none 3 [zR 42] μ (none) q := by
  refine zMet (lv := [some (zR 42), none, none, none, none, none, none]) (k := 6) pl_X6 rfl (Nat.le_of_ble_eq_true rfl) (fun X hl hX hF _ _ => ?_)
  refine w_M_layLamps_e hX hF (zgo_K (r := q) (step := t_M_layLamps) (fun s h => ?_) rfl hq)
  cases s with
  | inl s => exact w_M_layLamps_2 hX hF h
  | inr s =>
    cases s with
    | inl s => exact w_M_layLamps_24 hX hF h
    | inr s => exact w_M_layLamps_78 hX hF h
def k_M_owesAll (X : zX) (G : zG) (v1 : Int) (μ : zM) : (Int × Int) → Prop := fun s => zW X G 4 4 [some (zR 42), some (zI v1), some (zI s.1), some (zI s.2)] [] μ
theorem k_M_owesAll_4 {X : zX} {G : zG} {v1 : Int} {μ : zM} {F : Int → Prop} {v2 v3 : Int} (h : zP (Sum.elim (k_M_owesAll X G v1 μ) F) (some (.inl ((v2, v3))))) : zW X G 4 4 [some (zR 42), some (zI v1), some (zI v2), some (zI v3)] [] μ := h
set_option maxRecDepth 100000 in
set_option maxHeartbeats 4000000 in
theorem w_M_owesAll_4 {X : zX} {G : zG} {v1 : Int} {μ : zM} {rv : Option zV} {ν : zM} (hX : zOk X G cX6_owesAll RX6 4 (some .int) 1) (hF : zFin X G rv ν) {v2 v3 : Int} (h : zP (Sum.elim (k_M_owesAll X G v1 μ) (fun r : Int => (some (zI r), μ) = (rv, ν))) (b_M_owesAll_4 v1 v2 v3 μ)) : zW X G 4 4 [some (zR 42), some (zI v1), some (zI v2), some (zI v3)] [] μ := by
  refine zr_iload_n hX dX6_owesAll_4 rfl rfl ?_
  refine zr_bipush hX dX6_owesAll_5 rfl ?_
  refine zr_icmpge (tgt := 30) hX dX6_owesAll_7 rfl h (fun h => ?_) (fun h => ?_)
  · refine zr_iload_n hX dX6_owesAll_30 rfl rfl ?_
    exact zr_iret hX dX6_owesAll_31 hF h
  · refine zr_iload_n hX dX6_owesAll_10 rfl rfl ?_
    refine zr_aload_n hX dX6_owesAll_11 rfl rfl ?_
    refine zr_getr hX dX6_owesAll_12 (k := 13) (q := 51) rfl rfl ww_864 rfl ?_
    refine zr_bipush hX dX6_owesAll_15 rfl ?_
    refine zr_iload_n hX dX6_owesAll_17 rfl rfl ?_
    refine zr_imul hX dX6_owesAll_18 ?_
    refine zr_iload_n hX dX6_owesAll_19 rfl rfl ?_
    refine zr_iadd hX dX6_owesAll_20 ?_
    refine zr_iald (N := 144) hX dX6_owesAll_21 rfl rfl h (fun h => ?_)
    refine zr_iadd hX dX6_owesAll_22 ?_
    refine zr_istore_n hX dX6_owesAll_23 rfl (Nat.le_of_ble_eq_true rfl) ?_
    refine zr_iinc hX dX6_owesAll_24 rfl (Nat.le_of_ble_eq_true rfl) ?_
    refine zr_goto hX dX6_owesAll_27 (tgt := 4) rfl ?_
    exact zW_lf (k_M_owesAll_4 h) (And.intro rfl (And.intro rfl (And.intro rfl (And.intro rfl trivial))))
set_option maxRecDepth 100000 in
set_option maxHeartbeats 4000000 in
theorem w_M_owesAll_e {X : zX} {G : zG} {v1 : Int} {μ : zM} {rv : Option zV} {ν : zM} (hX : zOk X G cX6_owesAll RX6 4 (some .int) 1) (hF : zFin X G rv ν) (h : zP (Sum.elim (k_M_owesAll X G v1 μ) (fun r : Int => (some (zI r), μ) = (rv, ν))) (e_M_owesAll v1 μ)) : zW X G 4 0 [some (zR 42), some (zI v1), none, none] [] μ := by
  refine zr_iconst hX dX6_owesAll_0 (zrl rfl) ?_
  refine zr_istore_n hX dX6_owesAll_1 rfl (Nat.le_of_ble_eq_true rfl) ?_
  refine zr_iconst hX dX6_owesAll_2 (zrl rfl) ?_
  refine zr_istore_n hX dX6_owesAll_3 rfl (Nat.le_of_ble_eq_true rfl) ?_
  exact zW_lf (k_M_owesAll_4 h) (And.intro rfl (And.intro rfl (And.intro rfl (And.intro rfl trivial))))
set_option maxRecDepth 100000 in
theorem m_M_owesAll {l : Launch} {G : zG} {v1 : Int} {μ : zM} {q : Int} (hq : f_M_owesAll v1 μ = some q) : zCT l G yX6_owesAll cX6_owesAll 4 (some .int) 1 [zR 42, zI v1] μ (some (zI q)) μ := by
  refine zMet (lv := [some (zR 42), some (zI v1), none, none]) (k := 2) pl_X6 rfl (Nat.le_of_ble_eq_true rfl) (fun X hl hX hF _ _ => ?_)
  refine w_M_owesAll_e hX hF (zgo_K (r := q) (step := t_M_owesAll v1 μ) (fun s h => ?_) rfl hq)
  exact w_M_owesAll_4 hX hF h
def k_M_owedAll (X : zX) (G : zG) (v1 : Int) (μ : zM) : (Int × Int) → Prop := fun s => zW X G 4 4 [some (zR 42), some (zI v1), some (zI s.1), some (zI s.2)] [] μ
theorem k_M_owedAll_4 {X : zX} {G : zG} {v1 : Int} {μ : zM} {F : Int → Prop} {v2 v3 : Int} (h : zP (Sum.elim (k_M_owedAll X G v1 μ) F) (some (.inl ((v2, v3))))) : zW X G 4 4 [some (zR 42), some (zI v1), some (zI v2), some (zI v3)] [] μ := h
set_option maxRecDepth 100000 in
set_option maxHeartbeats 4000000 in
theorem w_M_owedAll_4 {X : zX} {G : zG} {v1 : Int} {μ : zM} {rv : Option zV} {ν : zM} (hX : zOk X G cX6_owedAll RX6 4 (some .int) 1) (hF : zFin X G rv ν) {v2 v3 : Int} (h : zP (Sum.elim (k_M_owedAll X G v1 μ) (fun r : Int => (some (zI r), μ) = (rv, ν))) (b_M_owedAll_4 v1 v2 v3 μ)) : zW X G 4 4 [some (zR 42), some (zI v1), some (zI v2), some (zI v3)] [] μ := by
  refine zr_iload_n hX dX6_owedAll_4 rfl rfl ?_
  refine zr_bipush hX dX6_owedAll_5 rfl ?_
  refine zr_icmpge (tgt := 30) hX dX6_owedAll_7 rfl h (fun h => ?_) (fun h => ?_)
  · refine zr_iload_n hX dX6_owedAll_30 rfl rfl ?_
    exact zr_iret hX dX6_owedAll_31 hF h
  · refine zr_iload_n hX dX6_owedAll_10 rfl rfl ?_
    refine zr_aload_n hX dX6_owedAll_11 rfl rfl ?_
    refine zr_getr hX dX6_owedAll_12 (k := 13) (q := 51) rfl rfl ww_864 rfl ?_
    refine zr_bipush hX dX6_owedAll_15 rfl ?_
    refine zr_iload_n hX dX6_owedAll_17 rfl rfl ?_
    refine zr_imul hX dX6_owedAll_18 ?_
    refine zr_iload_n hX dX6_owedAll_19 rfl rfl ?_
    refine zr_iadd hX dX6_owedAll_20 ?_
    refine zr_iald (N := 144) hX dX6_owedAll_21 rfl rfl h (fun h => ?_)
    refine zr_iadd hX dX6_owedAll_22 ?_
    refine zr_istore_n hX dX6_owedAll_23 rfl (Nat.le_of_ble_eq_true rfl) ?_
    refine zr_iinc hX dX6_owedAll_24 rfl (Nat.le_of_ble_eq_true rfl) ?_
    refine zr_goto hX dX6_owedAll_27 (tgt := 4) rfl ?_
    exact zW_lf (k_M_owedAll_4 h) (And.intro rfl (And.intro rfl (And.intro rfl (And.intro rfl trivial))))
set_option maxRecDepth 100000 in
set_option maxHeartbeats 4000000 in
theorem w_M_owedAll_e {X : zX} {G : zG} {v1 : Int} {μ : zM} {rv : Option zV} {ν : zM} (hX : zOk X G cX6_owedAll RX6 4 (some .int) 1) (hF : zFin X G rv ν) (h : zP (Sum.elim (k_M_owedAll X G v1 μ) (fun r : Int => (some (zI r), μ) = (rv, ν))) (e_M_owedAll v1 μ)) : zW X G 4 0 [some (zR 42), some (zI v1), none, none] [] μ := by
  refine zr_iconst hX dX6_owedAll_0 (zrl rfl) ?_
  refine zr_istore_n hX dX6_owedAll_1 rfl (Nat.le_of_ble_eq_true rfl) ?_
  refine zr_iconst hX dX6_owedAll_2 (zrl rfl) ?_
  refine zr_istore_n hX dX6_owedAll_3 rfl (Nat.le_of_ble_eq_true rfl) ?_
  exact zW_lf (k_M_owedAll_4 h) (And.intro rfl (And.intro rfl (And.intro rfl (And.intro rfl trivial))))
set_option maxRecDepth 100000 in
theorem m_M_owedAll {l : Launch} {G : zG} {v1 : Int} {μ : zM} {q : Int} (hq : f_M_owedAll v1 μ = some q) : zCT l G yX6_owedAll cX6_owedAll 4 (some .int) 1 [zR 42, zI v1] μ (some (zI q)) μ := by
  refine zMet (lv := [some (zR 42), some (zI v1), none, none]) (k := 2) pl_X6 rfl (Nat.le_of_ble_eq_true rfl) (fun X hl hX hF _ _ => ?_)
  refine w_M_owedAll_e hX hF (zgo_K (r := q) (step := t_M_owedAll v1 μ) (fun s h => ?_) rfl hq)
  exact w_M_owedAll_4 hX hF h
def k_M_allLamps (X : zX) (G : zG) : (Int × Int × zM) → Prop := fun s => zW X G 3 8 [some (zR 42), some (zI s.1), some (zI s.2.1)] [] s.2.2
theorem k_M_allLamps_8 {X : zX} {G : zG} {F : (Int × zM) → Prop} {v1 v2 : Int} {κ : zM} (h : zP (Sum.elim (k_M_allLamps X G) F) (some (.inl ((v1, v2, κ))))) : zW X G 3 8 [some (zR 42), some (zI v1), some (zI v2)] [] κ := h
set_option maxRecDepth 100000 in
set_option maxHeartbeats 4000000 in
theorem w_M_allLamps_8 {X : zX} {G : zG} {μ : zM} {rv : Option zV} {ν : zM} (hX : zOk X G cX6_allLamps RX6 3 (some .int) 4) (hF : zFin X G rv ν) {v1 v2 : Int} (h : zP (Sum.elim (k_M_allLamps X G) (fun r : (Int × zM) => (some (zI r.1), r.2) = (rv, ν))) (b_M_allLamps_8 v1 v2 μ)) : zW X G 3 8 [some (zR 42), some (zI v1), some (zI v2)] [] μ := by
  refine zr_iload_n hX dX6_allLamps_8 rfl rfl ?_
  refine zr_sipush hX dX6_allLamps_9 rfl ?_
  refine zr_icmpge (tgt := 30) hX dX6_allLamps_12 rfl h (fun h => ?_) (fun h => ?_)
  · refine zr_iload_n hX dX6_allLamps_30 rfl rfl ?_
    exact zr_iret hX dX6_allLamps_31 hF h
  · refine zr_iload_n hX dX6_allLamps_15 rfl rfl ?_
    refine zr_aload_n hX dX6_allLamps_16 rfl rfl ?_
    refine zr_getr hX dX6_allLamps_17 (k := 13) (q := 51) rfl rfl ww_864 rfl ?_
    refine zr_iload_n hX dX6_allLamps_20 rfl rfl ?_
    refine zr_iald (N := 144) hX dX6_allLamps_21 rfl rfl h (fun h => ?_)
    refine zr_iadd hX dX6_allLamps_22 ?_
    refine zr_istore_n hX dX6_allLamps_23 rfl (Nat.le_of_ble_eq_true rfl) ?_
    refine zr_iinc hX dX6_allLamps_24 rfl (Nat.le_of_ble_eq_true rfl) ?_
    refine zr_goto hX dX6_allLamps_27 (tgt := 8) rfl ?_
    exact zW_lf (k_M_allLamps_8 h) (And.intro rfl (And.intro rfl (And.intro rfl trivial)))
set_option maxRecDepth 100000 in
set_option maxHeartbeats 4000000 in
theorem w_M_allLamps_e {X : zX} {G : zG} {μ : zM} {rv : Option zV} {ν : zM} (hX : zOk X G cX6_allLamps RX6 3 (some .int) 4) (hF : zFin X G rv ν) (h : zP (Sum.elim (k_M_allLamps X G) (fun r : (Int × zM) => (some (zI r.1), r.2) = (rv, ν))) (e_M_allLamps μ)) : zW X G 3 0 [some (zR 42), none, none] [] μ := by
  refine zr_aload_n hX dX6_allLamps_0 rfl rfl ?_
  refine zP_bind h (fun q1 hq1 h => ?_)
  refine zr_callV hX dX6_allLamps_1 (m_M_layLamps hq1) rfl rfl rfl (z5 ww_1019 ww_1021 ww_31 ww_77 ww_1022) hy_X6_layLamps rfl (Nat.le_of_ble_eq_true rfl) (Nat.le_of_ble_eq_true rfl) (Nat.le_of_ble_eq_true rfl) ?_
  refine zr_iconst hX dX6_allLamps_4 (zrl rfl) ?_
  refine zr_istore_n hX dX6_allLamps_5 rfl (Nat.le_of_ble_eq_true rfl) ?_
  refine zr_iconst hX dX6_allLamps_6 (zrl rfl) ?_
  refine zr_istore_n hX dX6_allLamps_7 rfl (Nat.le_of_ble_eq_true rfl) ?_
  exact zW_lf (k_M_allLamps_8 h) (And.intro rfl (And.intro rfl (And.intro rfl trivial)))
set_option maxRecDepth 100000 in
theorem m_M_allLamps {l : Launch} {G : zG} {μ : zM} {q : Int × zM} (hq : f_M_allLamps μ = some q) : zCT l G yX6_allLamps cX6_allLamps 3 (some .int) 4 [zR 42] μ (some (zI q.1)) q.2 := by
  refine zMet (lv := [some (zR 42), none, none]) (k := 2) pl_X6 rfl (Nat.le_of_ble_eq_true rfl) (fun X hl hX hF _ _ => ?_)
  refine w_M_allLamps_e hX hF (zgo_K (r := q) (step := t_M_allLamps) (fun s h => ?_) rfl hq)
  exact w_M_allLamps_8 hX hF h
set_option maxRecDepth 100000 in
set_option maxHeartbeats 4000000 in
theorem w_M_houseTells_e {X : zX} {G : zG} {v1 : Int} {v2 : Int} {v3 : Int} {μ : zM} {rv : Option zV} {ν : zM} (hX : zOk X G cX6_houseTells RX6 5 (some .int) 6) (hF : zFin X G rv ν) (h : zP (fun r : Int => (some (zI r), μ) = (rv, ν)) (f_M_houseTells v1 v2 v3 μ)) : zW X G 5 0 [some (zR 42), some (zI v1), some (zI v2), some (zI v3), none] [] μ := by
  refine zr_aload_n hX dX6_houseTells_0 rfl rfl ?_
  refine zr_iload_n hX dX6_houseTells_1 rfl rfl ?_
  refine zr_iload_n hX dX6_houseTells_2 rfl rfl ?_
  refine zP_bind h (fun q1 hq1 h => ?_)
  refine zr_callV hX dX6_houseTells_3 (m_M_numberOf hq1) rfl rfl rfl (z5 ww_1035 ww_1037 ww_35 ww_77 ww_1038) hy_X6_numberOf rfl (Nat.le_of_ble_eq_true rfl) (Nat.le_of_ble_eq_true rfl) (Nat.le_of_ble_eq_true rfl) ?_
  refine zr_istore hX dX6_houseTells_6 (Nat.le_of_ble_eq_true rfl) ?_
  refine zr_iload_n hX dX6_houseTells_8 rfl rfl ?_
  refine zr_tsw hX 0 dX6_houseTells_9 (by decide) (zrl rfl) (t2 := 48) rfl rfl h (fun h => ?_) (fun hs2 h => ?_)
  · refine zr_iload hX dX6_houseTells_48 rfl ?_
    exact zr_iret hX dX6_houseTells_50 hF h
  refine zr_tsw hX 1 dX6_houseTells_9 (by decide) (zrl rfl) (t2 := 51) rfl rfl h (fun h => ?_) (fun hs3 h => ?_)
  · refine zr_aload_n hX dX6_houseTells_51 rfl rfl ?_
    refine zr_iload_n hX dX6_houseTells_52 rfl rfl ?_
    refine zr_iload_n hX dX6_houseTells_53 rfl rfl ?_
    refine zP_bind h (fun q4 hq4 h => ?_)
    refine zr_callV hX dX6_houseTells_54 (m_M_kindAt hq4) rfl rfl rfl (z5 ww_1039 ww_1041 ww_36 ww_77 ww_1042) hy_X6_kindAt rfl (Nat.le_of_ble_eq_true rfl) (Nat.le_of_ble_eq_true rfl) (Nat.le_of_ble_eq_true rfl) ?_
    exact zr_iret hX dX6_houseTells_57 hF h
  refine zr_tsw hX 2 dX6_houseTells_9 (by decide) (zrl rfl) (t2 := 58) rfl rfl h (fun h => ?_) (fun hs5 h => ?_)
  · refine zr_aload_n hX dX6_houseTells_58 rfl rfl ?_
    refine zr_iload_n hX dX6_houseTells_59 rfl rfl ?_
    refine zr_iload_n hX dX6_houseTells_60 rfl rfl ?_
    refine zP_bind h (fun q6 hq6 h => ?_)
    refine zr_callV hX dX6_houseTells_61 (m_M_bearsAt hq6) rfl rfl rfl (z5 ww_1060 ww_1062 ww_39 ww_77 ww_1063) hy_X6_bearsAt rfl (Nat.le_of_ble_eq_true rfl) (Nat.le_of_ble_eq_true rfl) (Nat.le_of_ble_eq_true rfl) ?_
    exact zr_iret hX dX6_houseTells_64 hF h
  refine zr_tsw hX 3 dX6_houseTells_9 (by decide) (zrl rfl) (t2 := 65) rfl rfl h (fun h => ?_) (fun hs7 h => ?_)
  · refine zr_aload_n hX dX6_houseTells_65 rfl rfl ?_
    refine zr_iload_n hX dX6_houseTells_66 rfl rfl ?_
    refine zr_iload_n hX dX6_houseTells_67 rfl rfl ?_
    refine zP_bind h (fun q8 hq8 h => ?_)
    refine zr_callV hX dX6_houseTells_68 (m_M_weighsOn hq8) rfl rfl rfl (z5 ww_1064 ww_1066 ww_40 ww_77 ww_1067) hy_X6_weighsOn rfl (Nat.le_of_ble_eq_true rfl) (Nat.le_of_ble_eq_true rfl) (Nat.le_of_ble_eq_true rfl) ?_
    exact zr_iret hX dX6_houseTells_71 hF h
  refine zr_tsw hX 4 dX6_houseTells_9 (by decide) (zrl rfl) (t2 := 72) rfl rfl h (fun h => ?_) (fun hs9 h => ?_)
  · refine zr_aload_n hX dX6_houseTells_72 rfl rfl ?_
    refine zr_iload hX dX6_houseTells_73 rfl ?_
    refine zP_bind h (fun q10 hq10 h => ?_)
    refine zr_callV hX dX6_houseTells_75 (m_M_lightOf hq10) rfl rfl rfl (z5 ww_1075 ww_1077 ww_42 ww_77 ww_1078) hy_X6_lightOf rfl (Nat.le_of_ble_eq_true rfl) (Nat.le_of_ble_eq_true rfl) (Nat.le_of_ble_eq_true rfl) ?_
    exact zr_iret hX dX6_houseTells_78 hF h
  refine zr_tsw hX 5 dX6_houseTells_9 (by decide) (zrl rfl) (t2 := 79) rfl rfl h (fun h => ?_) (fun hs11 h => ?_)
  · refine zr_aload_n hX dX6_houseTells_79 rfl rfl ?_
    refine zr_iload hX dX6_houseTells_80 rfl ?_
    refine zP_bind h (fun q12 hq12 h => ?_)
    refine zr_callV hX dX6_houseTells_82 (m_M_owesAll hq12) rfl rfl rfl (z5 ww_1097 ww_1099 ww_46 ww_77 ww_1100) hy_X6_owesAll rfl (Nat.le_of_ble_eq_true rfl) (Nat.le_of_ble_eq_true rfl) (Nat.le_of_ble_eq_true rfl) ?_
    exact zr_iret hX dX6_houseTells_85 hF h
  refine zr_tswd (tgt := 86) hX dX6_houseTells_9 (by omega) rfl ?_
  refine zr_aload_n hX dX6_houseTells_86 rfl rfl ?_
  refine zr_iload hX dX6_houseTells_87 rfl ?_
  refine zP_bind h (fun q13 hq13 h => ?_)
  refine zr_callV hX dX6_houseTells_89 (m_M_owedAll hq13) rfl rfl rfl (z5 ww_1101 ww_1103 ww_47 ww_77 ww_1104) hy_X6_owedAll rfl (Nat.le_of_ble_eq_true rfl) (Nat.le_of_ble_eq_true rfl) (Nat.le_of_ble_eq_true rfl) ?_
  exact zr_iret hX dX6_houseTells_92 hF h
set_option maxRecDepth 100000 in
theorem m_M_houseTells {l : Launch} {G : zG} {v1 : Int} {v2 : Int} {v3 : Int} {μ : zM} {q : Int} (hq : f_M_houseTells v1 v2 v3 μ = some q) : zCT l G yX6_houseTells cX6_houseTells 5 (some .int) 6 [zR 42, zI v1, zI v2, zI v3] μ (some (zI q)) μ := by
  refine zMet (lv := [some (zR 42), some (zI v1), some (zI v2), some (zI v3), none]) (k := 1) pl_X6 rfl (Nat.le_of_ble_eq_true rfl) (fun X hl hX hF _ _ => ?_)
  exact w_M_houseTells_e hX hF (zP_of hq rfl)
set_option maxRecDepth 100000 in
set_option maxHeartbeats 4000000 in
theorem w_M_house_e {X : zX} {G : zG} {v1 : Int} {v2 : Int} {v3 : Int} {μ : zM} {rv : Option zV} {ν : zM} (hX : zOk X G cX6_house RX6 4 (some .int) 7) (hF : zFin X G rv ν) (h : zP (fun r : (Int × zM) => (some (zI r.1), r.2) = (rv, ν)) (f_M_house v1 v2 v3 μ)) : zW X G 4 0 [some (zR 42), some (zI v1), some (zI v2), some (zI v3)] [] μ := by
  refine zr_aload_n hX dX6_house_0 rfl rfl ?_
  refine zr_iload_n hX dX6_house_1 rfl rfl ?_
  refine zr_iload_n hX dX6_house_2 rfl rfl ?_
  refine zr_callV hX dX6_house_3 (m_M_isTold) rfl rfl rfl (z5 ww_1010 ww_1012 ww_29 ww_77 ww_1013) hy_X6_isTold rfl (Nat.le_of_ble_eq_true rfl) (Nat.le_of_ble_eq_true rfl) (Nat.le_of_ble_eq_true rfl) ?_
  refine zr_ifeq (tgt := 21) hX dX6_house_6 rfl h (fun h => ?_) (fun h => ?_)
  · refine zr_iconst hX dX6_house_21 (zrl rfl) ?_
    exact zr_iret hX dX6_house_22 hF h
  · refine zr_iload_n hX dX6_house_9 rfl rfl ?_
    refine zr_i2l hX dX6_house_10 ?_
    refine zr_lconst hX dX6_house_11 (n := 0) rfl (zrlJ rfl) ?_
    refine zr_ldc2 hX dX6_house_12 ww_1014 rfl (zrlJ rfl) ?_
    refine zr_callS hX dX6_house_15 (m_M_in) rfl (z4 ww_918 ww_919 ww_77 ww_920) hy_X6_in rfl (Nat.le_of_ble_eq_true rfl) (Nat.le_of_ble_eq_true rfl) (Nat.le_of_ble_eq_true rfl) ?_
    refine zr_ifne (tgt := 23) hX dX6_house_18 rfl h (fun h => ?_) (fun h => ?_)
    · refine zr_aload_n hX dX6_house_23 rfl rfl ?_
      refine zr_iload_n hX dX6_house_24 rfl rfl ?_
      refine zr_iload_n hX dX6_house_25 rfl rfl ?_
      refine zP_bind h (fun q1 hq1 h => ?_)
      refine zr_callV hX dX6_house_26 (m_M_isThere hq1) rfl rfl rfl (z5 ww_1015 ww_1017 ww_30 ww_77 ww_1018) hy_X6_isThere rfl (Nat.le_of_ble_eq_true rfl) (Nat.le_of_ble_eq_true rfl) (Nat.le_of_ble_eq_true rfl) ?_
      refine zr_ifne (tgt := 38) hX dX6_house_29 rfl h (fun h => ?_) (fun h => ?_)
      · refine zr_aload_n hX dX6_house_38 rfl rfl ?_
        refine zP_bind h (fun q2 hq2 h => ?_)
        refine zr_callV hX dX6_house_39 (m_M_layLamps hq2) rfl rfl rfl (z5 ww_1019 ww_1021 ww_31 ww_77 ww_1022) hy_X6_layLamps rfl (Nat.le_of_ble_eq_true rfl) (Nat.le_of_ble_eq_true rfl) (Nat.le_of_ble_eq_true rfl) ?_
        refine zr_aload_n hX dX6_house_42 rfl rfl ?_
        refine zr_aload_n hX dX6_house_43 rfl rfl ?_
        refine zr_iload_n hX dX6_house_44 rfl rfl ?_
        refine zr_iload_n hX dX6_house_45 rfl rfl ?_
        refine zr_iload_n hX dX6_house_46 rfl rfl ?_
        refine zP_bind h (fun q3 hq3 h => ?_)
        refine zr_callV hX dX6_house_47 (m_M_houseTells hq3) rfl rfl rfl (z5 ww_1056 ww_1058 ww_38 ww_77 ww_1059) hy_X6_houseTells rfl (Nat.le_of_ble_eq_true rfl) (Nat.le_of_ble_eq_true rfl) (Nat.le_of_ble_eq_true rfl) ?_
        refine zr_iconst hX dX6_house_50 (zrl rfl) ?_
        refine zP_bind h (fun q4 hq4 h => ?_)
        refine zr_callV hX dX6_house_51 (m_M_tells hq4) rfl rfl rfl (z5 ww_933 ww_935 ww_22 ww_77 ww_936) hy_X6_tells rfl (Nat.le_of_ble_eq_true rfl) (Nat.le_of_ble_eq_true rfl) (Nat.le_of_ble_eq_true rfl) ?_
        exact zr_iret hX dX6_house_54 hF h
      · refine zr_aload_n hX dX6_house_32 rfl rfl ?_
        refine zr_iconst hX dX6_house_33 (zrl rfl) ?_
        refine zP_bind h (fun q5 hq5 h => ?_)
        refine zr_callV hX dX6_house_34 (m_M_found hq5) rfl rfl rfl (z5 ww_921 ww_923 ww_21 ww_77 ww_924) hy_X6_found rfl (Nat.le_of_ble_eq_true rfl) (Nat.le_of_ble_eq_true rfl) (Nat.le_of_ble_eq_true rfl) ?_
        exact zr_iret hX dX6_house_37 hF h
    · refine zr_iconst hX dX6_house_21 (zrl rfl) ?_
      exact zr_iret hX dX6_house_22 hF h
set_option maxRecDepth 100000 in
theorem m_M_house {l : Launch} {G : zG} {v1 : Int} {v2 : Int} {v3 : Int} {μ : zM} {q : Int × zM} (hq : f_M_house v1 v2 v3 μ = some q) : zCT l G yX6_house cX6_house 4 (some .int) 7 [zR 42, zI v1, zI v2, zI v3] μ (some (zI q.1)) q.2 := by
  refine zMet (lv := [some (zR 42), some (zI v1), some (zI v2), some (zI v3)]) (k := 0) pl_X6 rfl (Nat.le_of_ble_eq_true rfl) (fun X hl hX hF _ _ => ?_)
  exact w_M_house_e hX hF (zP_of hq rfl)
set_option maxRecDepth 100000 in
set_option maxHeartbeats 4000000 in
theorem w_M_isOf_15 {X : zX} {G : zG} {v0 : Int} {v1 : Int} {μ : zM} {rv : Option zV} {ν : zM} (hX : zOk X G cX6_isOf RX6 2 (some .boolean) 1) (hF : zFin X G rv ν) (h : zP (fun r : Int => (some (zI r), μ) = (rv, ν)) (j_M_isOf_15 v0 v1 )) : zW X G 2 15 [some (zI v0), some (zI v1)] [] μ := by
  refine zr_iload_n hX dX6_isOf_15 rfl rfl ?_
  refine zr_iconst hX dX6_isOf_16 (zrl rfl) ?_
  refine zr_icmpne (tgt := 29) hX dX6_isOf_17 rfl h (fun h => ?_) (fun h => ?_)
  · refine zr_iconst hX dX6_isOf_29 (zrl rfl) ?_
    exact zr_bretc hX dX6_isOf_30 hF (Or.inl rfl) h
  · refine zr_iload_n hX dX6_isOf_20 rfl rfl ?_
    refine zr_iconst hX dX6_isOf_21 (zrl rfl) ?_
    refine zr_icmpne (tgt := 29) hX dX6_isOf_22 rfl h (fun h => ?_) (fun h => ?_)
    · refine zr_iconst hX dX6_isOf_29 (zrl rfl) ?_
      exact zr_bretc hX dX6_isOf_30 hF (Or.inl rfl) h
    · refine zr_iconst hX dX6_isOf_25 (zrl rfl) ?_
      refine zr_goto hX dX6_isOf_26 (tgt := 30) rfl ?_
      exact zr_bretc hX dX6_isOf_30 hF (Or.inr rfl) h
set_option maxRecDepth 100000 in
set_option maxHeartbeats 4000000 in
theorem w_M_isOf_e {X : zX} {G : zG} {v0 : Int} {v1 : Int} {μ : zM} {rv : Option zV} {ν : zM} (hX : zOk X G cX6_isOf RX6 2 (some .boolean) 1) (hF : zFin X G rv ν) (h : zP (fun r : Int => (some (zI r), μ) = (rv, ν)) (f_M_isOf v0 v1)) : zW X G 2 0 [some (zI v0), some (zI v1)] [] μ := by
  refine zr_iload_n hX dX6_isOf_0 rfl rfl ?_
  refine zr_iload_n hX dX6_isOf_1 rfl rfl ?_
  refine zr_icmpeq (tgt := 25) hX dX6_isOf_2 rfl h (fun h => ?_) (fun h => ?_)
  · refine zr_iconst hX dX6_isOf_25 (zrl rfl) ?_
    refine zr_goto hX dX6_isOf_26 (tgt := 30) rfl ?_
    exact zr_bretc hX dX6_isOf_30 hF (Or.inr rfl) h
  · refine zr_iload_n hX dX6_isOf_5 rfl rfl ?_
    refine zr_iconst hX dX6_isOf_6 (zrl rfl) ?_
    refine zr_icmpne (tgt := 15) hX dX6_isOf_7 rfl h (fun h => ?_) (fun h => ?_)
    · exact zW_lf (w_M_isOf_15 hX hF h) (And.intro rfl (And.intro rfl trivial))
    · refine zr_iload_n hX dX6_isOf_10 rfl rfl ?_
      refine zr_iconst hX dX6_isOf_11 (zrl rfl) ?_
      refine zr_icmpeq (tgt := 25) hX dX6_isOf_12 rfl h (fun h => ?_) (fun h => ?_)
      · refine zr_iconst hX dX6_isOf_25 (zrl rfl) ?_
        refine zr_goto hX dX6_isOf_26 (tgt := 30) rfl ?_
        exact zr_bretc hX dX6_isOf_30 hF (Or.inr rfl) h
      · exact zW_lf (w_M_isOf_15 hX hF h) (And.intro rfl (And.intro rfl trivial))
set_option maxRecDepth 100000 in
theorem m_M_isOf {l : Launch} {G : zG} {v0 : Int} {v1 : Int} {μ : zM} {q : Int} (hq : f_M_isOf v0 v1 = some q) : zCT l G yX6_isOf cX6_isOf 2 (some .boolean) 1 [zI v0, zI v1] μ (some (zI q)) μ := by
  refine zMet (lv := [some (zI v0), some (zI v1)]) (k := 0) pl_X6 rfl (Nat.le_of_ble_eq_true rfl) (fun X hl hX hF _ _ => ?_)
  exact w_M_isOf_e hX hF (zP_of hq rfl)
def k_M_isOnWay (X : zX) (G : zG) (v0 : Int) (v1 : Int) (v2 : Int) (v3 : Int) (v4 : Int) (μ : zM) : (Int × Int) → Prop := fun s => zW X G 7 6 [some (zI v0), some (zI v1), some (zI v2), some (zI v3), some (zI v4), some (zI s.1), some (zI s.2)] [] μ
theorem k_M_isOnWay_6 {X : zX} {G : zG} {v0 : Int} {v1 : Int} {v2 : Int} {v3 : Int} {v4 : Int} {μ : zM} {F : Int → Prop} {v5 v6 : Int} (h : zP (Sum.elim (k_M_isOnWay X G v0 v1 v2 v3 v4 μ) F) (some (.inl ((v5, v6))))) : zW X G 7 6 [some (zI v0), some (zI v1), some (zI v2), some (zI v3), some (zI v4), some (zI v5), some (zI v6)] [] μ := h
set_option maxRecDepth 100000 in
set_option maxHeartbeats 4000000 in
theorem w_M_isOnWay_6 {X : zX} {G : zG} {v0 : Int} {v1 : Int} {v2 : Int} {v3 : Int} {v4 : Int} {μ : zM} {rv : Option zV} {ν : zM} (hX : zOk X G cX6_isOnWay RX6 7 (some .boolean) 2) (hF : zFin X G rv ν) {v5 v6 : Int} (h : zP (Sum.elim (k_M_isOnWay X G v0 v1 v2 v3 v4 μ) (fun r : Int => (some (zI r), μ) = (rv, ν))) (b_M_isOnWay_6 v0 v1 v2 v3 v4 v5 v6)) : zW X G 7 6 [some (zI v0), some (zI v1), some (zI v2), some (zI v3), some (zI v4), some (zI v5), some (zI v6)] [] μ := by
  refine zr_iload hX dX6_isOnWay_6 rfl ?_
  refine zr_bipush hX dX6_isOnWay_8 rfl ?_
  refine zr_icmpge (tgt := 59) hX dX6_isOnWay_10 rfl h (fun h => ?_) (fun h => ?_)
  · refine zr_iload hX dX6_isOnWay_59 rfl ?_
    exact zr_bret hX dX6_isOnWay_61 hF h (fun h => h)
  · refine zr_iload hX dX6_isOnWay_13 rfl ?_
    refine zr_ifne (tgt := 46) hX dX6_isOnWay_15 rfl h (fun h => ?_) (fun h => ?_)
    · refine zr_iconst hX dX6_isOnWay_46 (zrl rfl) ?_
      refine zr_goto hX dX6_isOnWay_47 (tgt := 51) rfl ?_
      refine zr_istore hX dX6_isOnWay_51 (Nat.le_of_ble_eq_true rfl) ?_
      refine zr_iinc hX dX6_isOnWay_53 rfl (Nat.le_of_ble_eq_true rfl) ?_
      refine zr_goto hX dX6_isOnWay_56 (tgt := 6) rfl ?_
      exact zW_lf (k_M_isOnWay_6 h) (And.intro rfl (And.intro rfl (And.intro rfl (And.intro rfl (And.intro rfl (And.intro rfl (And.intro rfl trivial)))))))
    · refine zr_iload_n hX dX6_isOnWay_18 rfl rfl ?_
      refine zr_iload_n hX dX6_isOnWay_19 rfl rfl ?_
      refine zr_iload hX dX6_isOnWay_20 rfl ?_
      refine zr_iload hX dX6_isOnWay_22 rfl ?_
      refine zr_callS hX dX6_isOnWay_24 (m_M_eastIn) rfl (z4 ww_1047 ww_1048 ww_77 ww_1049) hy_X6_eastIn rfl (Nat.le_of_ble_eq_true rfl) (Nat.le_of_ble_eq_true rfl) (Nat.le_of_ble_eq_true rfl) ?_
      refine zr_imul hX dX6_isOnWay_27 ?_
      refine zr_iadd hX dX6_isOnWay_28 ?_
      refine zr_icmpne (tgt := 50) hX dX6_isOnWay_29 rfl h (fun h => ?_) (fun h => ?_)
      · refine zr_iconst hX dX6_isOnWay_50 (zrl rfl) ?_
        refine zr_istore hX dX6_isOnWay_51 (Nat.le_of_ble_eq_true rfl) ?_
        refine zr_iinc hX dX6_isOnWay_53 rfl (Nat.le_of_ble_eq_true rfl) ?_
        refine zr_goto hX dX6_isOnWay_56 (tgt := 6) rfl ?_
        exact zW_lf (k_M_isOnWay_6 h) (And.intro rfl (And.intro rfl (And.intro rfl (And.intro rfl (And.intro rfl (And.intro rfl (And.intro rfl trivial)))))))
      · refine zr_iload_n hX dX6_isOnWay_32 rfl rfl ?_
        refine zr_iload_n hX dX6_isOnWay_33 rfl rfl ?_
        refine zr_iload hX dX6_isOnWay_34 rfl ?_
        refine zr_iload hX dX6_isOnWay_36 rfl ?_
        refine zr_callS hX dX6_isOnWay_38 (m_M_upIn) rfl (z4 ww_1050 ww_1051 ww_77 ww_1052) hy_X6_upIn rfl (Nat.le_of_ble_eq_true rfl) (Nat.le_of_ble_eq_true rfl) (Nat.le_of_ble_eq_true rfl) ?_
        refine zr_imul hX dX6_isOnWay_41 ?_
        refine zr_iadd hX dX6_isOnWay_42 ?_
        refine zr_icmpne (tgt := 50) hX dX6_isOnWay_43 rfl h (fun h => ?_) (fun h => ?_)
        · refine zr_iconst hX dX6_isOnWay_50 (zrl rfl) ?_
          refine zr_istore hX dX6_isOnWay_51 (Nat.le_of_ble_eq_true rfl) ?_
          refine zr_iinc hX dX6_isOnWay_53 rfl (Nat.le_of_ble_eq_true rfl) ?_
          refine zr_goto hX dX6_isOnWay_56 (tgt := 6) rfl ?_
          exact zW_lf (k_M_isOnWay_6 h) (And.intro rfl (And.intro rfl (And.intro rfl (And.intro rfl (And.intro rfl (And.intro rfl (And.intro rfl trivial)))))))
        · refine zr_iconst hX dX6_isOnWay_46 (zrl rfl) ?_
          refine zr_goto hX dX6_isOnWay_47 (tgt := 51) rfl ?_
          refine zr_istore hX dX6_isOnWay_51 (Nat.le_of_ble_eq_true rfl) ?_
          refine zr_iinc hX dX6_isOnWay_53 rfl (Nat.le_of_ble_eq_true rfl) ?_
          refine zr_goto hX dX6_isOnWay_56 (tgt := 6) rfl ?_
          exact zW_lf (k_M_isOnWay_6 h) (And.intro rfl (And.intro rfl (And.intro rfl (And.intro rfl (And.intro rfl (And.intro rfl (And.intro rfl trivial)))))))
set_option maxRecDepth 100000 in
set_option maxHeartbeats 4000000 in
theorem w_M_isOnWay_e {X : zX} {G : zG} {v0 : Int} {v1 : Int} {v2 : Int} {v3 : Int} {v4 : Int} {μ : zM} {rv : Option zV} {ν : zM} (hX : zOk X G cX6_isOnWay RX6 7 (some .boolean) 2) (hF : zFin X G rv ν) (h : zP (Sum.elim (k_M_isOnWay X G v0 v1 v2 v3 v4 μ) (fun r : Int => (some (zI r), μ) = (rv, ν))) (e_M_isOnWay v0 v1 v2 v3 v4)) : zW X G 7 0 [some (zI v0), some (zI v1), some (zI v2), some (zI v3), some (zI v4), none, none] [] μ := by
  refine zr_iconst hX dX6_isOnWay_0 (zrl rfl) ?_
  refine zr_istore hX dX6_isOnWay_1 (Nat.le_of_ble_eq_true rfl) ?_
  refine zr_iconst hX dX6_isOnWay_3 (zrl rfl) ?_
  refine zr_istore hX dX6_isOnWay_4 (Nat.le_of_ble_eq_true rfl) ?_
  exact zW_lf (k_M_isOnWay_6 h) (And.intro rfl (And.intro rfl (And.intro rfl (And.intro rfl (And.intro rfl (And.intro rfl (And.intro rfl trivial)))))))
set_option maxRecDepth 100000 in
theorem m_M_isOnWay {l : Launch} {G : zG} {v0 : Int} {v1 : Int} {v2 : Int} {v3 : Int} {v4 : Int} {μ : zM} {q : Int} (hq : f_M_isOnWay v0 v1 v2 v3 v4 = some q) : zCT l G yX6_isOnWay cX6_isOnWay 7 (some .boolean) 2 [zI v0, zI v1, zI v2, zI v3, zI v4] μ (some (zI q)) μ := by
  refine zMet (lv := [some (zI v0), some (zI v1), some (zI v2), some (zI v3), some (zI v4), none, none]) (k := 2) pl_X6 rfl (Nat.le_of_ble_eq_true rfl) (fun X hl hX hF _ _ => ?_)
  refine w_M_isOnWay_e hX hF (zgo_K (r := q) (step := t_M_isOnWay v0 v1 v2 v3 v4) (fun s h => ?_) rfl hq)
  exact w_M_isOnWay_6 hX hF h
def k_M_couldShade (X : zX) (G : zG) (v1 : Int) (v2 : Int) (μ : zM) : ((Int × Int) ⊕ (Int × Int × Int) ⊕ (Int × Int × Int × Int)) → Prop := fun s => match s with
  | .inl (s) => zW X G 7 5 [some (zR 42), some (zI v1), some (zI v2), some (zI s.1), some (zI s.2), none, none] [] μ
  | .inr (.inl (s)) => zW X G 7 19 [some (zR 42), some (zI v1), some (zI v2), some (zI s.1), some (zI s.2.1), some (zI s.2.2), none] [] μ
  | .inr (.inr (s)) => zW X G 7 36 [some (zR 42), some (zI v1), some (zI v2), some (zI s.1), some (zI s.2.1), some (zI s.2.2.1), some (zI s.2.2.2)] [] μ
theorem k_M_couldShade_5 {X : zX} {G : zG} {v1 : Int} {v2 : Int} {μ : zM} {F : Int → Prop} {v3 v4 : Int} (h : zP (Sum.elim (k_M_couldShade X G v1 v2 μ) F) (some (.inl (.inl ((v3, v4)))))) : zW X G 7 5 [some (zR 42), some (zI v1), some (zI v2), some (zI v3), some (zI v4), none, none] [] μ := h
theorem k_M_couldShade_19 {X : zX} {G : zG} {v1 : Int} {v2 : Int} {μ : zM} {F : Int → Prop} {v3 v4 v5 : Int} (h : zP (Sum.elim (k_M_couldShade X G v1 v2 μ) F) (some (.inl (.inr (.inl ((v3, v4, v5))))))) : zW X G 7 19 [some (zR 42), some (zI v1), some (zI v2), some (zI v3), some (zI v4), some (zI v5), none] [] μ := h
theorem k_M_couldShade_36 {X : zX} {G : zG} {v1 : Int} {v2 : Int} {μ : zM} {F : Int → Prop} {v3 v4 v5 v6 : Int} (h : zP (Sum.elim (k_M_couldShade X G v1 v2 μ) F) (some (.inl (.inr (.inr ((v3, v4, v5, v6))))))) : zW X G 7 36 [some (zR 42), some (zI v1), some (zI v2), some (zI v3), some (zI v4), some (zI v5), some (zI v6)] [] μ := h
set_option maxRecDepth 100000 in
set_option maxHeartbeats 4000000 in
theorem w_M_couldShade_5 {X : zX} {G : zG} {v1 : Int} {v2 : Int} {μ : zM} {rv : Option zV} {ν : zM} (hX : zOk X G cX6_couldShade RX6 7 (some .int) 3) (hF : zFin X G rv ν) {v3 v4 : Int} (h : zP (Sum.elim (k_M_couldShade X G v1 v2 μ) (fun r : Int => (some (zI r), μ) = (rv, ν))) (b_M_couldShade_5 v1 v2 v3 v4 μ)) : zW X G 7 5 [some (zR 42), some (zI v1), some (zI v2), some (zI v3), some (zI v4), none, none] [] μ := by
  refine zr_iload hX dX6_couldShade_5 rfl ?_
  refine zr_aload_n hX dX6_couldShade_7 rfl rfl ?_
  refine zr_getr hX dX6_couldShade_8 (k := 0) (q := 43) rfl rfl ww_851 rfl ?_
  refine zr_iconst hX dX6_couldShade_11 (zrl rfl) ?_
  refine zr_ialdc hX dX6_couldShade_12 (N := 10956) rfl rfl rfl ?_
  refine zr_icmpge (tgt := 97) hX dX6_couldShade_13 rfl h (fun h => ?_) (fun h => ?_)
  · refine zr_iload_n hX dX6_couldShade_97 rfl rfl ?_
    exact zr_iret hX dX6_couldShade_98 hF h
  · refine zr_iconst hX dX6_couldShade_16 (zrl rfl) ?_
    refine zr_istore hX dX6_couldShade_17 (Nat.le_of_ble_eq_true rfl) ?_
    exact zW_lf (k_M_couldShade_19 h) (And.intro rfl (And.intro rfl (And.intro rfl (And.intro rfl (And.intro rfl (And.intro rfl trivial))))))
set_option maxRecDepth 100000 in
set_option maxHeartbeats 4000000 in
theorem w_M_couldShade_19 {X : zX} {G : zG} {v1 : Int} {v2 : Int} {μ : zM} {rv : Option zV} {ν : zM} (hX : zOk X G cX6_couldShade RX6 7 (some .int) 3) (hF : zFin X G rv ν) {v3 v4 v5 : Int} (h : zP (Sum.elim (k_M_couldShade X G v1 v2 μ) (fun r : Int => (some (zI r), μ) = (rv, ν))) (b_M_couldShade_19 v1 v2 v3 v4 v5 μ)) : zW X G 7 19 [some (zR 42), some (zI v1), some (zI v2), some (zI v3), some (zI v4), some (zI v5), none] [] μ := by
  refine zr_iload hX dX6_couldShade_19 rfl ?_
  refine zr_aload_n hX dX6_couldShade_21 rfl rfl ?_
  refine zr_getr hX dX6_couldShade_22 (k := 0) (q := 43) rfl rfl ww_851 rfl ?_
  refine zr_iconst hX dX6_couldShade_25 (zrl rfl) ?_
  refine zr_iload hX dX6_couldShade_26 rfl ?_
  refine zr_iadd hX dX6_couldShade_28 ?_
  refine zr_iald (N := 10956) hX dX6_couldShade_29 rfl rfl h (fun h => ?_)
  refine zr_icmpge (tgt := 91) hX dX6_couldShade_30 rfl h (fun h => ?_) (fun h => ?_)
  · refine zr_iinc hX dX6_couldShade_91 rfl (Nat.le_of_ble_eq_true rfl) ?_
    refine zr_goto hX dX6_couldShade_94 (tgt := 5) rfl ?_
    exact zW_lf (k_M_couldShade_5 h) (And.intro rfl (And.intro rfl (And.intro rfl (And.intro rfl (And.intro rfl trivial)))))
  · refine zr_iconst hX dX6_couldShade_33 (zrl rfl) ?_
    refine zr_istore hX dX6_couldShade_34 (Nat.le_of_ble_eq_true rfl) ?_
    exact zW_lf (k_M_couldShade_36 h) (And.intro rfl (And.intro rfl (And.intro rfl (And.intro rfl (And.intro rfl (And.intro rfl (And.intro rfl trivial)))))))
set_option maxRecDepth 100000 in
set_option maxHeartbeats 4000000 in
theorem w_M_couldShade_36 {X : zX} {G : zG} {v1 : Int} {v2 : Int} {μ : zM} {rv : Option zV} {ν : zM} (hX : zOk X G cX6_couldShade RX6 7 (some .int) 3) (hF : zFin X G rv ν) {v3 v4 v5 v6 : Int} (h : zP (Sum.elim (k_M_couldShade X G v1 v2 μ) (fun r : Int => (some (zI r), μ) = (rv, ν))) (b_M_couldShade_36 v1 v2 v3 v4 v5 v6 μ)) : zW X G 7 36 [some (zR 42), some (zI v1), some (zI v2), some (zI v3), some (zI v4), some (zI v5), some (zI v6)] [] μ := by
  refine zr_iload hX dX6_couldShade_36 rfl ?_
  refine zr_iconst hX dX6_couldShade_38 (zrl rfl) ?_
  refine zr_icmpge (tgt := 85) hX dX6_couldShade_39 rfl h (fun h => ?_) (fun h => ?_)
  · refine zr_iinc hX dX6_couldShade_85 rfl (Nat.le_of_ble_eq_true rfl) ?_
    refine zr_goto hX dX6_couldShade_88 (tgt := 19) rfl ?_
    exact zW_lf (k_M_couldShade_19 h) (And.intro rfl (And.intro rfl (And.intro rfl (And.intro rfl (And.intro rfl (And.intro rfl trivial))))))
  · refine zr_iload_n hX dX6_couldShade_42 rfl rfl ?_
    refine zr_aload_n hX dX6_couldShade_43 rfl rfl ?_
    refine zr_iload hX dX6_couldShade_44 rfl ?_
    refine zr_iload hX dX6_couldShade_46 rfl ?_
    refine zr_iload hX dX6_couldShade_48 rfl ?_
    refine zP_bind h (fun q1 hq1 h => ?_)
    refine zr_callV hX dX6_couldShade_50 (m_M_shader hq1) rfl rfl rfl (z5 ww_1043 ww_1045 ww_37 ww_77 ww_1046) hy_X6_shader rfl (Nat.le_of_ble_eq_true rfl) (Nat.le_of_ble_eq_true rfl) (Nat.le_of_ble_eq_true rfl) ?_
    refine zr_bipush hX dX6_couldShade_53 rfl ?_
    refine zr_icmpne (tgt := 76) hX dX6_couldShade_55 rfl h (fun h => ?_) (fun h => ?_)
    · refine zr_iconst hX dX6_couldShade_76 (zrl rfl) ?_
      refine zr_iadd hX dX6_couldShade_77 ?_
      refine zr_istore_n hX dX6_couldShade_78 rfl (Nat.le_of_ble_eq_true rfl) ?_
      refine zr_iinc hX dX6_couldShade_79 rfl (Nat.le_of_ble_eq_true rfl) ?_
      refine zr_goto hX dX6_couldShade_82 (tgt := 36) rfl ?_
      exact zW_lf (k_M_couldShade_36 h) (And.intro rfl (And.intro rfl (And.intro rfl (And.intro rfl (And.intro rfl (And.intro rfl (And.intro rfl trivial)))))))
    · refine zr_iload hX dX6_couldShade_58 rfl ?_
      refine zr_iload hX dX6_couldShade_60 rfl ?_
      refine zr_iload_n hX dX6_couldShade_62 rfl rfl ?_
      refine zr_iload_n hX dX6_couldShade_63 rfl rfl ?_
      refine zr_iload hX dX6_couldShade_64 rfl ?_
      refine zP_bind h (fun q2 hq2 h => ?_)
      refine zr_callS hX dX6_couldShade_66 (m_M_isOnWay hq2) rfl (z4 ww_1116 ww_1117 ww_77 ww_1118) hy_X6_isOnWay rfl (Nat.le_of_ble_eq_true rfl) (Nat.le_of_ble_eq_true rfl) (Nat.le_of_ble_eq_true rfl) ?_
      refine zr_ifeq (tgt := 76) hX dX6_couldShade_69 rfl h (fun h => ?_) (fun h => ?_)
      · refine zr_iconst hX dX6_couldShade_76 (zrl rfl) ?_
        refine zr_iadd hX dX6_couldShade_77 ?_
        refine zr_istore_n hX dX6_couldShade_78 rfl (Nat.le_of_ble_eq_true rfl) ?_
        refine zr_iinc hX dX6_couldShade_79 rfl (Nat.le_of_ble_eq_true rfl) ?_
        refine zr_goto hX dX6_couldShade_82 (tgt := 36) rfl ?_
        exact zW_lf (k_M_couldShade_36 h) (And.intro rfl (And.intro rfl (And.intro rfl (And.intro rfl (And.intro rfl (And.intro rfl (And.intro rfl trivial)))))))
      · refine zr_iconst hX dX6_couldShade_72 (zrl rfl) ?_
        refine zr_goto hX dX6_couldShade_73 (tgt := 77) rfl ?_
        refine zr_iadd hX dX6_couldShade_77 ?_
        refine zr_istore_n hX dX6_couldShade_78 rfl (Nat.le_of_ble_eq_true rfl) ?_
        refine zr_iinc hX dX6_couldShade_79 rfl (Nat.le_of_ble_eq_true rfl) ?_
        refine zr_goto hX dX6_couldShade_82 (tgt := 36) rfl ?_
        exact zW_lf (k_M_couldShade_36 h) (And.intro rfl (And.intro rfl (And.intro rfl (And.intro rfl (And.intro rfl (And.intro rfl (And.intro rfl trivial)))))))
set_option maxRecDepth 100000 in
set_option maxHeartbeats 4000000 in
theorem w_M_couldShade_e {X : zX} {G : zG} {v1 : Int} {v2 : Int} {μ : zM} {rv : Option zV} {ν : zM} (hX : zOk X G cX6_couldShade RX6 7 (some .int) 3) (hF : zFin X G rv ν) (h : zP (Sum.elim (k_M_couldShade X G v1 v2 μ) (fun r : Int => (some (zI r), μ) = (rv, ν))) (e_M_couldShade v1 v2 μ)) : zW X G 7 0 [some (zR 42), some (zI v1), some (zI v2), none, none, none, none] [] μ := by
  refine zr_iconst hX dX6_couldShade_0 (zrl rfl) ?_
  refine zr_istore_n hX dX6_couldShade_1 rfl (Nat.le_of_ble_eq_true rfl) ?_
  refine zr_iconst hX dX6_couldShade_2 (zrl rfl) ?_
  refine zr_istore hX dX6_couldShade_3 (Nat.le_of_ble_eq_true rfl) ?_
  exact zW_lf (k_M_couldShade_5 h) (And.intro rfl (And.intro rfl (And.intro rfl (And.intro rfl (And.intro rfl trivial)))))
set_option maxRecDepth 100000 in
theorem m_M_couldShade {l : Launch} {G : zG} {v1 : Int} {v2 : Int} {μ : zM} {q : Int} (hq : f_M_couldShade v1 v2 μ = some q) : zCT l G yX6_couldShade cX6_couldShade 7 (some .int) 3 [zR 42, zI v1, zI v2] μ (some (zI q)) μ := by
  refine zMet (lv := [some (zR 42), some (zI v1), some (zI v2), none, none, none, none]) (k := 4) pl_X6 rfl (Nat.le_of_ble_eq_true rfl) (fun X hl hX hF _ _ => ?_)
  refine w_M_couldShade_e hX hF (zgo_K (r := q) (step := t_M_couldShade v1 v2 μ) (fun s h => ?_) rfl hq)
  cases s with
  | inl s => exact w_M_couldShade_5 hX hF h
  | inr s =>
    cases s with
    | inl s => exact w_M_couldShade_19 hX hF h
    | inr s => exact w_M_couldShade_36 hX hF h
