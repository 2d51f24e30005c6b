def k_X_relief (X : zX) (G : zG) : (Int × Int × Int × Int × zM) → Prop := fun s => zW X G 7 30 [some (zR 0), some (zI s.1), some (zI s.2.1), some (zI s.2.2.1), some (zI s.2.2.2.1), none, none] [] s.2.2.2.2
theorem k_X_relief_30 {X : zX} {G : zG} {F : (Int × zM) → Prop} {v1 v2 v3 v4 : Int} {κ : zM} (h : zP (Sum.elim (k_X_relief X G) F) (some (.inl ((v1, v2, v3, v4, κ))))) : zW X G 7 30 [some (zR 0), some (zI v1), some (zI v2), some (zI v3), some (zI v4), none, none] [] κ := h
set_option maxRecDepth 100000 in
set_option maxHeartbeats 4000000 in
theorem w_X_relief_30 {X : zX} {G : zG} {μ : zM} {rv : Option zV} {ν : zM} (hX : zOk X G cX5_relief RX5 7 (some .int) 6) (hF : zFin X G rv ν) {v1 v2 v3 v4 : Int} (h : zP (Sum.elim (k_X_relief X G) (fun r : (Int × zM) => (some (zI r.1), r.2) = (rv, ν))) (b_X_relief_30 v1 v2 v3 v4 μ)) : zW X G 7 30 [some (zR 0), some (zI v1), some (zI v2), some (zI v3), some (zI v4), none, none] [] μ := by
  refine zr_iload hX dX5_relief_30 rfl ?_
  refine zr_aload_n hX dX5_relief_32 rfl rfl ?_
  refine zr_getr hX dX5_relief_33 (k := 2) (q := 7) rfl rfl ww_201 rfl ?_
  refine zr_getrN hX dX5_relief_36 (k := 0) (q := 8) rfl rfl nf_X5_125 rfl ?_
  refine zr_callV hX dX5_relief_39 (m_R_houseCount rfl) rfl rfl rfl (z5 ww_659 ww_437 ww_438 ww_74 ww_439) hy_X1_houseCount rfl (Nat.le_of_ble_eq_true rfl) (Nat.le_of_ble_eq_true rfl) (Nat.le_of_ble_eq_true rfl) ?_
  refine zr_icmpge (tgt := 137) hX dX5_relief_42 rfl h (fun h => ?_) (fun h => ?_)
  · refine zr_iload_n hX dX5_relief_137 rfl rfl ?_
    refine zr_bipush hX dX5_relief_138 rfl ?_
    refine zr_icmpeq (tgt := 148) hX dX5_relief_140 rfl h (fun h => ?_) (fun h => ?_)
    · refine zr_iload_n hX dX5_relief_148 rfl rfl ?_
      exact zr_iret hX dX5_relief_149 hF h
    · refine zr_aload_n hX dX5_relief_143 rfl rfl ?_
      refine zr_iload_n hX dX5_relief_144 rfl rfl ?_
      refine zr_puti hX dX5_relief_145 (k := 9) rfl rfl ww_208 rfl (by decide +kernel) ?_
      refine zr_iload_n hX dX5_relief_148 rfl rfl ?_
      exact zr_iret hX dX5_relief_149 hF h
  · refine zr_aload_n hX dX5_relief_45 rfl rfl ?_
    refine zr_getr hX dX5_relief_46 (k := 5) (q := 16) rfl rfl ww_204 rfl ?_
    refine zr_aload_n hX dX5_relief_49 rfl rfl ?_
    refine zr_getr hX dX5_relief_50 (k := 2) (q := 7) rfl rfl ww_201 rfl ?_
    refine zr_getrN hX dX5_relief_53 (k := 0) (q := 8) rfl rfl nf_X5_125 rfl ?_
    refine zP_bind h (fun q3 hq3 h => ?_)
    refine zr_callV hX dX5_relief_56 (m_L_reckon rfl hq3) rfl rfl rfl (z5 ww_432 ww_433 ww_434 ww_75 ww_435) hy_X0_reckon rfl (Nat.le_of_ble_eq_true rfl) (Nat.le_of_ble_eq_true rfl) (Nat.le_of_ble_eq_true rfl) ?_
    refine zr_iload_n hX dX5_relief_59 rfl rfl ?_
    refine zr_aload_n hX dX5_relief_60 rfl rfl ?_
    refine zr_getr hX dX5_relief_61 (k := 5) (q := 16) rfl rfl ww_204 rfl ?_
    refine zr_iload hX dX5_relief_64 rfl ?_
    refine zP_bind h (fun q4 hq4 h => ?_)
    refine zr_callV hX dX5_relief_66 (m_L_lightOf hq4) rfl rfl rfl (z5 ww_497 ww_498 ww_499 ww_75 ww_500) hy_X0_lightOf rfl (Nat.le_of_ble_eq_true rfl) (Nat.le_of_ble_eq_true rfl) (Nat.le_of_ble_eq_true rfl) ?_
    refine zr_isub hX dX5_relief_69 ?_
    refine zr_istore hX dX5_relief_70 (Nat.le_of_ble_eq_true rfl) ?_
    refine zr_aload_n hX dX5_relief_72 rfl rfl ?_
    refine zr_getr hX dX5_relief_73 (k := 4) (q := 13) rfl rfl ww_203 rfl ?_
    refine zr_aload_n hX dX5_relief_76 rfl rfl ?_
    refine zr_getr hX dX5_relief_77 (k := 2) (q := 7) rfl rfl ww_201 rfl ?_
    refine zr_getrN hX dX5_relief_80 (k := 0) (q := 8) rfl rfl nf_X5_125 rfl ?_
    refine zr_iconst hX dX5_relief_83 (zrl rfl) ?_
    refine zr_iload hX dX5_relief_84 rfl ?_
    refine zr_ishl hX dX5_relief_86 ?_
    refine zP_bind h (fun q5 hq5 h => ?_)
    refine zr_callV hX dX5_relief_87 (m_R_takeWithout rfl rfl hq5) rfl rfl rfl (z5 ww_695 ww_391 ww_392 ww_74 ww_393) hy_X1_takeWithout rfl (Nat.le_of_ble_eq_true rfl) (Nat.le_of_ble_eq_true rfl) (Nat.le_of_ble_eq_true rfl) ?_
    refine zr_aload_n hX dX5_relief_90 rfl rfl ?_
    refine zr_getr hX dX5_relief_91 (k := 5) (q := 16) rfl rfl ww_204 rfl ?_
    refine zr_aload_n hX dX5_relief_94 rfl rfl ?_
    refine zr_getr hX dX5_relief_95 (k := 4) (q := 13) rfl rfl ww_203 rfl ?_
    refine zP_bind h (fun q6 hq6 h => ?_)
    refine zr_callV hX dX5_relief_98 (m_L_reckon rfl hq6) rfl rfl rfl (z5 ww_432 ww_433 ww_434 ww_75 ww_435) hy_X0_reckon rfl (Nat.le_of_ble_eq_true rfl) (Nat.le_of_ble_eq_true rfl) (Nat.le_of_ble_eq_true rfl) ?_
    refine zr_aload_n hX dX5_relief_101 rfl rfl ?_
    refine zr_getr hX dX5_relief_102 (k := 5) (q := 16) rfl rfl ww_204 rfl ?_
    refine zP_bind h (fun q7 hq7 h => ?_)
    refine zr_callV hX dX5_relief_105 (m_L_allLight hq7) rfl rfl rfl (z5 ww_650 ww_651 ww_652 ww_75 ww_653) hy_X0_allLight rfl (Nat.le_of_ble_eq_true rfl) (Nat.le_of_ble_eq_true rfl) (Nat.le_of_ble_eq_true rfl) ?_
    refine zr_iload hX dX5_relief_108 rfl ?_
    refine zr_isub hX dX5_relief_110 ?_
    refine zr_istore hX dX5_relief_111 (Nat.le_of_ble_eq_true rfl) ?_
    refine zr_iload_n hX dX5_relief_113 rfl rfl ?_
    refine zr_bipush hX dX5_relief_114 rfl ?_
    refine zr_icmpeq (tgt := 125) hX dX5_relief_116 rfl h (fun h => ?_) (fun h => ?_)
    · refine zr_iload hX dX5_relief_125 rfl ?_
      refine zr_istore_n hX dX5_relief_127 rfl (Nat.le_of_ble_eq_true rfl) ?_
      refine zr_iload hX dX5_relief_128 rfl ?_
      refine zr_istore_n hX dX5_relief_130 rfl (Nat.le_of_ble_eq_true rfl) ?_
      refine zr_iinc hX dX5_relief_131 rfl (Nat.le_of_ble_eq_true rfl) ?_
      refine zr_goto hX dX5_relief_134 (tgt := 30) rfl ?_
      exact zW_lf (k_X_relief_30 h) (And.intro rfl (And.intro rfl (And.intro rfl (And.intro rfl (And.intro rfl trivial)))))
    · refine zr_iload hX dX5_relief_119 rfl ?_
      refine zr_iload_n hX dX5_relief_121 rfl rfl ?_
      refine zr_icmple (tgt := 131) hX dX5_relief_122 rfl h (fun h => ?_) (fun h => ?_)
      · refine zr_iinc hX dX5_relief_131 rfl (Nat.le_of_ble_eq_true rfl) ?_
        refine zr_goto hX dX5_relief_134 (tgt := 30) rfl ?_
        exact zW_lf (k_X_relief_30 h) (And.intro rfl (And.intro rfl (And.intro rfl (And.intro rfl (And.intro rfl trivial)))))
      · refine zr_iload hX dX5_relief_125 rfl ?_
        refine zr_istore_n hX dX5_relief_127 rfl (Nat.le_of_ble_eq_true rfl) ?_
        refine zr_iload hX dX5_relief_128 rfl ?_
        refine zr_istore_n hX dX5_relief_130 rfl (Nat.le_of_ble_eq_true rfl) ?_
        refine zr_iinc hX dX5_relief_131 rfl (Nat.le_of_ble_eq_true rfl) ?_
        refine zr_goto hX dX5_relief_134 (tgt := 30) rfl ?_
        exact zW_lf (k_X_relief_30 h) (And.intro rfl (And.intro rfl (And.intro rfl (And.intro rfl (And.intro rfl trivial)))))
set_option maxRecDepth 100000 in
set_option maxHeartbeats 4000000 in
theorem w_X_relief_e {X : zX} {G : zG} {μ : zM} {rv : Option zV} {ν : zM} (hX : zOk X G cX5_relief RX5 7 (some .int) 6) (hF : zFin X G rv ν) (h : zP (Sum.elim (k_X_relief X G) (fun r : (Int × zM) => (some (zI r.1), r.2) = (rv, ν))) (e_X_relief μ)) : zW X G 7 0 [some (zR 0), none, none, none, none, none, none] [] μ := by
  refine zr_aload_n hX dX5_relief_0 rfl rfl ?_
  refine zr_getr hX dX5_relief_1 (k := 5) (q := 16) rfl rfl ww_204 rfl ?_
  refine zr_aload_n hX dX5_relief_4 rfl rfl ?_
  refine zr_getr hX dX5_relief_5 (k := 2) (q := 7) rfl rfl ww_201 rfl ?_
  refine zr_getrN hX dX5_relief_8 (k := 0) (q := 8) rfl rfl nf_X5_125 rfl ?_
  refine zP_bind h (fun q1 hq1 h => ?_)
  refine zr_callV hX dX5_relief_11 (m_L_reckon rfl hq1) rfl rfl rfl (z5 ww_432 ww_433 ww_434 ww_75 ww_435) hy_X0_reckon rfl (Nat.le_of_ble_eq_true rfl) (Nat.le_of_ble_eq_true rfl) (Nat.le_of_ble_eq_true rfl) ?_
  refine zr_aload_n hX dX5_relief_14 rfl rfl ?_
  refine zr_getr hX dX5_relief_15 (k := 5) (q := 16) rfl rfl ww_204 rfl ?_
  refine zP_bind h (fun q2 hq2 h => ?_)
  refine zr_callV hX dX5_relief_18 (m_L_allLight hq2) rfl rfl rfl (z5 ww_650 ww_651 ww_652 ww_75 ww_653) hy_X0_allLight rfl (Nat.le_of_ble_eq_true rfl) (Nat.le_of_ble_eq_true rfl) (Nat.le_of_ble_eq_true rfl) ?_
  refine zr_istore_n hX dX5_relief_21 rfl (Nat.le_of_ble_eq_true rfl) ?_
  refine zr_bipush hX dX5_relief_22 rfl ?_
  refine zr_istore_n hX dX5_relief_24 rfl (Nat.le_of_ble_eq_true rfl) ?_
  refine zr_iconst hX dX5_relief_25 (zrl rfl) ?_
  refine zr_istore_n hX dX5_relief_26 rfl (Nat.le_of_ble_eq_true rfl) ?_
  refine zr_iconst hX dX5_relief_27 (zrl rfl) ?_
  refine zr_istore hX dX5_relief_28 (Nat.le_of_ble_eq_true rfl) ?_
  exact zW_lf (k_X_relief_30 h) (And.intro rfl (And.intro rfl (And.intro rfl (And.intro rfl (And.intro rfl trivial)))))
set_option maxRecDepth 100000 in
theorem m_X_relief {l : Launch} {G : zG} {μ : zM} {q : Int × zM} (hq : f_X_relief μ = some q) : zCT l G yX5_relief cX5_relief 7 (some .int) 6 [zR 0] μ (some (zI q.1)) q.2 := by
  refine zMet (lv := [some (zR 0), none, none, none, none, none, none]) (k := 6) pl_X5 rfl (Nat.le_of_ble_eq_true rfl) (fun X hl hX hF _ _ => ?_)
  refine w_X_relief_e hX hF (zgo_K (r := q) (step := t_X_relief) (fun s h => ?_) rfl hq)
  exact w_X_relief_30 hX hF h
def k_X_high (X : zX) (G : zG) (v1 : Int) (v2 : Int) : (Int × zM) → Prop := fun s => zW X G 4 39 [some (zR 0), some (zI v1), some (zI v2), some (zI s.1)] [] s.2
theorem k_X_high_39 {X : zX} {G : zG} {v1 : Int} {v2 : Int} {F : (Int × zM) → Prop} {v3 : Int} {κ : zM} (h : zP (Sum.elim (k_X_high X G v1 v2) F) (some (.inl ((v3, κ))))) : zW X G 4 39 [some (zR 0), some (zI v1), some (zI v2), some (zI v3)] [] κ := h
set_option maxRecDepth 100000 in
set_option maxHeartbeats 4000000 in
theorem w_X_high_39 {X : zX} {G : zG} {v1 : Int} {v2 : Int} {μ : zM} {rv : Option zV} {ν : zM} (hX : zOk X G cX5_high RX5 4 (some .int) 6) (hF : zFin X G rv ν) {v3 : Int} (h : zP (Sum.elim (k_X_high X G v1 v2) (fun r : (Int × zM) => (some (zI r.1), r.2) = (rv, ν))) (b_X_high_39 v1 v2 v3 μ)) : zW X G 4 39 [some (zR 0), some (zI v1), some (zI v2), some (zI v3)] [] μ := by
  refine zr_iload_n hX dX5_high_39 rfl rfl ?_
  refine zr_bipush hX dX5_high_40 rfl ?_
  refine zr_icmpge (tgt := 74) hX dX5_high_42 rfl h (fun h => ?_) (fun h => ?_)
  · refine zr_iload_n hX dX5_high_74 rfl rfl ?_
    exact zr_iret hX dX5_high_75 hF h
  · refine zr_aload_n hX dX5_high_45 rfl rfl ?_
    refine zr_getr hX dX5_high_46 (k := 4) (q := 13) rfl rfl ww_203 rfl ?_
    refine zr_iload_n hX dX5_high_49 rfl rfl ?_
    refine zr_iconst hX dX5_high_50 (zrl rfl) ?_
    refine zr_iload_n hX dX5_high_51 rfl rfl ?_
    refine zP_bind h (fun q2 hq2 h => ?_)
    refine zr_callV hX dX5_high_52 (m_R_push rfl hq2) rfl rfl rfl (z5 ww_365 ww_366 ww_367 ww_74 ww_368) hy_X1_push rfl (Nat.le_of_ble_eq_true rfl) (Nat.le_of_ble_eq_true rfl) (Nat.le_of_ble_eq_true rfl) ?_
    refine zr_ifeq (tgt := 74) hX dX5_high_55 rfl h (fun h => ?_) (fun h => ?_)
    · refine zr_iload_n hX dX5_high_74 rfl rfl ?_
      exact zr_iret hX dX5_high_75 hF h
    · refine zr_aload_n hX dX5_high_58 rfl rfl ?_
      refine zr_getr hX dX5_high_59 (k := 4) (q := 13) rfl rfl ww_203 rfl ?_
      refine zP_bind h (fun q3 hq3 h => ?_)
      refine zr_callV hX dX5_high_62 (m_R_isSteady rfl hq3) rfl rfl rfl (z5 ww_677 ww_678 ww_679 ww_74 ww_680) hy_X1_isSteady rfl (Nat.le_of_ble_eq_true rfl) (Nat.le_of_ble_eq_true rfl) (Nat.le_of_ble_eq_true rfl) ?_
      refine zr_ifeq (tgt := 74) hX dX5_high_65 rfl h (fun h => ?_) (fun h => ?_)
      · refine zr_iload_n hX dX5_high_74 rfl rfl ?_
        exact zr_iret hX dX5_high_75 hF h
      · refine zr_iinc hX dX5_high_68 rfl (Nat.le_of_ble_eq_true rfl) ?_
        refine zr_goto hX dX5_high_71 (tgt := 39) rfl ?_
        exact zW_lf (k_X_high_39 h) (And.intro rfl (And.intro rfl (And.intro rfl (And.intro rfl trivial))))
set_option maxRecDepth 100000 in
set_option maxHeartbeats 4000000 in
theorem w_X_high_e {X : zX} {G : zG} {v1 : Int} {v2 : Int} {μ : zM} {rv : Option zV} {ν : zM} (hX : zOk X G cX5_high RX5 4 (some .int) 6) (hF : zFin X G rv ν) (h : zP (Sum.elim (k_X_high X G v1 v2) (fun r : (Int × zM) => (some (zI r.1), r.2) = (rv, ν))) (e_X_high v1 v2 μ)) : zW X G 4 0 [some (zR 0), some (zI v1), some (zI v2), none] [] μ := by
  refine zr_aload_n hX dX5_high_0 rfl rfl ?_
  refine zr_getr hX dX5_high_1 (k := 2) (q := 7) rfl rfl ww_201 rfl ?_
  refine zr_getrN hX dX5_high_4 (k := 0) (q := 8) rfl rfl nf_X5_125 rfl ?_
  refine zr_iload_n hX dX5_high_7 rfl rfl ?_
  refine zr_callV hX dX5_high_8 (m_R_isTower rfl) rfl rfl rfl (z5 ww_421 ww_355 ww_356 ww_74 ww_357) hy_X1_isTower rfl (Nat.le_of_ble_eq_true rfl) (Nat.le_of_ble_eq_true rfl) (Nat.le_of_ble_eq_true rfl) ?_
  refine zr_ifeq (tgt := 21) hX dX5_high_11 rfl h (fun h => ?_) (fun h => ?_)
  · refine zr_iconst hX dX5_high_21 (zrl rfl) ?_
    exact zr_iret hX dX5_high_22 hF h
  · refine zr_iload_n hX dX5_high_14 rfl rfl ?_
    refine zr_callS hX dX5_high_15 (m_X_isBorne) rfl (z4 ww_362 ww_363 ww_70 ww_364) hy_X5_isBorne rfl (Nat.le_of_ble_eq_true rfl) (Nat.le_of_ble_eq_true rfl) (Nat.le_of_ble_eq_true rfl) ?_
    refine zr_ifne (tgt := 23) hX dX5_high_18 rfl h (fun h => ?_) (fun h => ?_)
    · refine zr_aload_n hX dX5_high_23 rfl rfl ?_
      refine zr_getr hX dX5_high_24 (k := 4) (q := 13) rfl rfl ww_203 rfl ?_
      refine zr_aload_n hX dX5_high_27 rfl rfl ?_
      refine zr_getr hX dX5_high_28 (k := 2) (q := 7) rfl rfl ww_201 rfl ?_
      refine zr_getrN hX dX5_high_31 (k := 0) (q := 8) rfl rfl nf_X5_125 rfl ?_
      refine zP_bind h (fun q1 hq1 h => ?_)
      refine zr_callV hX dX5_high_34 (m_R_takeFrom rfl rfl hq1) rfl rfl rfl (z5 ww_544 ww_387 ww_388 ww_74 ww_389) hy_X1_takeFrom rfl (Nat.le_of_ble_eq_true rfl) (Nat.le_of_ble_eq_true rfl) (Nat.le_of_ble_eq_true rfl) ?_
      refine zr_iconst hX dX5_high_37 (zrl rfl) ?_
      refine zr_istore_n hX dX5_high_38 rfl (Nat.le_of_ble_eq_true rfl) ?_
      exact zW_lf (k_X_high_39 h) (And.intro rfl (And.intro rfl (And.intro rfl (And.intro rfl trivial))))
    · refine zr_iconst hX dX5_high_21 (zrl rfl) ?_
      exact zr_iret hX dX5_high_22 hF h
set_option maxRecDepth 100000 in
theorem m_X_high {l : Launch} {G : zG} {v1 : Int} {v2 : Int} {μ : zM} {q : Int × zM} (hq : f_X_high v1 v2 μ = some q) : zCT l G yX5_high cX5_high 4 (some .int) 6 [zR 0, zI v1, zI v2] μ (some (zI q.1)) q.2 := by
  refine zMet (lv := [some (zR 0), some (zI v1), some (zI v2), none]) (k := 1) pl_X5 rfl (Nat.le_of_ble_eq_true rfl) (fun X hl hX hF _ _ => ?_)
  refine w_X_high_e hX hF (zgo_K (r := q) (step := t_X_high v1 v2) (fun s h => ?_) rfl hq)
  exact w_X_high_39 hX hF h
set_option maxRecDepth 100000 in
set_option maxHeartbeats 4000000 in
theorem w_G_clear_e {X : zX} {G : zG} {μ : zM} {rv : Option zV} {ν : zM} (hX : zOk X G cX2_clear RX2 1 none 1) (hF : zFin X G rv ν) (h : zP (fun r : zM => ((none : Option zV), r) = (rv, ν)) (f_G_clear μ)) : zW X G 1 0 [some (zR 23)] [] μ := by
  refine zr_aload_n hX dX2_clear_0 rfl rfl ?_
  refine zr_iconst hX dX2_clear_1 (zrl rfl) ?_
  refine zr_puti hX dX2_clear_2 (k := 0) rfl rfl ww_189 rfl (by decide +kernel) ?_
  exact zr_vret hX dX2_clear_5 hF h
set_option maxRecDepth 100000 in
theorem m_G_clear {l : Launch} {G : zG} {μ : zM} {q : zM} (hq : f_G_clear μ = some q) : zCT l G yX2_clear cX2_clear 1 none 1 [zR 23] μ (none) q := by
  refine zMet (lv := [some (zR 23)]) (k := 0) pl_X2 rfl (Nat.le_of_ble_eq_true rfl) (fun X hl hX hF _ _ => ?_)
  exact w_G_clear_e hX hF (zP_of hq rfl)
set_option maxRecDepth 100000 in
set_option maxHeartbeats 4000000 in
theorem w_G_add_e {X : zX} {G : zG} {v1 : Int} {μ : zM} {rv : Option zV} {ν : zM} (hX : zOk X G cX2_add RX2 2 none 1) (hF : zFin X G rv ν) (h : zP (fun r : zM => ((none : Option zV), r) = (rv, ν)) (f_G_add v1 μ)) : zW X G 2 0 [some (zR 23), some (zI v1)] [] μ := by
  refine zr_iload_n hX dX2_add_0 rfl rfl ?_
  refine zr_ifeq (tgt := 36) hX dX2_add_1 rfl h (fun h => ?_) (fun h => ?_)
  · exact zr_vret hX dX2_add_36 hF h
  · refine zr_aload_n hX dX2_add_4 rfl rfl ?_
    refine zr_geti hX dX2_add_5 (k := 0) rfl rfl ww_189 ?_
    refine zr_aload_n hX dX2_add_8 rfl rfl ?_
    refine zr_getr hX dX2_add_9 (k := 1) (q := 24) rfl rfl ww_190 rfl ?_
    refine zr_alen hX dX2_add_12 (N := 12) rfl rfl (zrl rfl) ?_
    refine zr_icmpge (tgt := 36) hX dX2_add_13 rfl h (fun h => ?_) (fun h => ?_)
    · exact zr_vret hX dX2_add_36 hF h
    · refine zr_aload_n hX dX2_add_16 rfl rfl ?_
      refine zr_getr hX dX2_add_17 (k := 1) (q := 24) rfl rfl ww_190 rfl ?_
      refine zr_aload_n hX dX2_add_20 rfl rfl ?_
      refine zr_geti hX dX2_add_21 (k := 0) rfl rfl ww_189 ?_
      refine zr_iload_n hX dX2_add_24 rfl rfl ?_
      refine zr_iast (N := 12) hX dX2_add_25 rfl rfl h (fun h => ?_)
      refine zr_aload_n hX dX2_add_26 rfl rfl ?_
      refine zr_dup hX dX2_add_27 rfl ?_
      refine zr_geti hX dX2_add_28 (k := 0) rfl rfl ww_189 ?_
      refine zr_iconst hX dX2_add_31 (zrl rfl) ?_
      refine zr_iadd hX dX2_add_32 ?_
      refine zr_puti hX dX2_add_33 (k := 0) rfl rfl ww_189 rfl (by decide +kernel) ?_
      exact zr_vret hX dX2_add_36 hF h
set_option maxRecDepth 100000 in
theorem m_G_add {l : Launch} {G : zG} {v1 : Int} {μ : zM} {q : zM} (hq : f_G_add v1 μ = some q) : zCT l G yX2_add cX2_add 2 none 1 [zR 23, zI v1] μ (none) q := by
  refine zMet (lv := [some (zR 23), some (zI v1)]) (k := 0) pl_X2 rfl (Nat.le_of_ble_eq_true rfl) (fun X hl hX hF _ _ => ?_)
  exact w_G_add_e hX hF (zP_of hq rfl)
def k_G_mostGroups (X : zX) (G : zG) (v1 : Int) (μ : zM) : (Int × Int × Int) → Prop := fun s => zW X G 6 7 [some (zR 23), some (zI v1), some (zI s.1), some (zI s.2.1), some (zI s.2.2), none] [] μ
theorem k_G_mostGroups_7 {X : zX} {G : zG} {v1 : Int} {μ : zM} {F : Int → Prop} {v2 v3 v4 : Int} (h : zP (Sum.elim (k_G_mostGroups X G v1 μ) F) (some (.inl ((v2, v3, v4))))) : zW X G 6 7 [some (zR 23), some (zI v1), some (zI v2), some (zI v3), some (zI v4), none] [] μ := h
set_option maxRecDepth 100000 in
set_option maxHeartbeats 4000000 in
theorem w_G_mostGroups_49 {X : zX} {G : zG} {v1 : Int} {μ : zM} {rv : Option zV} {ν : zM} (hX : zOk X G cX2_mostGroups RX2 6 (some .int) 1) (hF : zFin X G rv ν) {v2 v3 v4 v5 : Int} (h : zP (Sum.elim (k_G_mostGroups X G v1 μ) (fun r : Int => (some (zI r), μ) = (rv, ν))) (j_G_mostGroups_49 v1 v2 v3 v4 v5 μ)) : zW X G 6 49 [some (zR 23), some (zI v1), some (zI v2), some (zI v3), some (zI v4), some (zI v5)] [] μ := by
  refine zr_iload hX dX2_mostGroups_49 rfl ?_
  refine zr_iload_n hX dX2_mostGroups_51 rfl rfl ?_
  refine zr_icmpge (tgt := 65) hX dX2_mostGroups_52 rfl h (fun h => ?_) (fun h => ?_)
  · refine zr_iinc hX dX2_mostGroups_65 rfl (Nat.le_of_ble_eq_true rfl) ?_
    refine zr_goto hX dX2_mostGroups_68 (tgt := 7) rfl ?_
    exact zW_lf (k_G_mostGroups_7 h) (And.intro rfl (And.intro rfl (And.intro rfl (And.intro rfl (And.intro rfl trivial)))))
  · refine zr_iload_n hX dX2_mostGroups_55 rfl rfl ?_
    refine zr_aload_n hX dX2_mostGroups_56 rfl rfl ?_
    refine zr_getr hX dX2_mostGroups_57 (k := 1) (q := 24) rfl rfl ww_190 rfl ?_
    refine zr_iload hX dX2_mostGroups_60 rfl ?_
    refine zr_iald (N := 12) hX dX2_mostGroups_62 rfl rfl h (fun h => ?_)
    refine zr_iadd hX dX2_mostGroups_63 ?_
    refine zr_istore_n hX dX2_mostGroups_64 rfl (Nat.le_of_ble_eq_true rfl) ?_
    refine zr_iinc hX dX2_mostGroups_65 rfl (Nat.le_of_ble_eq_true rfl) ?_
    refine zr_goto hX dX2_mostGroups_68 (tgt := 7) rfl ?_
    exact zW_lf (k_G_mostGroups_7 h) (And.intro rfl (And.intro rfl (And.intro rfl (And.intro rfl (And.intro rfl trivial)))))
set_option maxRecDepth 100000 in
set_option maxHeartbeats 4000000 in
theorem w_G_mostGroups_7 {X : zX} {G : zG} {v1 : Int} {μ : zM} {rv : Option zV} {ν : zM} (hX : zOk X G cX2_mostGroups RX2 6 (some .int) 1) (hF : zFin X G rv ν) {v2 v3 v4 : Int} (h : zP (Sum.elim (k_G_mostGroups X G v1 μ) (fun r : Int => (some (zI r), μ) = (rv, ν))) (b_G_mostGroups_7 v1 v2 v3 v4 μ)) : zW X G 6 7 [some (zR 23), some (zI v1), some (zI v2), some (zI v3), some (zI v4), none] [] μ := by
  refine zr_iload hX dX2_mostGroups_7 rfl ?_
  refine zr_aload_n hX dX2_mostGroups_9 rfl rfl ?_
  refine zr_geti hX dX2_mostGroups_10 (k := 0) rfl rfl ww_189 ?_
  refine zr_icmpge (tgt := 71) hX dX2_mostGroups_13 rfl h (fun h => ?_) (fun h => ?_)
  · refine zr_iload_n hX dX2_mostGroups_71 rfl rfl ?_
    refine zr_ifne (tgt := 81) hX dX2_mostGroups_72 rfl h (fun h => ?_) (fun h => ?_)
    · refine zr_iload_n hX dX2_mostGroups_81 rfl rfl ?_
      exact zr_iret hX dX2_mostGroups_82 hF h
    · refine zr_iload_n hX dX2_mostGroups_75 rfl rfl ?_
      refine zr_iconst hX dX2_mostGroups_76 (zrl rfl) ?_
      refine zr_iadd hX dX2_mostGroups_77 ?_
      refine zr_goto hX dX2_mostGroups_78 (tgt := 82) rfl ?_
      exact zr_iret hX dX2_mostGroups_82 hF h
  · refine zr_iload_n hX dX2_mostGroups_16 rfl rfl ?_
    refine zr_iconst hX dX2_mostGroups_17 (zrl rfl) ?_
    refine zr_iload hX dX2_mostGroups_18 rfl ?_
    refine zr_ishl hX dX2_mostGroups_20 ?_
    refine zr_iconst hX dX2_mostGroups_21 (zrl rfl) ?_
    refine zr_ixor hX dX2_mostGroups_22 ?_
    refine zr_iand hX dX2_mostGroups_23 ?_
    refine zr_istore hX dX2_mostGroups_24 (Nat.le_of_ble_eq_true rfl) ?_
    refine zr_iload hX dX2_mostGroups_26 rfl ?_
    refine zr_ifle (tgt := 49) hX dX2_mostGroups_28 rfl h (fun h => ?_) (fun h => ?_)
    · exact zW_lf (w_G_mostGroups_49 hX hF h) (And.intro rfl (And.intro rfl (And.intro rfl (And.intro rfl (And.intro rfl (And.intro rfl trivial))))))
    · refine zr_iload hX dX2_mostGroups_31 rfl ?_
      refine zr_iload_n hX dX2_mostGroups_33 rfl rfl ?_
      refine zr_icmpge (tgt := 49) hX dX2_mostGroups_34 rfl h (fun h => ?_) (fun h => ?_)
      · exact zW_lf (w_G_mostGroups_49 hX hF h) (And.intro rfl (And.intro rfl (And.intro rfl (And.intro rfl (And.intro rfl (And.intro rfl trivial))))))
      · refine zr_iload_n hX dX2_mostGroups_37 rfl rfl ?_
        refine zr_aload_n hX dX2_mostGroups_38 rfl rfl ?_
        refine zr_getr hX dX2_mostGroups_39 (k := 2) (q := 25) rfl rfl ww_191 rfl ?_
        refine zr_iload hX dX2_mostGroups_42 rfl ?_
        refine zr_iald (N := 4096) hX dX2_mostGroups_44 rfl rfl h (fun h => ?_)
        refine zr_max hX dX2_mostGroups_45 (by decide +kernel) (Nat.le_of_ble_eq_true rfl) (Nat.le_of_ble_eq_true rfl) ?_
        refine zr_istore_n hX dX2_mostGroups_48 rfl (Nat.le_of_ble_eq_true rfl) ?_
        exact zW_lf (w_G_mostGroups_49 hX hF h) (And.intro rfl (And.intro rfl (And.intro rfl (And.intro rfl (And.intro rfl (And.intro rfl trivial))))))
set_option maxRecDepth 100000 in
set_option maxHeartbeats 4000000 in
theorem w_G_mostGroups_e {X : zX} {G : zG} {v1 : Int} {μ : zM} {rv : Option zV} {ν : zM} (hX : zOk X G cX2_mostGroups RX2 6 (some .int) 1) (hF : zFin X G rv ν) (h : zP (Sum.elim (k_G_mostGroups X G v1 μ) (fun r : Int => (some (zI r), μ) = (rv, ν))) (e_G_mostGroups v1 μ)) : zW X G 6 0 [some (zR 23), some (zI v1), none, none, none, none] [] μ := by
  refine zr_iconst hX dX2_mostGroups_0 (zrl rfl) ?_
  refine zr_istore_n hX dX2_mostGroups_1 rfl (Nat.le_of_ble_eq_true rfl) ?_
  refine zr_iconst hX dX2_mostGroups_2 (zrl rfl) ?_
  refine zr_istore_n hX dX2_mostGroups_3 rfl (Nat.le_of_ble_eq_true rfl) ?_
  refine zr_iconst hX dX2_mostGroups_4 (zrl rfl) ?_
  refine zr_istore hX dX2_mostGroups_5 (Nat.le_of_ble_eq_true rfl) ?_
  exact zW_lf (k_G_mostGroups_7 h) (And.intro rfl (And.intro rfl (And.intro rfl (And.intro rfl (And.intro rfl trivial)))))
set_option maxRecDepth 100000 in
theorem m_G_mostGroups {l : Launch} {G : zG} {v1 : Int} {μ : zM} {q : Int} (hq : f_G_mostGroups v1 μ = some q) : zCT l G yX2_mostGroups cX2_mostGroups 6 (some .int) 1 [zR 23, zI v1] μ (some (zI q)) μ := by
  refine zMet (lv := [some (zR 23), some (zI v1), none, none, none, none]) (k := 4) pl_X2 rfl (Nat.le_of_ble_eq_true rfl) (fun X hl hX hF _ _ => ?_)
  refine w_G_mostGroups_e hX hF (zgo_K (r := q) (step := t_G_mostGroups v1 μ) (fun s h => ?_) rfl hq)
  exact w_G_mostGroups_7 hX hF h
def k_G_fewestPayments (X : zX) (G : zG) : (Int × Int × zM) → Prop := fun s => zW X G 3 11 [some (zR 23), some (zI s.1), some (zI s.2.1)] [] s.2.2
theorem k_G_fewestPayments_11 {X : zX} {G : zG} {F : (Int × zM) → Prop} {v1 v2 : Int} {κ : zM} (h : zP (Sum.elim (k_G_fewestPayments X G) F) (some (.inl ((v1, v2, κ))))) : zW X G 3 11 [some (zR 23), some (zI v1), some (zI v2)] [] κ := h
set_option maxRecDepth 100000 in
set_option maxHeartbeats 4000000 in
theorem w_G_fewestPayments_42 {X : zX} {G : zG} {μ : zM} {rv : Option zV} {ν : zM} (hX : zOk X G cX2_fewestPayments RX2 3 (some .int) 2) (hF : zFin X G rv ν) {v1 : Int} (h : zP (Sum.elim (k_G_fewestPayments X G) (fun r : (Int × zM) => (some (zI r.1), r.2) = (rv, ν))) (j_G_fewestPayments_42 v1 μ)) : zW X G 3 42 [some (zR 23), some (zI v1), none] [] μ := by
  refine zr_iload_n hX dX2_fewestPayments_42 rfl rfl ?_
  refine zr_ifle (tgt := 69) hX dX2_fewestPayments_43 rfl h (fun h => ?_) (fun h => ?_)
  · refine zr_iconst hX dX2_fewestPayments_69 (zrl rfl) ?_
    exact zr_iret hX dX2_fewestPayments_70 hF h
  · refine zr_iload_n hX dX2_fewestPayments_46 rfl rfl ?_
    refine zr_aload_n hX dX2_fewestPayments_47 rfl rfl ?_
    refine zr_getr hX dX2_fewestPayments_48 (k := 2) (q := 25) rfl rfl ww_191 rfl ?_
    refine zr_alen hX dX2_fewestPayments_51 (N := 4096) rfl rfl (zrl rfl) ?_
    refine zr_icmpge (tgt := 69) hX dX2_fewestPayments_52 rfl h (fun h => ?_) (fun h => ?_)
    · refine zr_iconst hX dX2_fewestPayments_69 (zrl rfl) ?_
      exact zr_iret hX dX2_fewestPayments_70 hF h
    · refine zr_aload_n hX dX2_fewestPayments_55 rfl rfl ?_
      refine zr_geti hX dX2_fewestPayments_56 (k := 0) rfl rfl ww_189 ?_
      refine zr_aload_n hX dX2_fewestPayments_59 rfl rfl ?_
      refine zr_getr hX dX2_fewestPayments_60 (k := 2) (q := 25) rfl rfl ww_191 rfl ?_
      refine zr_iload_n hX dX2_fewestPayments_63 rfl rfl ?_
      refine zr_iald (N := 4096) hX dX2_fewestPayments_64 rfl rfl h (fun h => ?_)
      refine zr_isub hX dX2_fewestPayments_65 ?_
      refine zr_goto hX dX2_fewestPayments_66 (tgt := 70) rfl ?_
      exact zr_iret hX dX2_fewestPayments_70 hF h
set_option maxRecDepth 100000 in
set_option maxHeartbeats 4000000 in
theorem w_G_fewestPayments_11 {X : zX} {G : zG} {μ : zM} {rv : Option zV} {ν : zM} (hX : zOk X G cX2_fewestPayments RX2 3 (some .int) 2) (hF : zFin X G rv ν) {v1 v2 : Int} (h : zP (Sum.elim (k_G_fewestPayments X G) (fun r : (Int × zM) => (some (zI r.1), r.2) = (rv, ν))) (b_G_fewestPayments_11 v1 v2 μ)) : zW X G 3 11 [some (zR 23), some (zI v1), some (zI v2)] [] μ := by
  refine zr_iload_n hX dX2_fewestPayments_11 rfl rfl ?_
  refine zr_iload_n hX dX2_fewestPayments_12 rfl rfl ?_
  refine zr_icmpgt (tgt := 42) hX dX2_fewestPayments_13 rfl h (fun h => ?_) (fun h => ?_)
  · exact zW_lf (w_G_fewestPayments_42 hX hF h) (And.intro rfl (And.intro rfl trivial))
  · refine zr_iload_n hX dX2_fewestPayments_16 rfl rfl ?_
    refine zr_aload_n hX dX2_fewestPayments_17 rfl rfl ?_
    refine zr_getr hX dX2_fewestPayments_18 (k := 2) (q := 25) rfl rfl ww_191 rfl ?_
    refine zr_alen hX dX2_fewestPayments_21 (N := 4096) rfl rfl (zrl rfl) ?_
    refine zr_icmpge (tgt := 42) hX dX2_fewestPayments_22 rfl h (fun h => ?_) (fun h => ?_)
    · exact zW_lf (w_G_fewestPayments_42 hX hF h) (And.intro rfl (And.intro rfl trivial))
    · refine zr_aload_n hX dX2_fewestPayments_25 rfl rfl ?_
      refine zr_getr hX dX2_fewestPayments_26 (k := 2) (q := 25) rfl rfl ww_191 rfl ?_
      refine zr_iload_n hX dX2_fewestPayments_29 rfl rfl ?_
      refine zr_aload_n hX dX2_fewestPayments_30 rfl rfl ?_
      refine zr_iload_n hX dX2_fewestPayments_31 rfl rfl ?_
      refine zP_bind h (fun q1 hq1 h => ?_)
      refine zr_callV hX dX2_fewestPayments_32 (m_G_mostGroups hq1) rfl rfl rfl (z5 ww_720 ww_722 ww_15 ww_76 ww_723) hy_X2_mostGroups rfl (Nat.le_of_ble_eq_true rfl) (Nat.le_of_ble_eq_true rfl) (Nat.le_of_ble_eq_true rfl) ?_
      refine zr_iast (N := 4096) hX dX2_fewestPayments_35 rfl rfl h (fun h => ?_)
      refine zr_iinc hX dX2_fewestPayments_36 rfl (Nat.le_of_ble_eq_true rfl) ?_
      refine zr_goto hX dX2_fewestPayments_39 (tgt := 11) rfl ?_
      exact zW_lf (k_G_fewestPayments_11 h) (And.intro rfl (And.intro rfl (And.intro rfl trivial)))
set_option maxRecDepth 100000 in
set_option maxHeartbeats 4000000 in
theorem w_G_fewestPayments_e {X : zX} {G : zG} {μ : zM} {rv : Option zV} {ν : zM} (hX : zOk X G cX2_fewestPayments RX2 3 (some .int) 2) (hF : zFin X G rv ν) (h : zP (Sum.elim (k_G_fewestPayments X G) (fun r : (Int × zM) => (some (zI r.1), r.2) = (rv, ν))) (e_G_fewestPayments μ)) : zW X G 3 0 [some (zR 23), none, none] [] μ := by
  refine zr_iconst hX dX2_fewestPayments_0 (zrl rfl) ?_
  refine zr_aload_n hX dX2_fewestPayments_1 rfl rfl ?_
  refine zr_geti hX dX2_fewestPayments_2 (k := 0) rfl rfl ww_189 ?_
  refine zr_ishl hX dX2_fewestPayments_5 ?_
  refine zr_iconst hX dX2_fewestPayments_6 (zrl rfl) ?_
  refine zr_isub hX dX2_fewestPayments_7 ?_
  refine zr_istore_n hX dX2_fewestPayments_8 rfl (Nat.le_of_ble_eq_true rfl) ?_
  refine zr_iconst hX dX2_fewestPayments_9 (zrl rfl) ?_
  refine zr_istore_n hX dX2_fewestPayments_10 rfl (Nat.le_of_ble_eq_true rfl) ?_
  exact zW_lf (k_G_fewestPayments_11 h) (And.intro rfl (And.intro rfl (And.intro rfl trivial)))
set_option maxRecDepth 100000 in
theorem m_G_fewestPayments {l : Launch} {G : zG} {μ : zM} {q : Int × zM} (hq : f_G_fewestPayments μ = some q) : zCT l G yX2_fewestPayments cX2_fewestPayments 3 (some .int) 2 [zR 23] μ (some (zI q.1)) q.2 := by
  refine zMet (lv := [some (zR 23), none, none]) (k := 2) pl_X2 rfl (Nat.le_of_ble_eq_true rfl) (fun X hl hX hF _ _ => ?_)
  refine w_G_fewestPayments_e hX hF (zgo_K (r := q) (step := t_G_fewestPayments) (fun s h => ?_) rfl hq)
  exact w_G_fewestPayments_11 hX hF h
def k_X_settle (X : zX) (G : zG) : (Int × zM) → Prop := fun s => zW X G 2 23 [some (zR 0), some (zI s.1)] [] s.2
theorem k_X_settle_23 {X : zX} {G : zG} {F : (Int × zM) → Prop} {v1 : Int} {κ : zM} (h : zP (Sum.elim (k_X_settle X G) F) (some (.inl ((v1, κ))))) : zW X G 2 23 [some (zR 0), some (zI v1)] [] κ := h
set_option maxRecDepth 100000 in
set_option maxHeartbeats 4000000 in
theorem w_X_settle_23 {X : zX} {G : zG} {μ : zM} {rv : Option zV} {ν : zM} (hX : zOk X G cX5_settle RX5 2 (some .int) 6) (hF : zFin X G rv ν) {v1 : Int} (h : zP (Sum.elim (k_X_settle X G) (fun r : (Int × zM) => (some (zI r.1), r.2) = (rv, ν))) (b_X_settle_23 v1 μ)) : zW X G 2 23 [some (zR 0), some (zI v1)] [] μ := by
  refine zr_iload_n hX dX5_settle_23 rfl rfl ?_
  refine zr_aload_n hX dX5_settle_24 rfl rfl ?_
  refine zr_getr hX dX5_settle_25 (k := 2) (q := 7) rfl rfl ww_201 rfl ?_
  refine zr_getrN hX dX5_settle_28 (k := 0) (q := 8) rfl rfl nf_X5_125 rfl ?_
  refine zr_callV hX dX5_settle_31 (m_R_houseCount rfl) rfl rfl rfl (z5 ww_659 ww_437 ww_438 ww_74 ww_439) hy_X1_houseCount rfl (Nat.le_of_ble_eq_true rfl) (Nat.le_of_ble_eq_true rfl) (Nat.le_of_ble_eq_true rfl) ?_
  refine zr_icmpge (tgt := 58) hX dX5_settle_34 rfl h (fun h => ?_) (fun h => ?_)
  · refine zr_aload_n hX dX5_settle_58 rfl rfl ?_
    refine zr_getr hX dX5_settle_59 (k := 6) (q := 23) rfl rfl ww_205 rfl ?_
    refine zP_bind h (fun q3 hq3 h => ?_)
    refine zr_callV hX dX5_settle_62 (m_G_fewestPayments hq3) rfl rfl rfl (z5 ww_716 ww_717 ww_718 ww_76 ww_719) hy_X2_fewestPayments rfl (Nat.le_of_ble_eq_true rfl) (Nat.le_of_ble_eq_true rfl) (Nat.le_of_ble_eq_true rfl) ?_
    exact zr_iret hX dX5_settle_65 hF h
  · refine zr_aload_n hX dX5_settle_37 rfl rfl ?_
    refine zr_getr hX dX5_settle_38 (k := 6) (q := 23) rfl rfl ww_205 rfl ?_
    refine zr_aload_n hX dX5_settle_41 rfl rfl ?_
    refine zr_getr hX dX5_settle_42 (k := 5) (q := 16) rfl rfl ww_204 rfl ?_
    refine zr_iload_n hX dX5_settle_45 rfl rfl ?_
    refine zP_bind h (fun q4 hq4 h => ?_)
    refine zr_callV hX dX5_settle_46 (m_L_debtOf hq4) rfl rfl rfl (z5 ww_640 ww_641 ww_642 ww_75 ww_643) hy_X0_debtOf rfl (Nat.le_of_ble_eq_true rfl) (Nat.le_of_ble_eq_true rfl) (Nat.le_of_ble_eq_true rfl) ?_
    refine zP_bind h (fun q5 hq5 h => ?_)
    refine zr_callV hX dX5_settle_49 (m_G_add hq5) rfl rfl rfl (z5 ww_712 ww_713 ww_714 ww_76 ww_715) hy_X2_add rfl (Nat.le_of_ble_eq_true rfl) (Nat.le_of_ble_eq_true rfl) (Nat.le_of_ble_eq_true rfl) ?_
    refine zr_iinc hX dX5_settle_52 rfl (Nat.le_of_ble_eq_true rfl) ?_
    refine zr_goto hX dX5_settle_55 (tgt := 23) rfl ?_
    exact zW_lf (k_X_settle_23 h) (And.intro rfl (And.intro rfl trivial))
set_option maxRecDepth 100000 in
set_option maxHeartbeats 4000000 in
theorem w_X_settle_e {X : zX} {G : zG} {μ : zM} {rv : Option zV} {ν : zM} (hX : zOk X G cX5_settle RX5 2 (some .int) 6) (hF : zFin X G rv ν) (h : zP (Sum.elim (k_X_settle X G) (fun r : (Int × zM) => (some (zI r.1), r.2) = (rv, ν))) (e_X_settle μ)) : zW X G 2 0 [some (zR 0), none] [] μ := by
  refine zr_aload_n hX dX5_settle_0 rfl rfl ?_
  refine zr_getr hX dX5_settle_1 (k := 5) (q := 16) rfl rfl ww_204 rfl ?_
  refine zr_aload_n hX dX5_settle_4 rfl rfl ?_
  refine zr_getr hX dX5_settle_5 (k := 2) (q := 7) rfl rfl ww_201 rfl ?_
  refine zr_getrN hX dX5_settle_8 (k := 0) (q := 8) rfl rfl nf_X5_125 rfl ?_
  refine zP_bind h (fun q1 hq1 h => ?_)
  refine zr_callV hX dX5_settle_11 (m_L_reckon rfl hq1) rfl rfl rfl (z5 ww_432 ww_433 ww_434 ww_75 ww_435) hy_X0_reckon rfl (Nat.le_of_ble_eq_true rfl) (Nat.le_of_ble_eq_true rfl) (Nat.le_of_ble_eq_true rfl) ?_
  refine zr_aload_n hX dX5_settle_14 rfl rfl ?_
  refine zr_getr hX dX5_settle_15 (k := 6) (q := 23) rfl rfl ww_205 rfl ?_
  refine zP_bind h (fun q2 hq2 h => ?_)
  refine zr_callV hX dX5_settle_18 (m_G_clear hq2) rfl rfl rfl (z5 ww_708 ww_709 ww_710 ww_76 ww_711) hy_X2_clear rfl (Nat.le_of_ble_eq_true rfl) (Nat.le_of_ble_eq_true rfl) (Nat.le_of_ble_eq_true rfl) ?_
  refine zr_iconst hX dX5_settle_21 (zrl rfl) ?_
  refine zr_istore_n hX dX5_settle_22 rfl (Nat.le_of_ble_eq_true rfl) ?_
  exact zW_lf (k_X_settle_23 h) (And.intro rfl (And.intro rfl trivial))
set_option maxRecDepth 100000 in
theorem m_X_settle {l : Launch} {G : zG} {μ : zM} {q : Int × zM} (hq : f_X_settle μ = some q) : zCT l G yX5_settle cX5_settle 2 (some .int) 6 [zR 0] μ (some (zI q.1)) q.2 := by
  refine zMet (lv := [some (zR 0), none]) (k := 1) pl_X5 rfl (Nat.le_of_ble_eq_true rfl) (fun X hl hX hF _ _ => ?_)
  refine w_X_settle_e hX hF (zgo_K (r := q) (step := t_X_settle) (fun s h => ?_) rfl hq)
  exact w_X_settle_23 hX hF h
def k_L_mutualPairs (X : zX) (G : zG) (μ : zM) : ((Int × Int) ⊕ (Int × Int × Int)) → Prop := fun s => match s with
  | .inl (s) => zW X G 4 4 [some (zR 16), some (zI s.1), some (zI s.2), none] [] μ
  | .inr (s) => zW X G 4 16 [some (zR 16), some (zI s.1), some (zI s.2.1), some (zI s.2.2)] [] μ
theorem k_L_mutualPairs_4 {X : zX} {G : zG} {μ : zM} {F : Int → Prop} {v1 v2 : Int} (h : zP (Sum.elim (k_L_mutualPairs X G μ) F) (some (.inl (.inl ((v1, v2)))))) : zW X G 4 4 [some (zR 16), some (zI v1), some (zI v2), none] [] μ := h
theorem k_L_mutualPairs_16 {X : zX} {G : zG} {μ : zM} {F : Int → Prop} {v1 v2 v3 : Int} (h : zP (Sum.elim (k_L_mutualPairs X G μ) F) (some (.inl (.inr ((v1, v2, v3)))))) : zW X G 4 16 [some (zR 16), some (zI v1), some (zI v2), some (zI v3)] [] μ := h
set_option maxRecDepth 100000 in
set_option maxHeartbeats 4000000 in
theorem w_L_mutualPairs_4 {X : zX} {G : zG} {μ : zM} {rv : Option zV} {ν : zM} (hX : zOk X G cX0_mutualPairs RX0 4 (some .int) 3) (hF : zFin X G rv ν) {v1 v2 : Int} (h : zP (Sum.elim (k_L_mutualPairs X G μ) (fun r : Int => (some (zI r), μ) = (rv, ν))) (b_L_mutualPairs_4 v1 v2 μ)) : zW X G 4 4 [some (zR 16), some (zI v1), some (zI v2), none] [] μ := by
  refine zr_iload_n hX dX0_mutualPairs_4 rfl rfl ?_
  refine zr_aload_n hX dX0_mutualPairs_5 rfl rfl ?_
  refine zr_geti hX dX0_mutualPairs_6 (k := 0) rfl rfl ww_157 ?_
  refine zr_icmpge (tgt := 57) hX dX0_mutualPairs_9 rfl h (fun h => ?_) (fun h => ?_)
  · refine zr_iload_n hX dX0_mutualPairs_57 rfl rfl ?_
    exact zr_iret hX dX0_mutualPairs_58 hF h
  · refine zr_iload_n hX dX0_mutualPairs_12 rfl rfl ?_
    refine zr_iconst hX dX0_mutualPairs_13 (zrl rfl) ?_
    refine zr_iadd hX dX0_mutualPairs_14 ?_
    refine zr_istore_n hX dX0_mutualPairs_15 rfl (Nat.le_of_ble_eq_true rfl) ?_
    exact zW_lf (k_L_mutualPairs_16 h) (And.intro rfl (And.intro rfl (And.intro rfl (And.intro rfl trivial))))
set_option maxRecDepth 100000 in
set_option maxHeartbeats 4000000 in
theorem w_L_mutualPairs_16 {X : zX} {G : zG} {μ : zM} {rv : Option zV} {ν : zM} (hX : zOk X G cX0_mutualPairs RX0 4 (some .int) 3) (hF : zFin X G rv ν) {v1 v2 v3 : Int} (h : zP (Sum.elim (k_L_mutualPairs X G μ) (fun r : Int => (some (zI r), μ) = (rv, ν))) (b_L_mutualPairs_16 v1 v2 v3 μ)) : zW X G 4 16 [some (zR 16), some (zI v1), some (zI v2), some (zI v3)] [] μ := by
  refine zr_iload_n hX dX0_mutualPairs_16 rfl rfl ?_
  refine zr_aload_n hX dX0_mutualPairs_17 rfl rfl ?_
  refine zr_geti hX dX0_mutualPairs_18 (k := 0) rfl rfl ww_157 ?_
  refine zr_icmpge (tgt := 51) hX dX0_mutualPairs_21 rfl h (fun h => ?_) (fun h => ?_)
  · refine zr_iinc hX dX0_mutualPairs_51 rfl (Nat.le_of_ble_eq_true rfl) ?_
    refine zr_goto hX dX0_mutualPairs_54 (tgt := 4) rfl ?_
    exact zW_lf (k_L_mutualPairs_4 h) (And.intro rfl (And.intro rfl (And.intro rfl trivial)))
  · refine zr_aload_n hX dX0_mutualPairs_24 rfl rfl ?_
    refine zr_iload_n hX dX0_mutualPairs_25 rfl rfl ?_
    refine zr_iload_n hX dX0_mutualPairs_26 rfl rfl ?_
    refine zP_bind h (fun q1 hq1 h => ?_)
    refine zr_callV hX dX0_mutualPairs_27 (m_L_lampsFromTo hq1) rfl rfl rfl (z5 ww_733 ww_633 ww_634 ww_75 ww_635) hy_X0_lampsFromTo rfl (Nat.le_of_ble_eq_true rfl) (Nat.le_of_ble_eq_true rfl) (Nat.le_of_ble_eq_true rfl) ?_
    refine zr_ifle (tgt := 45) hX dX0_mutualPairs_30 rfl h (fun h => ?_) (fun h => ?_)
    · refine zr_iinc hX dX0_mutualPairs_45 rfl (Nat.le_of_ble_eq_true rfl) ?_
      refine zr_goto hX dX0_mutualPairs_48 (tgt := 16) rfl ?_
      exact zW_lf (k_L_mutualPairs_16 h) (And.intro rfl (And.intro rfl (And.intro rfl (And.intro rfl trivial))))
    · refine zr_aload_n hX dX0_mutualPairs_33 rfl rfl ?_
      refine zr_iload_n hX dX0_mutualPairs_34 rfl rfl ?_
      refine zr_iload_n hX dX0_mutualPairs_35 rfl rfl ?_
      refine zP_bind h (fun q2 hq2 h => ?_)
      refine zr_callV hX dX0_mutualPairs_36 (m_L_lampsFromTo hq2) rfl rfl rfl (z5 ww_733 ww_633 ww_634 ww_75 ww_635) hy_X0_lampsFromTo rfl (Nat.le_of_ble_eq_true rfl) (Nat.le_of_ble_eq_true rfl) (Nat.le_of_ble_eq_true rfl) ?_
      refine zr_ifle (tgt := 45) hX dX0_mutualPairs_39 rfl h (fun h => ?_) (fun h => ?_)
      · refine zr_iinc hX dX0_mutualPairs_45 rfl (Nat.le_of_ble_eq_true rfl) ?_
        refine zr_goto hX dX0_mutualPairs_48 (tgt := 16) rfl ?_
        exact zW_lf (k_L_mutualPairs_16 h) (And.intro rfl (And.intro rfl (And.intro rfl (And.intro rfl trivial))))
      · refine zr_iinc hX dX0_mutualPairs_42 rfl (Nat.le_of_ble_eq_true rfl) ?_
        refine zr_iinc hX dX0_mutualPairs_45 rfl (Nat.le_of_ble_eq_true rfl) ?_
        refine zr_goto hX dX0_mutualPairs_48 (tgt := 16) rfl ?_
        exact zW_lf (k_L_mutualPairs_16 h) (And.intro rfl (And.intro rfl (And.intro rfl (And.intro rfl trivial))))
set_option maxRecDepth 100000 in
set_option maxHeartbeats 4000000 in
theorem w_L_mutualPairs_e {X : zX} {G : zG} {μ : zM} {rv : Option zV} {ν : zM} (hX : zOk X G cX0_mutualPairs RX0 4 (some .int) 3) (hF : zFin X G rv ν) (h : zP (Sum.elim (k_L_mutualPairs X G μ) (fun r : Int => (some (zI r), μ) = (rv, ν))) (e_L_mutualPairs μ)) : zW X G 4 0 [some (zR 16), none, none, none] [] μ := by
  refine zr_iconst hX dX0_mutualPairs_0 (zrl rfl) ?_
  refine zr_istore_n hX dX0_mutualPairs_1 rfl (Nat.le_of_ble_eq_true rfl) ?_
  refine zr_iconst hX dX0_mutualPairs_2 (zrl rfl) ?_
  refine zr_istore_n hX dX0_mutualPairs_3 rfl (Nat.le_of_ble_eq_true rfl) ?_
  exact zW_lf (k_L_mutualPairs_4 h) (And.intro rfl (And.intro rfl (And.intro rfl trivial)))
set_option maxRecDepth 100000 in
theorem m_L_mutualPairs {l : Launch} {G : zG} {μ : zM} {q : Int} (hq : f_L_mutualPairs μ = some q) : zCT l G yX0_mutualPairs cX0_mutualPairs 4 (some .int) 3 [zR 16] μ (some (zI q)) μ := by
  refine zMet (lv := [some (zR 16), none, none, none]) (k := 3) pl_X0 rfl (Nat.le_of_ble_eq_true rfl) (fun X hl hX hF _ _ => ?_)
  refine w_L_mutualPairs_e hX hF (zgo_K (r := q) (step := t_L_mutualPairs μ) (fun s h => ?_) rfl hq)
  cases s with
  | inl s => exact w_L_mutualPairs_4 hX hF h
  | inr s => exact w_L_mutualPairs_16 hX hF h
def k_L_owedBy (X : zX) (G : zG) (v1 : Int) (μ : zM) : (Int × Int) → Prop := fun s => zW X G 4 4 [some (zR 16), some (zI v1), some (zI s.1), some (zI s.2)] [] μ
theorem k_L_owedBy_4 {X : zX} {G : zG} {v1 : Int} {μ : zM} {F : Int → Prop} {v2 v3 : Int} (h : zP (Sum.elim (k_L_owedBy X G v1 μ) F) (some (.inl ((v2, v3))))) : zW X G 4 4 [some (zR 16), some (zI v1), some (zI v2), some (zI v3)] [] μ := h
set_option maxRecDepth 100000 in
set_option maxHeartbeats 4000000 in
theorem w_L_owedBy_4 {X : zX} {G : zG} {v1 : Int} {μ : zM} {rv : Option zV} {ν : zM} (hX : zOk X G cX0_owedBy RX0 4 (some .int) 3) (hF : zFin X G rv ν) {v2 v3 : Int} (h : zP (Sum.elim (k_L_owedBy X G v1 μ) (fun r : Int => (some (zI r), μ) = (rv, ν))) (b_L_owedBy_4 v1 v2 v3 μ)) : zW X G 4 4 [some (zR 16), some (zI v1), some (zI v2), some (zI v3)] [] μ := by
  refine zr_iload_n hX dX0_owedBy_4 rfl rfl ?_
  refine zr_aload_n hX dX0_owedBy_5 rfl rfl ?_
  refine zr_geti hX dX0_owedBy_6 (k := 0) rfl rfl ww_157 ?_
  refine zr_icmpge (tgt := 33) hX dX0_owedBy_9 rfl h (fun h => ?_) (fun h => ?_)
  · refine zr_iload_n hX dX0_owedBy_33 rfl rfl ?_
    exact zr_iret hX dX0_owedBy_34 hF h
  · refine zr_aload_n hX dX0_owedBy_12 rfl rfl ?_
    refine zr_iload_n hX dX0_owedBy_13 rfl rfl ?_
    refine zr_iload_n hX dX0_owedBy_14 rfl rfl ?_
    refine zP_bind h (fun q1 hq1 h => ?_)
    refine zr_callV hX dX0_owedBy_15 (m_L_lampsFromTo hq1) rfl rfl rfl (z5 ww_733 ww_633 ww_634 ww_75 ww_635) hy_X0_lampsFromTo rfl (Nat.le_of_ble_eq_true rfl) (Nat.le_of_ble_eq_true rfl) (Nat.le_of_ble_eq_true rfl) ?_
    refine zr_ifle (tgt := 27) hX dX0_owedBy_18 rfl h (fun h => ?_) (fun h => ?_)
    · refine zr_iinc hX dX0_owedBy_27 rfl (Nat.le_of_ble_eq_true rfl) ?_
      refine zr_goto hX dX0_owedBy_30 (tgt := 4) rfl ?_
      exact zW_lf (k_L_owedBy_4 h) (And.intro rfl (And.intro rfl (And.intro rfl (And.intro rfl trivial))))
    · refine zr_iload_n hX dX0_owedBy_21 rfl rfl ?_
      refine zr_iconst hX dX0_owedBy_22 (zrl rfl) ?_
      refine zr_iload_n hX dX0_owedBy_23 rfl rfl ?_
      refine zr_ishl hX dX0_owedBy_24 ?_
      refine zr_ior hX dX0_owedBy_25 ?_
      refine zr_istore_n hX dX0_owedBy_26 rfl (Nat.le_of_ble_eq_true rfl) ?_
      refine zr_iinc hX dX0_owedBy_27 rfl (Nat.le_of_ble_eq_true rfl) ?_
      refine zr_goto hX dX0_owedBy_30 (tgt := 4) rfl ?_
      exact zW_lf (k_L_owedBy_4 h) (And.intro rfl (And.intro rfl (And.intro rfl (And.intro rfl trivial))))
set_option maxRecDepth 100000 in
set_option maxHeartbeats 4000000 in
theorem w_L_owedBy_e {X : zX} {G : zG} {v1 : Int} {μ : zM} {rv : Option zV} {ν : zM} (hX : zOk X G cX0_owedBy RX0 4 (some .int) 3) (hF : zFin X G rv ν) (h : zP (Sum.elim (k_L_owedBy X G v1 μ) (fun r : Int => (some (zI r), μ) = (rv, ν))) (e_L_owedBy v1 μ)) : zW X G 4 0 [some (zR 16), some (zI v1), none, none] [] μ := by
  refine zr_iconst hX dX0_owedBy_0 (zrl rfl) ?_
  refine zr_istore_n hX dX0_owedBy_1 rfl (Nat.le_of_ble_eq_true rfl) ?_
  refine zr_iconst hX dX0_owedBy_2 (zrl rfl) ?_
  refine zr_istore_n hX dX0_owedBy_3 rfl (Nat.le_of_ble_eq_true rfl) ?_
  exact zW_lf (k_L_owedBy_4 h) (And.intro rfl (And.intro rfl (And.intro rfl (And.intro rfl trivial))))
set_option maxRecDepth 100000 in
theorem m_L_owedBy {l : Launch} {G : zG} {v1 : Int} {μ : zM} {q : Int} (hq : f_L_owedBy v1 μ = some q) : zCT l G yX0_owedBy cX0_owedBy 4 (some .int) 3 [zR 16, zI v1] μ (some (zI q)) μ := by
  refine zMet (lv := [some (zR 16), some (zI v1), none, none]) (k := 2) pl_X0 rfl (Nat.le_of_ble_eq_true rfl) (fun X hl hX hF _ _ => ?_)
  refine w_L_owedBy_e hX hF (zgo_K (r := q) (step := t_L_owedBy v1 μ) (fun s h => ?_) rfl hq)
  exact w_L_owedBy_4 hX hF h
def k_L_ringed (X : zX) (G : zG) : ((Int × zM) ⊕ (Int × zM) ⊕ (Int × Int × zM) ⊕ (Int × Int × zM)) → Prop := fun s => match s with
  | .inl (s) => zW X G 3 2 [some (zR 16), some (zI s.1), none] [] s.2
  | .inr (.inl (s)) => zW X G 3 29 [some (zR 16), some (zI s.1), none] [] s.2
  | .inr (.inr (.inl (s))) => zW X G 3 91 [some (zR 16), some (zI s.1), some (zI s.2.1)] [] s.2.2
  | .inr (.inr (.inr (s))) => zW X G 3 39 [some (zR 16), some (zI s.1), some (zI s.2.1)] [] s.2.2
theorem k_L_ringed_2 {X : zX} {G : zG} {F : (Int × zM) → Prop} {v1 : Int} {κ : zM} (h : zP (Sum.elim (k_L_ringed X G) F) (some (.inl (.inl ((v1, κ)))))) : zW X G 3 2 [some (zR 16), some (zI v1), none] [] κ := h
theorem k_L_ringed_29 {X : zX} {G : zG} {F : (Int × zM) → Prop} {v1 : Int} {κ : zM} (h : zP (Sum.elim (k_L_ringed X G) F) (some (.inl (.inr (.inl ((v1, κ))))))) : zW X G 3 29 [some (zR 16), some (zI v1), none] [] κ := h
theorem k_L_ringed_91 {X : zX} {G : zG} {F : (Int × zM) → Prop} {v1 v2 : Int} {κ : zM} (h : zP (Sum.elim (k_L_ringed X G) F) (some (.inl (.inr (.inr (.inl ((v1, v2, κ)))))))) : zW X G 3 91 [some (zR 16), some (zI v1), some (zI v2)] [] κ := h
theorem k_L_ringed_39 {X : zX} {G : zG} {F : (Int × zM) → Prop} {v1 v2 : Int} {κ : zM} (h : zP (Sum.elim (k_L_ringed X G) F) (some (.inl (.inr (.inr (.inr ((v1, v2, κ)))))))) : zW X G 3 39 [some (zR 16), some (zI v1), some (zI v2)] [] κ := h
set_option maxRecDepth 100000 in
set_option maxHeartbeats 4000000 in
theorem w_L_ringed_2 {X : zX} {G : zG} {μ : zM} {rv : Option zV} {ν : zM} (hX : zOk X G cX0_ringed RX0 3 (some .int) 4) (hF : zFin X G rv ν) {v1 : Int} (h : zP (Sum.elim (k_L_ringed X G) (fun r : (Int × zM) => (some (zI r.1), r.2) = (rv, ν))) (b_L_ringed_2 v1 μ)) : zW X G 3 2 [some (zR 16), some (zI v1), none] [] μ := by
  refine zr_iload_n hX dX0_ringed_2 rfl rfl ?_
  refine zr_aload_n hX dX0_ringed_3 rfl rfl ?_
  refine zr_geti hX dX0_ringed_4 (k := 0) rfl rfl ww_157 ?_
  refine zr_icmpge (tgt := 27) hX dX0_ringed_7 rfl h (fun h => ?_) (fun h => ?_)
  · refine zr_iconst hX dX0_ringed_27 (zrl rfl) ?_
    refine zr_istore_n hX dX0_ringed_28 rfl (Nat.le_of_ble_eq_true rfl) ?_
    exact zW_lf (k_L_ringed_29 h) (And.intro rfl (And.intro rfl trivial))
  · refine zr_aload_n hX dX0_ringed_10 rfl rfl ?_
    refine zr_getr hX dX0_ringed_11 (k := 7) (q := 22) rfl rfl ww_165 rfl ?_
    refine zr_iload_n hX dX0_ringed_14 rfl rfl ?_
    refine zr_aload_n hX dX0_ringed_15 rfl rfl ?_
    refine zr_iload_n hX dX0_ringed_16 rfl rfl ?_
    refine zP_bind h (fun q1 hq1 h => ?_)
    refine zr_callV hX dX0_ringed_17 (m_L_owedBy hq1) rfl rfl rfl (z5 ww_738 ww_740 ww_16 ww_75 ww_741) hy_X0_owedBy rfl (Nat.le_of_ble_eq_true rfl) (Nat.le_of_ble_eq_true rfl) (Nat.le_of_ble_eq_true rfl) ?_
    refine zr_iast (N := 12) hX dX0_ringed_20 rfl rfl h (fun h => ?_)
    refine zr_iinc hX dX0_ringed_21 rfl (Nat.le_of_ble_eq_true rfl) ?_
    refine zr_goto hX dX0_ringed_24 (tgt := 2) rfl ?_
    exact zW_lf (k_L_ringed_2 h) (And.intro rfl (And.intro rfl trivial))
set_option maxRecDepth 100000 in
set_option maxHeartbeats 4000000 in
theorem w_L_ringed_29 {X : zX} {G : zG} {μ : zM} {rv : Option zV} {ν : zM} (hX : zOk X G cX0_ringed RX0 3 (some .int) 4) (hF : zFin X G rv ν) {v1 : Int} (h : zP (Sum.elim (k_L_ringed X G) (fun r : (Int × zM) => (some (zI r.1), r.2) = (rv, ν))) (b_L_ringed_29 v1 μ)) : zW X G 3 29 [some (zR 16), some (zI v1), none] [] μ := by
  refine zr_iload_n hX dX0_ringed_29 rfl rfl ?_
  refine zr_aload_n hX dX0_ringed_30 rfl rfl ?_
  refine zr_geti hX dX0_ringed_31 (k := 0) rfl rfl ww_157 ?_
  refine zr_icmpge (tgt := 87) hX dX0_ringed_34 rfl h (fun h => ?_) (fun h => ?_)
  · refine zr_iconst hX dX0_ringed_87 (zrl rfl) ?_
    refine zr_istore_n hX dX0_ringed_88 rfl (Nat.le_of_ble_eq_true rfl) ?_
    refine zr_iconst hX dX0_ringed_89 (zrl rfl) ?_
    refine zr_istore_n hX dX0_ringed_90 rfl (Nat.le_of_ble_eq_true rfl) ?_
    exact zW_lf (k_L_ringed_91 h) (And.intro rfl (And.intro rfl (And.intro rfl trivial)))
  · refine zr_iconst hX dX0_ringed_37 (zrl rfl) ?_
    refine zr_istore_n hX dX0_ringed_38 rfl (Nat.le_of_ble_eq_true rfl) ?_
    exact zW_lf (k_L_ringed_39 h) (And.intro rfl (And.intro rfl (And.intro rfl trivial)))
set_option maxRecDepth 100000 in
set_option maxHeartbeats 4000000 in
theorem w_L_ringed_91 {X : zX} {G : zG} {μ : zM} {rv : Option zV} {ν : zM} (hX : zOk X G cX0_ringed RX0 3 (some .int) 4) (hF : zFin X G rv ν) {v1 v2 : Int} (h : zP (Sum.elim (k_L_ringed X G) (fun r : (Int × zM) => (some (zI r.1), r.2) = (rv, ν))) (b_L_ringed_91 v1 v2 μ)) : zW X G 3 91 [some (zR 16), some (zI v1), some (zI v2)] [] μ := by
  refine zr_iload_n hX dX0_ringed_91 rfl rfl ?_
  refine zr_aload_n hX dX0_ringed_92 rfl rfl ?_
  refine zr_geti hX dX0_ringed_93 (k := 0) rfl rfl ww_157 ?_
  refine zr_icmpge (tgt := 118) hX dX0_ringed_96 rfl h (fun h => ?_) (fun h => ?_)
  · refine zr_iload_n hX dX0_ringed_118 rfl rfl ?_
    exact zr_iret hX dX0_ringed_119 hF h
  · refine zr_iload_n hX dX0_ringed_99 rfl rfl ?_
    refine zr_aload_n hX dX0_ringed_100 rfl rfl ?_
    refine zr_getr hX dX0_ringed_101 (k := 7) (q := 22) rfl rfl ww_165 rfl ?_
    refine zr_iload_n hX dX0_ringed_104 rfl rfl ?_
    refine zr_iald (N := 12) hX dX0_ringed_105 rfl rfl h (fun h => ?_)
    refine zr_iconst hX dX0_ringed_106 (zrl rfl) ?_
    refine zr_iload_n hX dX0_ringed_107 rfl rfl ?_
    refine zr_ishl hX dX0_ringed_108 ?_
    refine zr_iand hX dX0_ringed_109 ?_
    refine zr_ior hX dX0_ringed_110 ?_
    refine zr_istore_n hX dX0_ringed_111 rfl (Nat.le_of_ble_eq_true rfl) ?_
    refine zr_iinc hX dX0_ringed_112 rfl (Nat.le_of_ble_eq_true rfl) ?_
    refine zr_goto hX dX0_ringed_115 (tgt := 91) rfl ?_
    exact zW_lf (k_L_ringed_91 h) (And.intro rfl (And.intro rfl (And.intro rfl trivial)))
set_option maxRecDepth 100000 in
set_option maxHeartbeats 4000000 in
theorem w_L_ringed_39 {X : zX} {G : zG} {μ : zM} {rv : Option zV} {ν : zM} (hX : zOk X G cX0_ringed RX0 3 (some .int) 4) (hF : zFin X G rv ν) {v1 v2 : Int} (h : zP (Sum.elim (k_L_ringed X G) (fun r : (Int × zM) => (some (zI r.1), r.2) = (rv, ν))) (b_L_ringed_39 v1 v2 μ)) : zW X G 3 39 [some (zR 16), some (zI v1), some (zI v2)] [] μ := by
  refine zr_iload_n hX dX0_ringed_39 rfl rfl ?_
  refine zr_aload_n hX dX0_ringed_40 rfl rfl ?_
  refine zr_geti hX dX0_ringed_41 (k := 0) rfl rfl ww_157 ?_
  refine zr_icmpge (tgt := 81) hX dX0_ringed_44 rfl h (fun h => ?_) (fun h => ?_)
  · refine zr_iinc hX dX0_ringed_81 rfl (Nat.le_of_ble_eq_true rfl) ?_
    refine zr_goto hX dX0_ringed_84 (tgt := 29) rfl ?_
    exact zW_lf (k_L_ringed_29 h) (And.intro rfl (And.intro rfl trivial))
  · refine zr_aload_n hX dX0_ringed_47 rfl rfl ?_
    refine zr_getr hX dX0_ringed_48 (k := 7) (q := 22) rfl rfl ww_165 rfl ?_
    refine zr_iload_n hX dX0_ringed_51 rfl rfl ?_
    refine zr_iald (N := 12) hX dX0_ringed_52 rfl rfl h (fun h => ?_)
    refine zr_iload_n hX dX0_ringed_53 rfl rfl ?_
    refine zr_ishr hX dX0_ringed_54 ?_
    refine zr_iconst hX dX0_ringed_55 (zrl rfl) ?_
    refine zr_iand hX dX0_ringed_56 ?_
    refine zr_ifeq (tgt := 75) hX dX0_ringed_57 rfl h (fun h => ?_) (fun h => ?_)
    · refine zr_iinc hX dX0_ringed_75 rfl (Nat.le_of_ble_eq_true rfl) ?_
      refine zr_goto hX dX0_ringed_78 (tgt := 39) rfl ?_
      exact zW_lf (k_L_ringed_39 h) (And.intro rfl (And.intro rfl (And.intro rfl trivial)))
    · refine zr_aload_n hX dX0_ringed_60 rfl rfl ?_
      refine zr_getr hX dX0_ringed_61 (k := 7) (q := 22) rfl rfl ww_165 rfl ?_
      refine zr_iload_n hX dX0_ringed_64 rfl rfl ?_
      refine zr_dup2 hX dX0_ringed_65 rfl rfl ?_
      refine zr_iald (N := 12) hX dX0_ringed_66 rfl rfl h (fun h => ?_)
      refine zr_aload_n hX dX0_ringed_67 rfl rfl ?_
      refine zr_getr hX dX0_ringed_68 (k := 7) (q := 22) rfl rfl ww_165 rfl ?_
      refine zr_iload_n hX dX0_ringed_71 rfl rfl ?_
      refine zr_iald (N := 12) hX dX0_ringed_72 rfl rfl h (fun h => ?_)
      refine zr_ior hX dX0_ringed_73 ?_
      refine zr_iast (N := 12) hX dX0_ringed_74 rfl rfl h (fun h => ?_)
      refine zr_iinc hX dX0_ringed_75 rfl (Nat.le_of_ble_eq_true rfl) ?_
      refine zr_goto hX dX0_ringed_78 (tgt := 39) rfl ?_
      exact zW_lf (k_L_ringed_39 h) (And.intro rfl (And.intro rfl (And.intro rfl trivial)))
set_option maxRecDepth 100000 in
set_option maxHeartbeats 4000000 in
theorem w_L_ringed_e {X : zX} {G : zG} {μ : zM} {rv : Option zV} {ν : zM} (hX : zOk X G cX0_ringed RX0 3 (some .int) 4) (hF : zFin X G rv ν) (h : zP (Sum.elim (k_L_ringed X G) (fun r : (Int × zM) => (some (zI r.1), r.2) = (rv, ν))) (e_L_ringed μ)) : zW X G 3 0 [some (zR 16), none, none] [] μ := by
  refine zr_iconst hX dX0_ringed_0 (zrl rfl) ?_
  refine zr_istore_n hX dX0_ringed_1 rfl (Nat.le_of_ble_eq_true rfl) ?_
  exact zW_lf (k_L_ringed_2 h) (And.intro rfl (And.intro rfl trivial))
set_option maxRecDepth 100000 in
theorem m_L_ringed {l : Launch} {G : zG} {μ : zM} {q : Int × zM} (hq : f_L_ringed μ = some q) : zCT l G yX0_ringed cX0_ringed 3 (some .int) 4 [zR 16] μ (some (zI q.1)) q.2 := by
  refine zMet (lv := [some (zR 16), none, none]) (k := 2) pl_X0 rfl (Nat.le_of_ble_eq_true rfl) (fun X hl hX hF _ _ => ?_)
  refine w_L_ringed_e hX hF (zgo_K (r := q) (step := t_L_ringed) (fun s h => ?_) rfl hq)
  cases s with
  | inl s => exact w_L_ringed_2 hX hF h
  | inr s =>
    cases s with
    | inl s => exact w_L_ringed_29 hX hF h
    | inr s =>
      cases s with
      | inl s => exact w_L_ringed_91 hX hF h
      | inr s => exact w_L_ringed_39 hX hF h
set_option maxRecDepth 100000 in
set_option maxHeartbeats 4000000 in
theorem w_X_rings_e {X : zX} {G : zG} {μ : zM} {rv : Option zV} {ν : zM} (hX : zOk X G cX5_rings RX5 1 (some .int) 6) (hF : zFin X G rv ν) (h : zP (fun r : (Int × zM) => (some (zI r.1), r.2) = (rv, ν)) (f_X_rings μ)) : zW X G 1 0 [some (zR 0)] [] μ := by
  refine zr_aload_n hX dX5_rings_0 rfl rfl ?_
  refine zr_getr hX dX5_rings_1 (k := 5) (q := 16) rfl rfl ww_204 rfl ?_
  refine zr_aload_n hX dX5_rings_4 rfl rfl ?_
  refine zr_getr hX dX5_rings_5 (k := 2) (q := 7) rfl rfl ww_201 rfl ?_
  refine zr_getrN hX dX5_rings_8 (k := 0) (q := 8) rfl rfl nf_X5_125 rfl ?_
  refine zP_bind h (fun q1 hq1 h => ?_)
  refine zr_callV hX dX5_rings_11 (m_L_reckon rfl hq1) rfl rfl rfl (z5 ww_432 ww_433 ww_434 ww_75 ww_435) hy_X0_reckon rfl (Nat.le_of_ble_eq_true rfl) (Nat.le_of_ble_eq_true rfl) (Nat.le_of_ble_eq_true rfl) ?_
  refine zr_aload_n hX dX5_rings_14 rfl rfl ?_
  refine zr_aload_n hX dX5_rings_15 rfl rfl ?_
  refine zr_getr hX dX5_rings_16 (k := 5) (q := 16) rfl rfl ww_204 rfl ?_
  refine zP_bind h (fun q2 hq2 h => ?_)
  refine zr_callV hX dX5_rings_19 (m_L_mutualPairs hq2) rfl rfl rfl (z5 ww_729 ww_730 ww_731 ww_75 ww_732) hy_X0_mutualPairs rfl (Nat.le_of_ble_eq_true rfl) (Nat.le_of_ble_eq_true rfl) (Nat.le_of_ble_eq_true rfl) ?_
  refine zr_puti hX dX5_rings_22 (k := 9) rfl rfl ww_208 rfl (by decide +kernel) ?_
  refine zr_aload_n hX dX5_rings_25 rfl rfl ?_
  refine zr_getr hX dX5_rings_26 (k := 5) (q := 16) rfl rfl ww_204 rfl ?_
  refine zP_bind h (fun q3 hq3 h => ?_)
  refine zr_callV hX dX5_rings_29 (m_L_ringed hq3) rfl rfl rfl (z5 ww_734 ww_735 ww_736 ww_75 ww_737) hy_X0_ringed rfl (Nat.le_of_ble_eq_true rfl) (Nat.le_of_ble_eq_true rfl) (Nat.le_of_ble_eq_true rfl) ?_
  exact zr_iret hX dX5_rings_32 hF h
set_option maxRecDepth 100000 in
theorem m_X_rings {l : Launch} {G : zG} {μ : zM} {q : Int × zM} (hq : f_X_rings μ = some q) : zCT l G yX5_rings cX5_rings 1 (some .int) 6 [zR 0] μ (some (zI q.1)) q.2 := by
  refine zMet (lv := [some (zR 0)]) (k := 0) pl_X5 rfl (Nat.le_of_ble_eq_true rfl) (fun X hl hX hF _ _ => ?_)
  exact w_X_rings_e hX hF (zP_of hq rfl)
def k_X_winningTower (X : zX) (G : zG) (o0 : Nat) (v1 : Int) (v2 : Int) : (Int × zM) → Prop := fun s => zW X G 5 9 [some (zR o0), some (zI v1), some (zI v2), some (zI s.1), none] [] s.2
theorem k_X_winningTower_9 {X : zX} {G : zG} {o0 : Nat} {v1 : Int} {v2 : Int} {F : (Int × zM) → Prop} {v3 : Int} {κ : zM} (h : zP (Sum.elim (k_X_winningTower X G o0 v1 v2) F) (some (.inl ((v3, κ))))) : zW X G 5 9 [some (zR o0), some (zI v1), some (zI v2), some (zI v3), none] [] κ := h
set_option maxRecDepth 100000 in
set_option maxHeartbeats 4000000 in
theorem w_X_winningTower_52 {X : zX} {G : zG} {o0 : Nat} {v1 : Int} {v2 : Int} {μ : zM} {rv : Option zV} {ν : zM} {d d0 : Nat} {rec : Nat → Int → Int → zM → Option (Int × zM)} (hrec : ∀ {o0 : Nat} {v1 v2 : Int} {μ : zM} {q}, zsh o0 = (0, 1) → rec o0 v1 v2 μ = some q → zCT (zXl X) G yX5_winningTower cX5_winningTower 5 (some .int) d0 [zR o0, zI v1, zI v2] μ (some (zI q.1)) q.2) (hdd : d0 + 1 ≤ d) (hdk : 6 ≤ d) (hX : zOk X G cX5_winningTower RX5 5 (some .int) d) (hF : zFin X G rv ν) (ho0 : zsh o0 = (0, 1)) {v3 w0 : Int} (h : zP (Sum.elim (k_X_winningTower X G o0 v1 v2) (fun r : (Int × zM) => (some (zI r.1), r.2) = (rv, ν))) (j_X_winningTower_52 rec o0 v1 v2 v3 w0 μ)) : zW X G 5 52 [some (zR o0), some (zI v1), some (zI v2), some (zI v3), none] [zI w0] μ := by
  refine zr_istore hX dX5_winningTower_52 (Nat.le_of_ble_eq_true rfl) ?_
  refine zr_aload_n hX dX5_winningTower_54 rfl rfl ?_
  refine zr_iload_n hX dX5_winningTower_55 rfl rfl ?_
  refine zP_bind h (fun q4 hq4 h => ?_)
  refine zr_callV hX dX5_winningTower_56 (m_R_pop ho0 hq4) ho0 rfl rfl (z5 ww_682 ww_683 ww_684 ww_74 ww_685) hy_X1_pop rfl (Nat.le_trans (Nat.le_of_ble_eq_true rfl) hdk) (Nat.le_of_ble_eq_true rfl) (Nat.le_of_ble_eq_true rfl) ?_
  refine zr_iload hX dX5_winningTower_59 rfl ?_
  refine zr_ifeq (tgt := 66) hX dX5_winningTower_61 rfl h (fun h => ?_) (fun h => ?_)
  · refine zr_iinc hX dX5_winningTower_66 rfl (Nat.le_of_ble_eq_true rfl) ?_
    refine zr_goto hX dX5_winningTower_69 (tgt := 9) rfl ?_
    exact zW_lf (k_X_winningTower_9 h) (And.intro rfl (And.intro rfl (And.intro rfl (And.intro rfl trivial))))
  · refine zr_iload_n hX dX5_winningTower_64 rfl rfl ?_
    exact zr_iret hX dX5_winningTower_65 hF h
set_option maxRecDepth 100000 in
set_option maxHeartbeats 4000000 in
theorem w_X_winningTower_51 {X : zX} {G : zG} {o0 : Nat} {v1 : Int} {v2 : Int} {μ : zM} {rv : Option zV} {ν : zM} {d d0 : Nat} {rec : Nat → Int → Int → zM → Option (Int × zM)} (hrec : ∀ {o0 : Nat} {v1 v2 : Int} {μ : zM} {q}, zsh o0 = (0, 1) → rec o0 v1 v2 μ = some q → zCT (zXl X) G yX5_winningTower cX5_winningTower 5 (some .int) d0 [zR o0, zI v1, zI v2] μ (some (zI q.1)) q.2) (hdd : d0 + 1 ≤ d) (hdk : 6 ≤ d) (hX : zOk X G cX5_winningTower RX5 5 (some .int) d) (hF : zFin X G rv ν) (ho0 : zsh o0 = (0, 1)) {v3 : Int} (h : zP (Sum.elim (k_X_winningTower X G o0 v1 v2) (fun r : (Int × zM) => (some (zI r.1), r.2) = (rv, ν))) (j_X_winningTower_51 rec o0 v1 v2 v3 μ)) : zW X G 5 51 [some (zR o0), some (zI v1), some (zI v2), some (zI v3), none] [] μ := by
  refine zr_iconst hX dX5_winningTower_51 (zrl rfl) ?_
  exact zW_lf (w_X_winningTower_52 hrec hdd hdk hX hF ho0 h) (And.intro rfl (And.intro rfl (And.intro rfl (And.intro rfl trivial))))
set_option maxRecDepth 100000 in
set_option maxHeartbeats 4000000 in
theorem w_X_winningTower_9 {X : zX} {G : zG} {o0 : Nat} {v1 : Int} {v2 : Int} {μ : zM} {rv : Option zV} {ν : zM} {d d0 : Nat} {rec : Nat → Int → Int → zM → Option (Int × zM)} (hrec : ∀ {o0 : Nat} {v1 v2 : Int} {μ : zM} {q}, zsh o0 = (0, 1) → rec o0 v1 v2 μ = some q → zCT (zXl X) G yX5_winningTower cX5_winningTower 5 (some .int) d0 [zR o0, zI v1, zI v2] μ (some (zI q.1)) q.2) (hdd : d0 + 1 ≤ d) (hdk : 6 ≤ d) (hX : zOk X G cX5_winningTower RX5 5 (some .int) d) (hF : zFin X G rv ν) (ho0 : zsh o0 = (0, 1)) {v3 : Int} (h : zP (Sum.elim (k_X_winningTower X G o0 v1 v2) (fun r : (Int × zM) => (some (zI r.1), r.2) = (rv, ν))) (b_X_winningTower_9 rec o0 v1 v2 v3 μ)) : zW X G 5 9 [some (zR o0), some (zI v1), some (zI v2), some (zI v3), none] [] μ := by
  refine zr_iload_n hX dX5_winningTower_9 rfl rfl ?_
  refine zr_aload_n hX dX5_winningTower_10 rfl rfl ?_
  refine zr_callV hX dX5_winningTower_11 (m_R_towerCount ho0) ho0 rfl rfl (z5 ww_341 ww_342 ww_343 ww_74 ww_344) hy_X1_towerCount rfl (Nat.le_trans (Nat.le_of_ble_eq_true rfl) hdk) (Nat.le_of_ble_eq_true rfl) (Nat.le_of_ble_eq_true rfl) ?_
  refine zr_icmpge (tgt := 72) hX dX5_winningTower_14 rfl h (fun h => ?_) (fun h => ?_)
  · refine zr_bipush hX dX5_winningTower_72 rfl ?_
    exact zr_iret hX dX5_winningTower_74 hF h
  · refine zr_aload_n hX dX5_winningTower_17 rfl rfl ?_
    refine zr_iload_n hX dX5_winningTower_18 rfl rfl ?_
    refine zr_iconst hX dX5_winningTower_19 (zrl rfl) ?_
    refine zr_iload_n hX dX5_winningTower_20 rfl rfl ?_
    refine zP_bind h (fun q1 hq1 h => ?_)
    refine zr_callV hX dX5_winningTower_21 (m_R_push ho0 hq1) ho0 rfl rfl (z5 ww_365 ww_366 ww_367 ww_74 ww_368) hy_X1_push rfl (Nat.le_trans (Nat.le_of_ble_eq_true rfl) hdk) (Nat.le_of_ble_eq_true rfl) (Nat.le_of_ble_eq_true rfl) ?_
    refine zr_ifeq (tgt := 66) hX dX5_winningTower_24 rfl h (fun h => ?_) (fun h => ?_)
    · refine zr_iinc hX dX5_winningTower_66 rfl (Nat.le_of_ble_eq_true rfl) ?_
      refine zr_goto hX dX5_winningTower_69 (tgt := 9) rfl ?_
      exact zW_lf (k_X_winningTower_9 h) (And.intro rfl (And.intro rfl (And.intro rfl (And.intro rfl trivial))))
    · refine zr_aload_n hX dX5_winningTower_27 rfl rfl ?_
      refine zP_bind h (fun q2 hq2 h => ?_)
      refine zr_callV hX dX5_winningTower_28 (m_R_isSteady ho0 hq2) ho0 rfl rfl (z5 ww_677 ww_678 ww_679 ww_74 ww_680) hy_X1_isSteady rfl (Nat.le_trans (Nat.le_of_ble_eq_true rfl) hdk) (Nat.le_of_ble_eq_true rfl) (Nat.le_of_ble_eq_true rfl) ?_
      refine zr_ifeq (tgt := 51) hX dX5_winningTower_31 rfl h (fun h => ?_) (fun h => ?_)
      · exact zW_lf (w_X_winningTower_51 hrec hdd hdk hX hF ho0 h) (And.intro rfl (And.intro rfl (And.intro rfl (And.intro rfl trivial))))
      · refine zr_aload_n hX dX5_winningTower_34 rfl rfl ?_
        refine zr_iload_n hX dX5_winningTower_35 rfl rfl ?_
        refine zr_iload_n hX dX5_winningTower_36 rfl rfl ?_
        refine zr_iconst hX dX5_winningTower_37 (zrl rfl) ?_
        refine zr_isub hX dX5_winningTower_38 ?_
        refine zP_bind h (fun q3 hq3 h => ?_)
        refine zr_callS hX dX5_winningTower_39 (hrec ho0 hq3) rfl (z4 ww_746 ww_747 ww_70 ww_748) hy_X5_winningTower rfl hdd (Nat.le_of_ble_eq_true rfl) (Nat.le_of_ble_eq_true rfl) ?_
        refine zr_bipush hX dX5_winningTower_42 rfl ?_
        refine zr_icmpne (tgt := 51) hX dX5_winningTower_44 rfl h (fun h => ?_) (fun h => ?_)
        · exact zW_lf (w_X_winningTower_51 hrec hdd hdk hX hF ho0 h) (And.intro rfl (And.intro rfl (And.intro rfl (And.intro rfl trivial))))
        · refine zr_iconst hX dX5_winningTower_47 (zrl rfl) ?_
          refine zr_goto hX dX5_winningTower_48 (tgt := 52) rfl ?_
          exact zW_lf (w_X_winningTower_52 hrec hdd hdk hX hF ho0 h) (And.intro rfl (And.intro rfl (And.intro rfl (And.intro rfl trivial))))
set_option maxRecDepth 100000 in
set_option maxHeartbeats 4000000 in
theorem w_X_winningTower_e {X : zX} {G : zG} {o0 : Nat} {v1 : Int} {v2 : Int} {μ : zM} {rv : Option zV} {ν : zM} {d d0 : Nat} {rec : Nat → Int → Int → zM → Option (Int × zM)} (hrec : ∀ {o0 : Nat} {v1 v2 : Int} {μ : zM} {q}, zsh o0 = (0, 1) → rec o0 v1 v2 μ = some q → zCT (zXl X) G yX5_winningTower cX5_winningTower 5 (some .int) d0 [zR o0, zI v1, zI v2] μ (some (zI q.1)) q.2) (hdd : d0 + 1 ≤ d) (hdk : 6 ≤ d) (hX : zOk X G cX5_winningTower RX5 5 (some .int) d) (hF : zFin X G rv ν) (ho0 : zsh o0 = (0, 1)) (h : zP (Sum.elim (k_X_winningTower X G o0 v1 v2) (fun r : (Int × zM) => (some (zI r.1), r.2) = (rv, ν))) (e_X_winningTower rec o0 v1 v2 μ)) : zW X G 5 0 [some (zR o0), some (zI v1), some (zI v2), none, none] [] μ := by
  refine zr_iload_n hX dX5_winningTower_0 rfl rfl ?_
  refine zr_ifgt (tgt := 7) hX dX5_winningTower_1 rfl h (fun h => ?_) (fun h => ?_)
  · refine zr_iconst hX dX5_winningTower_7 (zrl rfl) ?_
    refine zr_istore_n hX dX5_winningTower_8 rfl (Nat.le_of_ble_eq_true rfl) ?_
    exact zW_lf (k_X_winningTower_9 h) (And.intro rfl (And.intro rfl (And.intro rfl (And.intro rfl trivial))))
  · refine zr_bipush hX dX5_winningTower_4 rfl ?_
    exact zr_iret hX dX5_winningTower_6 hF h
set_option maxRecDepth 100000 in
theorem m_X_winningTower {l : Launch} {G : zG} (n : Nat) : ∀ {o0 : Nat} {v1 v2 : Int} {μ : zM} {q : Int × zM} (ho0 : zsh o0 = (0, 1)) (hq : f_X_winningTower n o0 v1 v2 μ = some q), zCT l G yX5_winningTower cX5_winningTower 5 (some .int) (6 + n) [zR o0, zI v1, zI v2] μ (some (zI q.1)) q.2 := by
  induction n with
  | zero => intro o0 v1 v2 μ q ho0 hq; cases hq
  | succ n ih =>
    intro o0 v1 v2 μ q ho0 hq
    refine zMet (lv := [some (zR o0), some (zI v1), some (zI v2), none, none]) (k := 2) pl_X5 rfl (Nat.le_of_ble_eq_true rfl) (fun X hl hX hF _ _ => ?_)
    have hl := hl
    subst hl
    refine w_X_winningTower_e (rec := f_X_winningTower n) (d0 := 6 + n) (fun h0 h1 => ih h0 h1) (Nat.le_refl _) (by omega) hX hF ho0 (zgo_K (r := q) (step := t_X_winningTower (f_X_winningTower n) o0 v1 v2) (fun s h => ?_) rfl hq)
    exact w_X_winningTower_9 (rec := f_X_winningTower n) (d0 := 6 + n) (fun h0 h1 => ih h0 h1) (Nat.le_refl _) (by omega) hX hF ho0 h
set_option maxRecDepth 100000 in
set_option maxHeartbeats 4000000 in
theorem w_X_game_e {X : zX} {G : zG} {v1 : Int} {v2 : Int} {μ : zM} {rv : Option zV} {ν : zM} (hX : zOk X G cX5_game RX5 3 (some .int) 13) (hF : zFin X G rv ν) (h : zP (fun r : (Int × zM) => (some (zI r.1), r.2) = (rv, ν)) (f_X_game v1 v2 μ)) : zW X G 3 0 [some (zR 0), some (zI v1), some (zI v2)] [] μ := by
  refine zr_iload_n hX dX5_game_0 rfl rfl ?_
  refine zr_callS hX dX5_game_1 (m_X_isBorne) rfl (z4 ww_362 ww_363 ww_70 ww_364) hy_X5_isBorne rfl (Nat.le_of_ble_eq_true rfl) (Nat.le_of_ble_eq_true rfl) (Nat.le_of_ble_eq_true rfl) ?_
  refine zr_ifeq (tgt := 16) hX dX5_game_4 rfl h (fun h => ?_) (fun h => ?_)
  · refine zr_iconst hX dX5_game_16 (zrl rfl) ?_
    exact zr_iret hX dX5_game_17 hF h
  · refine zr_iload_n hX dX5_game_7 rfl rfl ?_
    refine zr_iflt (tgt := 16) hX dX5_game_8 rfl h (fun h => ?_) (fun h => ?_)
    · refine zr_iconst hX dX5_game_16 (zrl rfl) ?_
      exact zr_iret hX dX5_game_17 hF h
    · refine zr_iload_n hX dX5_game_11 rfl rfl ?_
      refine zr_iconst hX dX5_game_12 (zrl rfl) ?_
      refine zr_icmple (tgt := 18) hX dX5_game_13 rfl h (fun h => ?_) (fun h => ?_)
      · refine zr_aload_n hX dX5_game_18 rfl rfl ?_
        refine zr_getr hX dX5_game_19 (k := 2) (q := 7) rfl rfl ww_201 rfl ?_
        refine zr_getrN hX dX5_game_22 (k := 0) (q := 8) rfl rfl nf_X5_125 rfl ?_
        refine zr_callV hX dX5_game_25 (m_R_towerCount rfl) rfl rfl rfl (z5 ww_341 ww_342 ww_343 ww_74 ww_344) hy_X1_towerCount rfl (Nat.le_of_ble_eq_true rfl) (Nat.le_of_ble_eq_true rfl) (Nat.le_of_ble_eq_true rfl) ?_
        refine zr_ifne (tgt := 34) hX dX5_game_28 rfl h (fun h => ?_) (fun h => ?_)
        · refine zr_aload_n hX dX5_game_34 rfl rfl ?_
          refine zr_getr hX dX5_game_35 (k := 4) (q := 13) rfl rfl ww_203 rfl ?_
          refine zr_aload_n hX dX5_game_38 rfl rfl ?_
          refine zr_getr hX dX5_game_39 (k := 2) (q := 7) rfl rfl ww_201 rfl ?_
          refine zr_getrN hX dX5_game_42 (k := 0) (q := 8) rfl rfl nf_X5_125 rfl ?_
          refine zP_bind h (fun q1 hq1 h => ?_)
          refine zr_callV hX dX5_game_45 (m_R_takeFrom rfl rfl hq1) rfl rfl rfl (z5 ww_544 ww_387 ww_388 ww_74 ww_389) hy_X1_takeFrom rfl (Nat.le_of_ble_eq_true rfl) (Nat.le_of_ble_eq_true rfl) (Nat.le_of_ble_eq_true rfl) ?_
          refine zr_aload_n hX dX5_game_48 rfl rfl ?_
          refine zr_getr hX dX5_game_49 (k := 4) (q := 13) rfl rfl ww_203 rfl ?_
          refine zr_iload_n hX dX5_game_52 rfl rfl ?_
          refine zr_iload_n hX dX5_game_53 rfl rfl ?_
          refine zP_bind h (fun q2 hq2 h => ?_)
          refine zr_callS hX dX5_game_54 (m_X_winningTower 6 rfl hq2) rfl (z4 ww_746 ww_747 ww_70 ww_748) hy_X5_winningTower rfl (Nat.le_of_ble_eq_true rfl) (Nat.le_of_ble_eq_true rfl) (Nat.le_of_ble_eq_true rfl) ?_
          refine zr_bipush hX dX5_game_57 rfl ?_
          refine zr_icmpne (tgt := 66) hX dX5_game_59 rfl h (fun h => ?_) (fun h => ?_)
          · refine zr_iconst hX dX5_game_66 (zrl rfl) ?_
            exact zr_iret hX dX5_game_67 hF h
          · refine zr_iconst hX dX5_game_62 (zrl rfl) ?_
            refine zr_goto hX dX5_game_63 (tgt := 67) rfl ?_
            exact zr_iret hX dX5_game_67 hF h
        · refine zr_bipush hX dX5_game_31 rfl ?_
          exact zr_iret hX dX5_game_33 hF h
      · refine zr_iconst hX dX5_game_16 (zrl rfl) ?_
        exact zr_iret hX dX5_game_17 hF h
set_option maxRecDepth 100000 in
theorem m_X_game {l : Launch} {G : zG} {v1 : Int} {v2 : Int} {μ : zM} {q : Int × zM} (hq : f_X_game v1 v2 μ = some q) : zCT l G yX5_game cX5_game 3 (some .int) 13 [zR 0, zI v1, zI v2] μ (some (zI q.1)) q.2 := by
  refine zMet (lv := [some (zR 0), some (zI v1), some (zI v2)]) (k := 0) pl_X5 rfl (Nat.le_of_ble_eq_true rfl) (fun X hl hX hF _ _ => ?_)
  exact w_X_game_e hX hF (zP_of hq rfl)
set_option maxRecDepth 100000 in
set_option maxHeartbeats 4000000 in
theorem w_X_begin_e {X : zX} {G : zG} {v1 : Int} {v2 : Int} {μ : zM} {rv : Option zV} {ν : zM} (hX : zOk X G cX5_begin RX5 3 (some .int) 13) (hF : zFin X G rv ν) (h : zP (fun r : (Int × zM) => (some (zI r.1), r.2) = (rv, ν)) (f_X_begin v1 v2 μ)) : zW X G 3 0 [some (zR 0), some (zI v1), some (zI v2)] [] μ := by
  refine zr_iload_n hX dX5_begin_0 rfl rfl ?_
  refine zr_callS hX dX5_begin_1 (m_X_isBorne) rfl (z4 ww_362 ww_363 ww_70 ww_364) hy_X5_isBorne rfl (Nat.le_of_ble_eq_true rfl) (Nat.le_of_ble_eq_true rfl) (Nat.le_of_ble_eq_true rfl) ?_
  refine zr_ifeq (tgt := 16) hX dX5_begin_4 rfl h (fun h => ?_) (fun h => ?_)
  · refine zr_iconst hX dX5_begin_16 (zrl rfl) ?_
    exact zr_iret hX dX5_begin_17 hF h
  · refine zr_iload_n hX dX5_begin_7 rfl rfl ?_
    refine zr_iflt (tgt := 16) hX dX5_begin_8 rfl h (fun h => ?_) (fun h => ?_)
    · refine zr_iconst hX dX5_begin_16 (zrl rfl) ?_
      exact zr_iret hX dX5_begin_17 hF h
    · refine zr_iload_n hX dX5_begin_11 rfl rfl ?_
      refine zr_iconst hX dX5_begin_12 (zrl rfl) ?_
      refine zr_icmple (tgt := 18) hX dX5_begin_13 rfl h (fun h => ?_) (fun h => ?_)
      · refine zr_aload_n hX dX5_begin_18 rfl rfl ?_
        refine zr_getr hX dX5_begin_19 (k := 2) (q := 7) rfl rfl ww_201 rfl ?_
        refine zr_getrN hX dX5_begin_22 (k := 0) (q := 8) rfl rfl nf_X5_125 rfl ?_
        refine zr_callV hX dX5_begin_25 (m_R_towerCount rfl) rfl rfl rfl (z5 ww_341 ww_342 ww_343 ww_74 ww_344) hy_X1_towerCount rfl (Nat.le_of_ble_eq_true rfl) (Nat.le_of_ble_eq_true rfl) (Nat.le_of_ble_eq_true rfl) ?_
        refine zr_ifne (tgt := 34) hX dX5_begin_28 rfl h (fun h => ?_) (fun h => ?_)
        · refine zr_aload_n hX dX5_begin_34 rfl rfl ?_
          refine zr_getr hX dX5_begin_35 (k := 4) (q := 13) rfl rfl ww_203 rfl ?_
          refine zr_aload_n hX dX5_begin_38 rfl rfl ?_
          refine zr_getr hX dX5_begin_39 (k := 2) (q := 7) rfl rfl ww_201 rfl ?_
          refine zr_getrN hX dX5_begin_42 (k := 0) (q := 8) rfl rfl nf_X5_125 rfl ?_
          refine zP_bind h (fun q1 hq1 h => ?_)
          refine zr_callV hX dX5_begin_45 (m_R_takeFrom rfl rfl hq1) rfl rfl rfl (z5 ww_544 ww_387 ww_388 ww_74 ww_389) hy_X1_takeFrom rfl (Nat.le_of_ble_eq_true rfl) (Nat.le_of_ble_eq_true rfl) (Nat.le_of_ble_eq_true rfl) ?_
          refine zr_aload_n hX dX5_begin_48 rfl rfl ?_
          refine zr_getr hX dX5_begin_49 (k := 4) (q := 13) rfl rfl ww_203 rfl ?_
          refine zr_iload_n hX dX5_begin_52 rfl rfl ?_
          refine zr_iload_n hX dX5_begin_53 rfl rfl ?_
          refine zP_bind h (fun q2 hq2 h => ?_)
          refine zr_callS hX dX5_begin_54 (m_X_winningTower 6 rfl hq2) rfl (z4 ww_746 ww_747 ww_70 ww_748) hy_X5_winningTower rfl (Nat.le_of_ble_eq_true rfl) (Nat.le_of_ble_eq_true rfl) (Nat.le_of_ble_eq_true rfl) ?_
          exact zr_iret hX dX5_begin_57 hF h
        · refine zr_bipush hX dX5_begin_31 rfl ?_
          exact zr_iret hX dX5_begin_33 hF h
      · refine zr_iconst hX dX5_begin_16 (zrl rfl) ?_
        exact zr_iret hX dX5_begin_17 hF h
set_option maxRecDepth 100000 in
theorem m_X_begin {l : Launch} {G : zG} {v1 : Int} {v2 : Int} {μ : zM} {q : Int × zM} (hq : f_X_begin v1 v2 μ = some q) : zCT l G yX5_begin cX5_begin 3 (some .int) 13 [zR 0, zI v1, zI v2] μ (some (zI q.1)) q.2 := by
  refine zMet (lv := [some (zR 0), some (zI v1), some (zI v2)]) (k := 0) pl_X5 rfl (Nat.le_of_ble_eq_true rfl) (fun X hl hX hF _ _ => ?_)
  exact w_X_begin_e hX hF (zP_of hq rfl)
def k_X_isLightAsIn (X : zX) (G : zG) (v1 : Int) (v2 : Int) (μ : zM) : Int → Prop := fun s => zW X G 4 2 [some (zR 0), some (zI v1), some (zI v2), some (zI s)] [] μ
theorem k_X_isLightAsIn_2 {X : zX} {G : zG} {v1 : Int} {v2 : Int} {μ : zM} {F : Int → Prop} {v3 : Int} (h : zP (Sum.elim (k_X_isLightAsIn X G v1 v2 μ) F) (some (.inl (v3)))) : zW X G 4 2 [some (zR 0), some (zI v1), some (zI v2), some (zI v3)] [] μ := h
set_option maxRecDepth 100000 in
set_option maxHeartbeats 4000000 in
theorem w_X_isLightAsIn_2 {X : zX} {G : zG} {v1 : Int} {v2 : Int} {μ : zM} {rv : Option zV} {ν : zM} (hX : zOk X G cX5_isLightAsIn RX5 4 (some .boolean) 5) (hF : zFin X G rv ν) {v3 : Int} (h : zP (Sum.elim (k_X_isLightAsIn X G v1 v2 μ) (fun r : Int => (some (zI r), μ) = (rv, ν))) (b_X_isLightAsIn_2 v1 v2 v3 μ)) : zW X G 4 2 [some (zR 0), some (zI v1), some (zI v2), some (zI v3)] [] μ := by
  refine zr_iload_n hX dX5_isLightAsIn_2 rfl rfl ?_
  refine zr_aload_n hX dX5_isLightAsIn_3 rfl rfl ?_
  refine zr_getr hX dX5_isLightAsIn_4 (k := 0) (q := 1) rfl rfl ww_199 rfl ?_
  refine zr_iload_n hX dX5_isLightAsIn_7 rfl rfl ?_
  refine zP_bind h (fun q1 hq1 h => ?_)
  refine zr_callV hX dX5_isLightAsIn_8 (m_S_sizeOf rfl hq1) rfl rfl rfl (z5 ww_311 ww_262 ww_263 ww_71 ww_264) hy_X3_sizeOf rfl (Nat.le_of_ble_eq_true rfl) (Nat.le_of_ble_eq_true rfl) (Nat.le_of_ble_eq_true rfl) ?_
  refine zr_icmpge (tgt := 43) hX dX5_isLightAsIn_11 rfl h (fun h => ?_) (fun h => ?_)
  · refine zr_iconst hX dX5_isLightAsIn_43 (zrl rfl) ?_
    exact zr_bretc hX dX5_isLightAsIn_44 hF (Or.inr rfl) h
  · refine zr_aload_n hX dX5_isLightAsIn_14 rfl rfl ?_
    refine zr_getr hX dX5_isLightAsIn_15 (k := 0) (q := 1) rfl rfl ww_199 rfl ?_
    refine zr_iload_n hX dX5_isLightAsIn_18 rfl rfl ?_
    refine zr_iload_n hX dX5_isLightAsIn_19 rfl rfl ?_
    refine zP_bind h (fun q2 hq2 h => ?_)
    refine zr_callV hX dX5_isLightAsIn_20 (m_S_get rfl hq2) rfl rfl rfl (z5 ww_274 ww_275 ww_276 ww_71 ww_277) hy_X3_get rfl (Nat.le_of_ble_eq_true rfl) (Nat.le_of_ble_eq_true rfl) (Nat.le_of_ble_eq_true rfl) ?_
    refine zr_aload_n hX dX5_isLightAsIn_23 rfl rfl ?_
    refine zr_getr hX dX5_isLightAsIn_24 (k := 5) (q := 16) rfl rfl ww_204 rfl ?_
    refine zr_iload_n hX dX5_isLightAsIn_27 rfl rfl ?_
    refine zr_iload_n hX dX5_isLightAsIn_28 rfl rfl ?_
    refine zP_bind h (fun q3 hq3 h => ?_)
    refine zr_callV hX dX5_isLightAsIn_29 (m_L_lightIn hq3) rfl rfl rfl (z5 ww_761 ww_502 ww_503 ww_75 ww_504) hy_X0_lightIn rfl (Nat.le_of_ble_eq_true rfl) (Nat.le_of_ble_eq_true rfl) (Nat.le_of_ble_eq_true rfl) ?_
    refine zr_icmpeq (tgt := 37) hX dX5_isLightAsIn_32 rfl h (fun h => ?_) (fun h => ?_)
    · refine zr_iinc hX dX5_isLightAsIn_37 rfl (Nat.le_of_ble_eq_true rfl) ?_
      refine zr_goto hX dX5_isLightAsIn_40 (tgt := 2) rfl ?_
      exact zW_lf (k_X_isLightAsIn_2 h) (And.intro rfl (And.intro rfl (And.intro rfl (And.intro rfl trivial))))
    · refine zr_iconst hX dX5_isLightAsIn_35 (zrl rfl) ?_
      exact zr_bretc hX dX5_isLightAsIn_36 hF (Or.inl rfl) h
set_option maxRecDepth 100000 in
set_option maxHeartbeats 4000000 in
theorem w_X_isLightAsIn_e {X : zX} {G : zG} {v1 : Int} {v2 : Int} {μ : zM} {rv : Option zV} {ν : zM} (hX : zOk X G cX5_isLightAsIn RX5 4 (some .boolean) 5) (hF : zFin X G rv ν) (h : zP (Sum.elim (k_X_isLightAsIn X G v1 v2 μ) (fun r : Int => (some (zI r), μ) = (rv, ν))) (e_X_isLightAsIn v1 v2 μ)) : zW X G 4 0 [some (zR 0), some (zI v1), some (zI v2), none] [] μ := by
  refine zr_iconst hX dX5_isLightAsIn_0 (zrl rfl) ?_
  refine zr_istore_n hX dX5_isLightAsIn_1 rfl (Nat.le_of_ble_eq_true rfl) ?_
  exact zW_lf (k_X_isLightAsIn_2 h) (And.intro rfl (And.intro rfl (And.intro rfl (And.intro rfl trivial))))
set_option maxRecDepth 100000 in
theorem m_X_isLightAsIn {l : Launch} {G : zG} {v1 : Int} {v2 : Int} {μ : zM} {q : Int} (hq : f_X_isLightAsIn v1 v2 μ = some q) : zCT l G yX5_isLightAsIn cX5_isLightAsIn 4 (some .boolean) 5 [zR 0, zI v1, zI v2] μ (some (zI q)) μ := by
  refine zMet (lv := [some (zR 0), some (zI v1), some (zI v2), none]) (k := 1) pl_X5 rfl (Nat.le_of_ble_eq_true rfl) (fun X hl hX hF _ _ => ?_)
  refine w_X_isLightAsIn_e hX hF (zgo_K (r := q) (step := t_X_isLightAsIn v1 v2 μ) (fun s h => ?_) rfl hq)
  exact w_X_isLightAsIn_2 hX hF h
def k_X_fog (X : zX) (G : zG) (v1 : Int) : (Int × Int × Int × zM) → Prop := fun s => zW X G 5 79 [some (zR 0), some (zI v1), some (zI s.1), some (zI s.2.1), some (zI s.2.2.1)] [] s.2.2.2
theorem k_X_fog_79 {X : zX} {G : zG} {v1 : Int} {F : (Int × zM) → Prop} {v2 v3 v4 : Int} {κ : zM} (h : zP (Sum.elim (k_X_fog X G v1) F) (some (.inl ((v2, v3, v4, κ))))) : zW X G 5 79 [some (zR 0), some (zI v1), some (zI v2), some (zI v3), some (zI v4)] [] κ := h
set_option maxRecDepth 100000 in
set_option maxHeartbeats 4000000 in
theorem w_X_fog_79 {X : zX} {G : zG} {v1 : Int} {μ : zM} {rv : Option zV} {ν : zM} (hX : zOk X G cX5_fog RX5 5 (some .int) 6) (hF : zFin X G rv ν) {v2 v3 v4 : Int} (h : zP (Sum.elim (k_X_fog X G v1) (fun r : (Int × zM) => (some (zI r.1), r.2) = (rv, ν))) (b_X_fog_79 v1 v2 v3 v4 μ)) : zW X G 5 79 [some (zR 0), some (zI v1), some (zI v2), some (zI v3), some (zI v4)] [] μ := by
  refine zr_iload hX dX5_fog_79 rfl ?_
  refine zr_bipush hX dX5_fog_81 rfl ?_
  refine zr_icmpgt (tgt := 116) hX dX5_fog_83 rfl h (fun h => ?_) (fun h => ?_)
  · refine zr_aload_n hX dX5_fog_116 rfl rfl ?_
    refine zr_iload_n hX dX5_fog_117 rfl rfl ?_
    refine zr_puti hX dX5_fog_118 (k := 9) rfl rfl ww_208 rfl (by decide +kernel) ?_
    refine zr_iload_n hX dX5_fog_121 rfl rfl ?_
    exact zr_iret hX dX5_fog_122 hF h
  · refine zr_aload_n hX dX5_fog_86 rfl rfl ?_
    refine zr_iload_n hX dX5_fog_87 rfl rfl ?_
    refine zr_iload hX dX5_fog_88 rfl ?_
    refine zP_bind h (fun q6 hq6 h => ?_)
    refine zr_callV hX dX5_fog_90 (m_X_isLightAsIn hq6) rfl rfl rfl (z5 ww_757 ww_759 ww_17 ww_70 ww_760) hy_X5_isLightAsIn rfl (Nat.le_of_ble_eq_true rfl) (Nat.le_of_ble_eq_true rfl) (Nat.le_of_ble_eq_true rfl) ?_
    refine zr_ifeq (tgt := 110) hX dX5_fog_93 rfl h (fun h => ?_) (fun h => ?_)
    · refine zr_iinc hX dX5_fog_110 rfl (Nat.le_of_ble_eq_true rfl) ?_
      refine zr_goto hX dX5_fog_113 (tgt := 79) rfl ?_
      exact zW_lf (k_X_fog_79 h) (And.intro rfl (And.intro rfl (And.intro rfl (And.intro rfl (And.intro rfl trivial)))))
    · refine zr_iload_n hX dX5_fog_96 rfl rfl ?_
      refine zr_ifne (tgt := 105) hX dX5_fog_97 rfl h (fun h => ?_) (fun h => ?_)
      · refine zr_iload_n hX dX5_fog_105 rfl rfl ?_
        refine zr_istore_n hX dX5_fog_106 rfl (Nat.le_of_ble_eq_true rfl) ?_
        refine zr_iinc hX dX5_fog_107 rfl (Nat.le_of_ble_eq_true rfl) ?_
        refine zr_iinc hX dX5_fog_110 rfl (Nat.le_of_ble_eq_true rfl) ?_
        refine zr_goto hX dX5_fog_113 (tgt := 79) rfl ?_
        exact zW_lf (k_X_fog_79 h) (And.intro rfl (And.intro rfl (And.intro rfl (And.intro rfl (And.intro rfl trivial)))))
      · refine zr_iload hX dX5_fog_100 rfl ?_
        refine zr_goto hX dX5_fog_102 (tgt := 106) rfl ?_
        refine zr_istore_n hX dX5_fog_106 rfl (Nat.le_of_ble_eq_true rfl) ?_
        refine zr_iinc hX dX5_fog_107 rfl (Nat.le_of_ble_eq_true rfl) ?_
        refine zr_iinc hX dX5_fog_110 rfl (Nat.le_of_ble_eq_true rfl) ?_
        refine zr_goto hX dX5_fog_113 (tgt := 79) rfl ?_
        exact zW_lf (k_X_fog_79 h) (And.intro rfl (And.intro rfl (And.intro rfl (And.intro rfl (And.intro rfl trivial)))))
set_option maxRecDepth 100000 in
set_option maxHeartbeats 4000000 in
theorem w_X_fog_e {X : zX} {G : zG} {v1 : Int} {μ : zM} {rv : Option zV} {ν : zM} (hX : zOk X G cX5_fog RX5 5 (some .int) 6) (hF : zFin X G rv ν) (h : zP (Sum.elim (k_X_fog X G v1) (fun r : (Int × zM) => (some (zI r.1), r.2) = (rv, ν))) (e_X_fog v1 μ)) : zW X G 5 0 [some (zR 0), some (zI v1), none, none, none] [] μ := by
  refine zr_aload_n hX dX5_fog_0 rfl rfl ?_
  refine zr_getr hX dX5_fog_1 (k := 0) (q := 1) rfl rfl ww_199 rfl ?_
  refine zr_iload_n hX dX5_fog_4 rfl rfl ?_
  refine zr_callV hX dX5_fog_5 (m_S_knows rfl) rfl rfl rfl (z5 ww_240 ww_241 ww_242 ww_71 ww_243) hy_X3_knows rfl (Nat.le_of_ble_eq_true rfl) (Nat.le_of_ble_eq_true rfl) (Nat.le_of_ble_eq_true rfl) ?_
  refine zr_ifne (tgt := 13) hX dX5_fog_8 rfl h (fun h => ?_) (fun h => ?_)
  · refine zr_aload_n hX dX5_fog_13 rfl rfl ?_
    refine zr_getr hX dX5_fog_14 (k := 0) (q := 1) rfl rfl ww_199 rfl ?_
    refine zr_iload_n hX dX5_fog_17 rfl rfl ?_
    refine zP_bind h (fun q1 hq1 h => ?_)
    refine zr_callV hX dX5_fog_18 (m_S_isThere rfl hq1) rfl rfl rfl (z5 ww_269 ww_270 ww_271 ww_71 ww_272) hy_X3_isThere rfl (Nat.le_of_ble_eq_true rfl) (Nat.le_of_ble_eq_true rfl) (Nat.le_of_ble_eq_true rfl) ?_
    refine zr_ifne (tgt := 30) hX dX5_fog_21 rfl h (fun h => ?_) (fun h => ?_)
    · refine zr_aload_n hX dX5_fog_30 rfl rfl ?_
      refine zr_getr hX dX5_fog_31 (k := 0) (q := 1) rfl rfl ww_199 rfl ?_
      refine zr_iload_n hX dX5_fog_34 rfl rfl ?_
      refine zP_bind h (fun q2 hq2 h => ?_)
      refine zr_callV hX dX5_fog_35 (m_S_sizeOf rfl hq2) rfl rfl rfl (z5 ww_311 ww_262 ww_263 ww_71 ww_264) hy_X3_sizeOf rfl (Nat.le_of_ble_eq_true rfl) (Nat.le_of_ble_eq_true rfl) (Nat.le_of_ble_eq_true rfl) ?_
      refine zr_aload_n hX dX5_fog_38 rfl rfl ?_
      refine zr_getr hX dX5_fog_39 (k := 2) (q := 7) rfl rfl ww_201 rfl ?_
      refine zr_getrN hX dX5_fog_42 (k := 0) (q := 8) rfl rfl nf_X5_125 rfl ?_
      refine zr_callV hX dX5_fog_45 (m_R_houseCount rfl) rfl rfl rfl (z5 ww_659 ww_437 ww_438 ww_74 ww_439) hy_X1_houseCount rfl (Nat.le_of_ble_eq_true rfl) (Nat.le_of_ble_eq_true rfl) (Nat.le_of_ble_eq_true rfl) ?_
      refine zr_icmpeq (tgt := 57) hX dX5_fog_48 rfl h (fun h => ?_) (fun h => ?_)
      · refine zr_aload_n hX dX5_fog_57 rfl rfl ?_
        refine zr_getr hX dX5_fog_58 (k := 5) (q := 16) rfl rfl ww_204 rfl ?_
        refine zr_aload_n hX dX5_fog_61 rfl rfl ?_
        refine zr_getr hX dX5_fog_62 (k := 2) (q := 7) rfl rfl ww_201 rfl ?_
        refine zr_getrN hX dX5_fog_65 (k := 0) (q := 8) rfl rfl nf_X5_125 rfl ?_
        refine zP_bind h (fun q3 hq3 h => ?_)
        refine zr_callV hX dX5_fog_68 (m_L_reckon rfl hq3) rfl rfl rfl (z5 ww_432 ww_433 ww_434 ww_75 ww_435) hy_X0_reckon rfl (Nat.le_of_ble_eq_true rfl) (Nat.le_of_ble_eq_true rfl) (Nat.le_of_ble_eq_true rfl) ?_
        refine zr_iconst hX dX5_fog_71 (zrl rfl) ?_
        refine zr_istore_n hX dX5_fog_72 rfl (Nat.le_of_ble_eq_true rfl) ?_
        refine zr_bipush hX dX5_fog_73 rfl ?_
        refine zr_istore_n hX dX5_fog_75 rfl (Nat.le_of_ble_eq_true rfl) ?_
        refine zr_iconst hX dX5_fog_76 (zrl rfl) ?_
        refine zr_istore hX dX5_fog_77 (Nat.le_of_ble_eq_true rfl) ?_
        exact zW_lf (k_X_fog_79 h) (And.intro rfl (And.intro rfl (And.intro rfl (And.intro rfl (And.intro rfl trivial)))))
      · refine zr_aload_n hX dX5_fog_51 rfl rfl ?_
        refine zr_iconst hX dX5_fog_52 (zrl rfl) ?_
        refine zP_bind h (fun q4 hq4 h => ?_)
        refine zr_callV hX dX5_fog_53 (m_X_found hq4) rfl rfl rfl (z5 ww_244 ww_246 ww_0 ww_70 ww_247) hy_X5_found rfl (Nat.le_of_ble_eq_true rfl) (Nat.le_of_ble_eq_true rfl) (Nat.le_of_ble_eq_true rfl) ?_
        exact zr_iret hX dX5_fog_56 hF h
    · refine zr_aload_n hX dX5_fog_24 rfl rfl ?_
      refine zr_iconst hX dX5_fog_25 (zrl rfl) ?_
      refine zP_bind h (fun q5 hq5 h => ?_)
      refine zr_callV hX dX5_fog_26 (m_X_found hq5) rfl rfl rfl (z5 ww_244 ww_246 ww_0 ww_70 ww_247) hy_X5_found rfl (Nat.le_of_ble_eq_true rfl) (Nat.le_of_ble_eq_true rfl) (Nat.le_of_ble_eq_true rfl) ?_
      exact zr_iret hX dX5_fog_29 hF h
  · refine zr_iconst hX dX5_fog_11 (zrl rfl) ?_
    exact zr_iret hX dX5_fog_12 hF h
set_option maxRecDepth 100000 in
theorem m_X_fog {l : Launch} {G : zG} {v1 : Int} {μ : zM} {q : Int × zM} (hq : f_X_fog v1 μ = some q) : zCT l G yX5_fog cX5_fog 5 (some .int) 6 [zR 0, zI v1] μ (some (zI q.1)) q.2 := by
  refine zMet (lv := [some (zR 0), some (zI v1), none, none, none]) (k := 3) pl_X5 rfl (Nat.le_of_ble_eq_true rfl) (fun X hl hX hF _ _ => ?_)
  refine w_X_fog_e hX hF (zgo_K (r := q) (step := t_X_fog v1) (fun s h => ?_) rfl hq)
  exact w_X_fog_79 hX hF h
def k_X_kinds (X : zX) (G : zG) (v1 : Int) (v2 : Int) (v3 : Int) : (Int × Int × zM) → Prop := fun s => zW X G 6 107 [some (zR 0), some (zI v1), some (zI v2), some (zI v3), some (zI s.1), some (zI s.2.1)] [] s.2.2
theorem k_X_kinds_107 {X : zX} {G : zG} {v1 : Int} {v2 : Int} {v3 : Int} {F : (Int × zM) → Prop} {v4 v5 : Int} {κ : zM} (h : zP (Sum.elim (k_X_kinds X G v1 v2 v3) F) (some (.inl ((v4, v5, κ))))) : zW X G 6 107 [some (zR 0), some (zI v1), some (zI v2), some (zI v3), some (zI v4), some (zI v5)] [] κ := h
set_option maxRecDepth 100000 in
set_option maxHeartbeats 4000000 in
theorem w_X_kinds_107 {X : zX} {G : zG} {v1 : Int} {v2 : Int} {v3 : Int} {μ : zM} {rv : Option zV} {ν : zM} (hX : zOk X G cX5_kinds RX5 6 (some .int) 6) (hF : zFin X G rv ν) {v4 v5 : Int} (h : zP (Sum.elim (k_X_kinds X G v1 v2 v3) (fun r : (Int × zM) => (some (zI r.1), r.2) = (rv, ν))) (b_X_kinds_107 v1 v2 v3 v4 v5 μ)) : zW X G 6 107 [some (zR 0), some (zI v1), some (zI v2), some (zI v3), some (zI v4), some (zI v5)] [] μ := by
  refine zr_iload hX dX5_kinds_107 rfl ?_
  refine zr_bipush hX dX5_kinds_109 rfl ?_
  refine zr_icmpge (tgt := 169) hX dX5_kinds_111 rfl h (fun h => ?_) (fun h => ?_)
  · refine zr_iload hX dX5_kinds_169 rfl ?_
    exact zr_iret hX dX5_kinds_171 hF h
  · refine zr_aload_n hX dX5_kinds_114 rfl rfl ?_
    refine zr_getr hX dX5_kinds_115 (k := 4) (q := 13) rfl rfl ww_203 rfl ?_
    refine zr_iload_n hX dX5_kinds_118 rfl rfl ?_
    refine zr_iload_n hX dX5_kinds_119 rfl rfl ?_
    refine zr_iload hX dX5_kinds_120 rfl ?_
    refine zr_aload_n hX dX5_kinds_122 rfl rfl ?_
    refine zr_getr hX dX5_kinds_123 (k := 4) (q := 13) rfl rfl ww_203 rfl ?_
    refine zr_iload_n hX dX5_kinds_126 rfl rfl ?_
    refine zr_iload_n hX dX5_kinds_127 rfl rfl ?_
    refine zP_bind h (fun q8 hq8 h => ?_)
    refine zr_callV hX dX5_kinds_128 (m_R_borneAt rfl hq8) rfl rfl rfl (z5 ww_486 ww_401 ww_402 ww_74 ww_403) hy_X1_borneAt rfl (Nat.le_of_ble_eq_true rfl) (Nat.le_of_ble_eq_true rfl) (Nat.le_of_ble_eq_true rfl) ?_
    refine zP_bind h (fun q9 hq9 h => ?_)
    refine zr_callV hX dX5_kinds_131 (m_R_change rfl hq9) rfl rfl rfl (z5 ww_545 ww_371 ww_372 ww_74 ww_373) hy_X1_change rfl (Nat.le_of_ble_eq_true rfl) (Nat.le_of_ble_eq_true rfl) (Nat.le_of_ble_eq_true rfl) ?_
    refine zr_aload_n hX dX5_kinds_134 rfl rfl ?_
    refine zr_getr hX dX5_kinds_135 (k := 5) (q := 16) rfl rfl ww_204 rfl ?_
    refine zr_aload_n hX dX5_kinds_138 rfl rfl ?_
    refine zr_getr hX dX5_kinds_139 (k := 4) (q := 13) rfl rfl ww_203 rfl ?_
    refine zP_bind h (fun q10 hq10 h => ?_)
    refine zr_callV hX dX5_kinds_142 (m_L_reckon rfl hq10) rfl rfl rfl (z5 ww_432 ww_433 ww_434 ww_75 ww_435) hy_X0_reckon rfl (Nat.le_of_ble_eq_true rfl) (Nat.le_of_ble_eq_true rfl) (Nat.le_of_ble_eq_true rfl) ?_
    refine zr_aload_n hX dX5_kinds_145 rfl rfl ?_
    refine zr_iload_n hX dX5_kinds_146 rfl rfl ?_
    refine zr_iconst hX dX5_kinds_147 (zrl rfl) ?_
    refine zP_bind h (fun q11 hq11 h => ?_)
    refine zr_callV hX dX5_kinds_148 (m_X_isLightAsIn hq11) rfl rfl rfl (z5 ww_757 ww_759 ww_17 ww_70 ww_760) hy_X5_isLightAsIn rfl (Nat.le_of_ble_eq_true rfl) (Nat.le_of_ble_eq_true rfl) (Nat.le_of_ble_eq_true rfl) ?_
    refine zr_ifeq (tgt := 163) hX dX5_kinds_151 rfl h (fun h => ?_) (fun h => ?_)
    · refine zr_iinc hX dX5_kinds_163 rfl (Nat.le_of_ble_eq_true rfl) ?_
      refine zr_goto hX dX5_kinds_166 (tgt := 107) rfl ?_
      exact zW_lf (k_X_kinds_107 h) (And.intro rfl (And.intro rfl (And.intro rfl (And.intro rfl (And.intro rfl (And.intro rfl trivial))))))
    · refine zr_iload hX dX5_kinds_154 rfl ?_
      refine zr_iconst hX dX5_kinds_156 (zrl rfl) ?_
      refine zr_iload hX dX5_kinds_157 rfl ?_
      refine zr_ishl hX dX5_kinds_159 ?_
      refine zr_ior hX dX5_kinds_160 ?_
      refine zr_istore hX dX5_kinds_161 (Nat.le_of_ble_eq_true rfl) ?_
      refine zr_iinc hX dX5_kinds_163 rfl (Nat.le_of_ble_eq_true rfl) ?_
      refine zr_goto hX dX5_kinds_166 (tgt := 107) rfl ?_
      exact zW_lf (k_X_kinds_107 h) (And.intro rfl (And.intro rfl (And.intro rfl (And.intro rfl (And.intro rfl (And.intro rfl trivial))))))
set_option maxRecDepth 100000 in
set_option maxHeartbeats 4000000 in
theorem w_X_kinds_e {X : zX} {G : zG} {v1 : Int} {v2 : Int} {v3 : Int} {μ : zM} {rv : Option zV} {ν : zM} (hX : zOk X G cX5_kinds RX5 6 (some .int) 6) (hF : zFin X G rv ν) (h : zP (Sum.elim (k_X_kinds X G v1 v2 v3) (fun r : (Int × zM) => (some (zI r.1), r.2) = (rv, ν))) (e_X_kinds v1 v2 v3 μ)) : zW X G 6 0 [some (zR 0), some (zI v1), some (zI v2), some (zI v3), none, none] [] μ := by
  refine zr_aload_n hX dX5_kinds_0 rfl rfl ?_
  refine zr_iload_n hX dX5_kinds_1 rfl rfl ?_
  refine zr_iload_n hX dX5_kinds_2 rfl rfl ?_
  refine zr_callV hX dX5_kinds_3 (m_X_isNoPlace) rfl rfl rfl (z5 ww_427 ww_429 ww_4 ww_70 ww_430) hy_X5_isNoPlace rfl (Nat.le_of_ble_eq_true rfl) (Nat.le_of_ble_eq_true rfl) (Nat.le_of_ble_eq_true rfl) ?_
  refine zr_ifne (tgt := 20) hX dX5_kinds_6 rfl h (fun h => ?_) (fun h => ?_)
  · refine zr_iconst hX dX5_kinds_20 (zrl rfl) ?_
    exact zr_iret hX dX5_kinds_21 hF h
  · refine zr_aload_n hX dX5_kinds_9 rfl rfl ?_
    refine zr_getr hX dX5_kinds_10 (k := 0) (q := 1) rfl rfl ww_199 rfl ?_
    refine zr_iload_n hX dX5_kinds_13 rfl rfl ?_
    refine zr_callV hX dX5_kinds_14 (m_S_knows rfl) rfl rfl rfl (z5 ww_240 ww_241 ww_242 ww_71 ww_243) hy_X3_knows rfl (Nat.le_of_ble_eq_true rfl) (Nat.le_of_ble_eq_true rfl) (Nat.le_of_ble_eq_true rfl) ?_
    refine zr_ifne (tgt := 22) hX dX5_kinds_17 rfl h (fun h => ?_) (fun h => ?_)
    · refine zr_aload_n hX dX5_kinds_22 rfl rfl ?_
      refine zr_getr hX dX5_kinds_23 (k := 2) (q := 7) rfl rfl ww_201 rfl ?_
      refine zr_getrN hX dX5_kinds_26 (k := 0) (q := 8) rfl rfl nf_X5_125 rfl ?_
      refine zr_iload_n hX dX5_kinds_29 rfl rfl ?_
      refine zr_iload_n hX dX5_kinds_30 rfl rfl ?_
      refine zP_bind h (fun q1 hq1 h => ?_)
      refine zr_callV hX dX5_kinds_31 (m_R_has rfl hq1) rfl rfl rfl (z5 ww_431 ww_375 ww_376 ww_74 ww_377) hy_X1_has rfl (Nat.le_of_ble_eq_true rfl) (Nat.le_of_ble_eq_true rfl) (Nat.le_of_ble_eq_true rfl) ?_
      refine zr_ifne (tgt := 43) hX dX5_kinds_34 rfl h (fun h => ?_) (fun h => ?_)
      · refine zr_aload_n hX dX5_kinds_43 rfl rfl ?_
        refine zr_getr hX dX5_kinds_44 (k := 0) (q := 1) rfl rfl ww_199 rfl ?_
        refine zr_iload_n hX dX5_kinds_47 rfl rfl ?_
        refine zP_bind h (fun q2 hq2 h => ?_)
        refine zr_callV hX dX5_kinds_48 (m_S_isThere rfl hq2) rfl rfl rfl (z5 ww_269 ww_270 ww_271 ww_71 ww_272) hy_X3_isThere rfl (Nat.le_of_ble_eq_true rfl) (Nat.le_of_ble_eq_true rfl) (Nat.le_of_ble_eq_true rfl) ?_
        refine zr_ifne (tgt := 60) hX dX5_kinds_51 rfl h (fun h => ?_) (fun h => ?_)
        · refine zr_aload_n hX dX5_kinds_60 rfl rfl ?_
          refine zr_getr hX dX5_kinds_61 (k := 0) (q := 1) rfl rfl ww_199 rfl ?_
          refine zr_iload_n hX dX5_kinds_64 rfl rfl ?_
          refine zP_bind h (fun q3 hq3 h => ?_)
          refine zr_callV hX dX5_kinds_65 (m_S_sizeOf rfl hq3) rfl rfl rfl (z5 ww_311 ww_262 ww_263 ww_71 ww_264) hy_X3_sizeOf rfl (Nat.le_of_ble_eq_true rfl) (Nat.le_of_ble_eq_true rfl) (Nat.le_of_ble_eq_true rfl) ?_
          refine zr_aload_n hX dX5_kinds_68 rfl rfl ?_
          refine zr_getr hX dX5_kinds_69 (k := 2) (q := 7) rfl rfl ww_201 rfl ?_
          refine zr_getrN hX dX5_kinds_72 (k := 0) (q := 8) rfl rfl nf_X5_125 rfl ?_
          refine zr_callV hX dX5_kinds_75 (m_R_houseCount rfl) rfl rfl rfl (z5 ww_659 ww_437 ww_438 ww_74 ww_439) hy_X1_houseCount rfl (Nat.le_of_ble_eq_true rfl) (Nat.le_of_ble_eq_true rfl) (Nat.le_of_ble_eq_true rfl) ?_
          refine zr_icmpeq (tgt := 87) hX dX5_kinds_78 rfl h (fun h => ?_) (fun h => ?_)
          · refine zr_aload_n hX dX5_kinds_87 rfl rfl ?_
            refine zr_getr hX dX5_kinds_88 (k := 4) (q := 13) rfl rfl ww_203 rfl ?_
            refine zr_aload_n hX dX5_kinds_91 rfl rfl ?_
            refine zr_getr hX dX5_kinds_92 (k := 2) (q := 7) rfl rfl ww_201 rfl ?_
            refine zr_getrN hX dX5_kinds_95 (k := 0) (q := 8) rfl rfl nf_X5_125 rfl ?_
            refine zP_bind h (fun q4 hq4 h => ?_)
            refine zr_callV hX dX5_kinds_98 (m_R_takeFrom rfl rfl hq4) rfl rfl rfl (z5 ww_544 ww_387 ww_388 ww_74 ww_389) hy_X1_takeFrom rfl (Nat.le_of_ble_eq_true rfl) (Nat.le_of_ble_eq_true rfl) (Nat.le_of_ble_eq_true rfl) ?_
            refine zr_iconst hX dX5_kinds_101 (zrl rfl) ?_
            refine zr_istore hX dX5_kinds_102 (Nat.le_of_ble_eq_true rfl) ?_
            refine zr_iconst hX dX5_kinds_104 (zrl rfl) ?_
            refine zr_istore hX dX5_kinds_105 (Nat.le_of_ble_eq_true rfl) ?_
            exact zW_lf (k_X_kinds_107 h) (And.intro rfl (And.intro rfl (And.intro rfl (And.intro rfl (And.intro rfl (And.intro rfl trivial))))))
          · refine zr_aload_n hX dX5_kinds_81 rfl rfl ?_
            refine zr_iconst hX dX5_kinds_82 (zrl rfl) ?_
            refine zP_bind h (fun q5 hq5 h => ?_)
            refine zr_callV hX dX5_kinds_83 (m_X_found hq5) rfl rfl rfl (z5 ww_244 ww_246 ww_0 ww_70 ww_247) hy_X5_found rfl (Nat.le_of_ble_eq_true rfl) (Nat.le_of_ble_eq_true rfl) (Nat.le_of_ble_eq_true rfl) ?_
            exact zr_iret hX dX5_kinds_86 hF h
        · refine zr_aload_n hX dX5_kinds_54 rfl rfl ?_
          refine zr_iconst hX dX5_kinds_55 (zrl rfl) ?_
          refine zP_bind h (fun q6 hq6 h => ?_)
          refine zr_callV hX dX5_kinds_56 (m_X_found hq6) rfl rfl rfl (z5 ww_244 ww_246 ww_0 ww_70 ww_247) hy_X5_found rfl (Nat.le_of_ble_eq_true rfl) (Nat.le_of_ble_eq_true rfl) (Nat.le_of_ble_eq_true rfl) ?_
          exact zr_iret hX dX5_kinds_59 hF h
      · refine zr_aload_n hX dX5_kinds_37 rfl rfl ?_
        refine zr_iconst hX dX5_kinds_38 (zrl rfl) ?_
        refine zP_bind h (fun q7 hq7 h => ?_)
        refine zr_callV hX dX5_kinds_39 (m_X_found hq7) rfl rfl rfl (z5 ww_244 ww_246 ww_0 ww_70 ww_247) hy_X5_found rfl (Nat.le_of_ble_eq_true rfl) (Nat.le_of_ble_eq_true rfl) (Nat.le_of_ble_eq_true rfl) ?_
        exact zr_iret hX dX5_kinds_42 hF h
    · refine zr_iconst hX dX5_kinds_20 (zrl rfl) ?_
      exact zr_iret hX dX5_kinds_21 hF h
set_option maxRecDepth 100000 in
theorem m_X_kinds {l : Launch} {G : zG} {v1 : Int} {v2 : Int} {v3 : Int} {μ : zM} {q : Int × zM} (hq : f_X_kinds v1 v2 v3 μ = some q) : zCT l G yX5_kinds cX5_kinds 6 (some .int) 6 [zR 0, zI v1, zI v2, zI v3] μ (some (zI q.1)) q.2 := by
  refine zMet (lv := [some (zR 0), some (zI v1), some (zI v2), some (zI v3), none, none]) (k := 2) pl_X5 rfl (Nat.le_of_ble_eq_true rfl) (fun X hl hX hF _ _ => ?_)
  refine w_X_kinds_e hX hF (zgo_K (r := q) (step := t_X_kinds v1 v2 v3) (fun s h => ?_) rfl hq)
  exact w_X_kinds_107 hX hF h
set_option maxRecDepth 100000 in
set_option maxHeartbeats 4000000 in
theorem w_X_odds_79 {X : zX} {G : zG} {v1 : Int} {v2 : Int} {μ : zM} {rv : Option zV} {ν : zM} (hX : zOk X G cX5_odds RX5 5 (some .int) 5) (hF : zFin X G rv ν) {v4 w1 : Int} (h : zP (fun r : (Int × zM) => (some (zI r.1), r.2) = (rv, ν)) (j_X_odds_79 v1 v2 v4 w1 μ)) : zW X G 5 79 [some (zR 0), none, none, none, some (zI v4)] [zJ w1, zR 0] μ := by
  refine zr_putj hX dX5_odds_79 (k := 10) rfl rfl ww_209 rfl (by decide +kernel) ?_
  refine zr_aload_n hX dX5_odds_82 rfl rfl ?_
  refine zr_iload hX dX5_odds_83 rfl ?_
  refine zr_ifeq (tgt := 92) hX dX5_odds_85 rfl h (fun h => ?_) (fun h => ?_)
  · refine zr_ldc2 hX dX5_odds_92 ww_770 rfl (zrlJ rfl) ?_
    refine zr_putj hX dX5_odds_95 (k := 11) rfl rfl ww_210 rfl (by decide +kernel) ?_
    refine zr_iconst hX dX5_odds_98 (zrl rfl) ?_
    exact zr_iret hX dX5_odds_99 hF h
  · refine zr_lconst hX dX5_odds_88 (n := 1) rfl (zrlJ rfl) ?_
    refine zr_goto hX dX5_odds_89 (tgt := 95) rfl ?_
    refine zr_putj hX dX5_odds_95 (k := 11) rfl rfl ww_210 rfl (by decide +kernel) ?_
    refine zr_iconst hX dX5_odds_98 (zrl rfl) ?_
    exact zr_iret hX dX5_odds_99 hF h
set_option maxRecDepth 100000 in
set_option maxHeartbeats 4000000 in
theorem w_X_odds_62 {X : zX} {G : zG} {v1 : Int} {v2 : Int} {μ : zM} {rv : Option zV} {ν : zM} (hX : zOk X G cX5_odds RX5 5 (some .int) 5) (hF : zFin X G rv ν) {v3 w0 : Int} (h : zP (fun r : (Int × zM) => (some (zI r.1), r.2) = (rv, ν)) (j_X_odds_62 v1 v2 v3 w0 μ)) : zW X G 5 62 [some (zR 0), none, none, some (zI v3), none] [zI w0] μ := by
  refine zr_istore hX dX5_odds_62 (Nat.le_of_ble_eq_true rfl) ?_
  refine zr_aload_n hX dX5_odds_64 rfl rfl ?_
  refine zr_iload hX dX5_odds_65 rfl ?_
  refine zr_ifeq (tgt := 77) hX dX5_odds_67 rfl h (fun h => ?_) (fun h => ?_)
  · refine zr_iload_n hX dX5_odds_77 rfl rfl ?_
    refine zr_i2l hX dX5_odds_78 ?_
    exact zW_lf (w_X_odds_79 hX hF h) (And.intro rfl (And.intro rfl trivial))
  · refine zr_iload_n hX dX5_odds_70 rfl rfl ?_
    refine zr_iconst hX dX5_odds_71 (zrl rfl) ?_
    refine zr_idivc hX dX5_odds_72 (by decide) ?_
    refine zr_i2l hX dX5_odds_73 ?_
    refine zr_goto hX dX5_odds_74 (tgt := 79) rfl ?_
    exact zW_lf (w_X_odds_79 hX hF h) (And.intro rfl (And.intro rfl trivial))
set_option maxRecDepth 100000 in
set_option maxHeartbeats 4000000 in
theorem w_X_odds_57 {X : zX} {G : zG} {v1 : Int} {v2 : Int} {μ : zM} {rv : Option zV} {ν : zM} (hX : zOk X G cX5_odds RX5 5 (some .int) 5) (hF : zFin X G rv ν) {v3 : Int} (h : zP (fun r : (Int × zM) => (some (zI r.1), r.2) = (rv, ν)) (j_X_odds_57 v1 v2 v3 μ)) : zW X G 5 57 [some (zR 0), none, none, some (zI v3), none] [] μ := by
  refine zr_iconst hX dX5_odds_57 (zrl rfl) ?_
  refine zr_goto hX dX5_odds_58 (tgt := 62) rfl ?_
  exact zW_lf (w_X_odds_62 hX hF h) (And.intro rfl (And.intro rfl trivial))
set_option maxRecDepth 100000 in
set_option maxHeartbeats 4000000 in
theorem w_X_odds_e {X : zX} {G : zG} {v1 : Int} {v2 : Int} {μ : zM} {rv : Option zV} {ν : zM} (hX : zOk X G cX5_odds RX5 5 (some .int) 5) (hF : zFin X G rv ν) (h : zP (fun r : (Int × zM) => (some (zI r.1), r.2) = (rv, ν)) (f_X_odds v1 v2 μ)) : zW X G 5 0 [some (zR 0), some (zI v1), some (zI v2), none, none] [] μ := by
  refine zr_aload_n hX dX5_odds_0 rfl rfl ?_
  refine zr_iload_n hX dX5_odds_1 rfl rfl ?_
  refine zr_iload_n hX dX5_odds_2 rfl rfl ?_
  refine zr_callV hX dX5_odds_3 (m_X_isNoPlace) rfl rfl rfl (z5 ww_427 ww_429 ww_4 ww_70 ww_430) hy_X5_isNoPlace rfl (Nat.le_of_ble_eq_true rfl) (Nat.le_of_ble_eq_true rfl) (Nat.le_of_ble_eq_true rfl) ?_
  refine zr_ifeq (tgt := 11) hX dX5_odds_6 rfl h (fun h => ?_) (fun h => ?_)
  · refine zr_aload_n hX dX5_odds_11 rfl rfl ?_
    refine zr_getr hX dX5_odds_12 (k := 2) (q := 7) rfl rfl ww_201 rfl ?_
    refine zr_getrN hX dX5_odds_15 (k := 0) (q := 8) rfl rfl nf_X5_125 rfl ?_
    refine zr_iload_n hX dX5_odds_18 rfl rfl ?_
    refine zr_iload_n hX dX5_odds_19 rfl rfl ?_
    refine zP_bind h (fun q1 hq1 h => ?_)
    refine zr_callV hX dX5_odds_20 (m_R_has rfl hq1) rfl rfl rfl (z5 ww_431 ww_375 ww_376 ww_74 ww_377) hy_X1_has rfl (Nat.le_of_ble_eq_true rfl) (Nat.le_of_ble_eq_true rfl) (Nat.le_of_ble_eq_true rfl) ?_
    refine zr_ifne (tgt := 32) hX dX5_odds_23 rfl h (fun h => ?_) (fun h => ?_)
    · refine zr_aload_n hX dX5_odds_32 rfl rfl ?_
      refine zr_getr hX dX5_odds_33 (k := 2) (q := 7) rfl rfl ww_201 rfl ?_
      refine zr_getrN hX dX5_odds_36 (k := 0) (q := 8) rfl rfl nf_X5_125 rfl ?_
      refine zr_iload_n hX dX5_odds_39 rfl rfl ?_
      refine zr_iload_n hX dX5_odds_40 rfl rfl ?_
      refine zP_bind h (fun q2 hq2 h => ?_)
      refine zr_callV hX dX5_odds_41 (m_R_hoursSeen rfl hq2) rfl rfl rfl (z5 ww_538 ww_539 ww_540 ww_74 ww_541) hy_X1_hoursSeen rfl (Nat.le_of_ble_eq_true rfl) (Nat.le_of_ble_eq_true rfl) (Nat.le_of_ble_eq_true rfl) ?_
      refine zr_callS hX dX5_odds_44 (m_J_bitCount) rfl (z4 ww_543 ww_506 ww_79 ww_507) hy_J6_bitCount_0f7a4 rfl (Nat.le_of_ble_eq_true rfl) (Nat.le_of_ble_eq_true rfl) (Nat.le_of_ble_eq_true rfl) ?_
      refine zr_istore_n hX dX5_odds_47 rfl (Nat.le_of_ble_eq_true rfl) ?_
      refine zr_iload_n hX dX5_odds_48 rfl rfl ?_
      refine zr_ifeq (tgt := 57) hX dX5_odds_49 rfl h (fun h => ?_) (fun h => ?_)
      · exact zW_lf (w_X_odds_57 hX hF h) (And.intro rfl (And.intro rfl trivial))
      · refine zr_iload_n hX dX5_odds_52 rfl rfl ?_
        refine zr_iconst hX dX5_odds_53 (zrl rfl) ?_
        refine zr_icmpne (tgt := 61) hX dX5_odds_54 rfl h (fun h => ?_) (fun h => ?_)
        · refine zr_iconst hX dX5_odds_61 (zrl rfl) ?_
          exact zW_lf (w_X_odds_62 hX hF h) (And.intro rfl (And.intro rfl trivial))
        · exact zW_lf (w_X_odds_57 hX hF h) (And.intro rfl (And.intro rfl trivial))
    · refine zr_aload_n hX dX5_odds_26 rfl rfl ?_
      refine zr_iconst hX dX5_odds_27 (zrl rfl) ?_
      refine zP_bind h (fun q3 hq3 h => ?_)
      refine zr_callV hX dX5_odds_28 (m_X_found hq3) rfl rfl rfl (z5 ww_244 ww_246 ww_0 ww_70 ww_247) hy_X5_found rfl (Nat.le_of_ble_eq_true rfl) (Nat.le_of_ble_eq_true rfl) (Nat.le_of_ble_eq_true rfl) ?_
      exact zr_iret hX dX5_odds_31 hF h
  · refine zr_iconst hX dX5_odds_9 (zrl rfl) ?_
    exact zr_iret hX dX5_odds_10 hF h
set_option maxRecDepth 100000 in
theorem m_X_odds {l : Launch} {G : zG} {v1 : Int} {v2 : Int} {μ : zM} {q : Int × zM} (hq : f_X_odds v1 v2 μ = some q) : zCT l G yX5_odds cX5_odds 5 (some .int) 5 [zR 0, zI v1, zI v2] μ (some (zI q.1)) q.2 := by
  refine zMet (lv := [some (zR 0), some (zI v1), some (zI v2), none, none]) (k := 2) pl_X5 rfl (Nat.le_of_ble_eq_true rfl) (fun X hl hX hF _ _ => ?_)
  exact w_X_odds_e hX hF (zP_of hq rfl)
def k_X_lots (X : zX) (G : zG) (v1 : Int) (v2 : Int) : (Int × Int × Int × Int × zM) → Prop := fun s => zW X G 9 67 [some (zR 0), some (zI v1), none, some (zI s.1), some (zI s.2.1), some (zJ s.2.2.1), none, some (zI s.2.2.2.1), none] [] s.2.2.2.2
theorem k_X_lots_67 {X : zX} {G : zG} {v1 : Int} {v2 : Int} {F : (Int × zM) → Prop} {v3 v4 v5 v7 : Int} {κ : zM} (h : zP (Sum.elim (k_X_lots X G v1 v2) F) (some (.inl ((v3, v4, v5, v7, κ))))) : zW X G 9 67 [some (zR 0), some (zI v1), none, some (zI v3), some (zI v4), some (zJ v5), none, some (zI v7), none] [] κ := h
set_option maxRecDepth 100000 in
set_option maxHeartbeats 4000000 in
theorem w_X_lots_67 {X : zX} {G : zG} {v1 : Int} {v2 : Int} {μ : zM} {rv : Option zV} {ν : zM} (hX : zOk X G cX5_lots RX5 9 (some .int) 5) (hF : zFin X G rv ν) {v3 v4 v5 v7 : Int} (h : zP (Sum.elim (k_X_lots X G v1 v2) (fun r : (Int × zM) => (some (zI r.1), r.2) = (rv, ν))) (b_X_lots_67 v1 v2 v3 v4 v5 v7 μ)) : zW X G 9 67 [some (zR 0), some (zI v1), none, some (zI v3), some (zI v4), some (zJ v5), none, some (zI v7), none] [] μ := by
  refine zr_iload hX dX5_lots_67 rfl ?_
  refine zr_iload_n hX dX5_lots_69 rfl rfl ?_
  refine zr_icmpge (tgt := 133) hX dX5_lots_70 rfl h (fun h => ?_) (fun h => ?_)
  · refine zr_iload hX dX5_lots_133 rfl ?_
    exact zr_iret hX dX5_lots_135 hF h
  · refine zr_lload hX dX5_lots_73 rfl ?_
    refine zr_ldc2 hX dX5_lots_75 ww_776 rfl (zrlJ rfl) ?_
    refine zr_lmul hX dX5_lots_78 ?_
    refine zr_ldc2 hX dX5_lots_79 ww_777 rfl (zrlJ rfl) ?_
    refine zr_lremc hX dX5_lots_82 (by decide) ?_
    refine zr_lstore hX dX5_lots_83 (Nat.le_of_ble_eq_true rfl) ?_
    refine zr_aload_n hX dX5_lots_85 rfl rfl ?_
    refine zr_lload hX dX5_lots_86 rfl ?_
    refine zr_iload_n hX dX5_lots_88 rfl rfl ?_
    refine zr_i2l hX dX5_lots_89 ?_
    refine zr_lrem hX dX5_lots_90 h (fun h => ?_)
    refine zr_l2i hX dX5_lots_91 ?_
    refine zr_lload hX dX5_lots_92 rfl ?_
    refine zr_ldc2 hX dX5_lots_94 ww_778 rfl (zrlJ rfl) ?_
    refine zr_ldivc hX dX5_lots_97 (by decide) ?_
    refine zr_ldc2 hX dX5_lots_98 ww_779 rfl (zrlJ rfl) ?_
    refine zr_lremc hX dX5_lots_101 (by decide) ?_
    refine zr_l2i hX dX5_lots_102 ?_
    refine zr_lload hX dX5_lots_103 rfl ?_
    refine zr_ldc2 hX dX5_lots_105 ww_780 rfl (zrlJ rfl) ?_
    refine zr_ldivc hX dX5_lots_108 (by decide) ?_
    refine zr_ldc2 hX dX5_lots_109 ww_781 rfl (zrlJ rfl) ?_
    refine zr_lremc hX dX5_lots_112 (by decide) ?_
    refine zr_l2i hX dX5_lots_113 ?_
    refine zP_bind h (fun q1 hq1 h => ?_)
    refine zr_callV hX dX5_lots_114 (m_X_build hq1) rfl rfl rfl (z5 ww_782 ww_557 ww_558 ww_70 ww_559) hy_X5_build rfl (Nat.le_of_ble_eq_true rfl) (Nat.le_of_ble_eq_true rfl) (Nat.le_of_ble_eq_true rfl) ?_
    refine zr_istore hX dX5_lots_117 (Nat.le_of_ble_eq_true rfl) ?_
    refine zr_iload hX dX5_lots_119 rfl ?_
    refine zr_iflt (tgt := 127) hX dX5_lots_121 rfl h (fun h => ?_) (fun h => ?_)
    · refine zr_iinc hX dX5_lots_127 rfl (Nat.le_of_ble_eq_true rfl) ?_
      refine zr_goto hX dX5_lots_130 (tgt := 67) rfl ?_
      exact zW_lf (k_X_lots_67 h) (And.intro rfl (And.intro rfl (And.intro rfl (And.intro rfl (And.intro rfl (And.intro rfl trivial))))))
    · refine zr_iinc hX dX5_lots_124 rfl (Nat.le_of_ble_eq_true rfl) ?_
      refine zr_iinc hX dX5_lots_127 rfl (Nat.le_of_ble_eq_true rfl) ?_
      refine zr_goto hX dX5_lots_130 (tgt := 67) rfl ?_
      exact zW_lf (k_X_lots_67 h) (And.intro rfl (And.intro rfl (And.intro rfl (And.intro rfl (And.intro rfl (And.intro rfl trivial))))))
set_option maxRecDepth 100000 in
set_option maxHeartbeats 4000000 in
theorem w_X_lots_e {X : zX} {G : zG} {v1 : Int} {v2 : Int} {μ : zM} {rv : Option zV} {ν : zM} (hX : zOk X G cX5_lots RX5 9 (some .int) 5) (hF : zFin X G rv ν) (h : zP (Sum.elim (k_X_lots X G v1 v2) (fun r : (Int × zM) => (some (zI r.1), r.2) = (rv, ν))) (e_X_lots v1 v2 μ)) : zW X G 9 0 [some (zR 0), some (zI v1), some (zI v2), none, none, none, none, none, none] [] μ := by
  refine zr_iload_n hX dX5_lots_0 rfl rfl ?_
  refine zr_iconst hX dX5_lots_1 (zrl rfl) ?_
  refine zr_icmplt (tgt := 23) hX dX5_lots_2 rfl h (fun h => ?_) (fun h => ?_)
  · refine zr_iconst hX dX5_lots_23 (zrl rfl) ?_
    exact zr_iret hX dX5_lots_24 hF h
  · refine zr_iload_n hX dX5_lots_5 rfl rfl ?_
    refine zr_bipush hX dX5_lots_6 rfl ?_
    refine zr_icmpgt (tgt := 23) hX dX5_lots_8 rfl h (fun h => ?_) (fun h => ?_)
    · refine zr_iconst hX dX5_lots_23 (zrl rfl) ?_
      exact zr_iret hX dX5_lots_24 hF h
    · refine zr_iload_n hX dX5_lots_11 rfl rfl ?_
      refine zr_iconst hX dX5_lots_12 (zrl rfl) ?_
      refine zr_icmplt (tgt := 23) hX dX5_lots_13 rfl h (fun h => ?_) (fun h => ?_)
      · refine zr_iconst hX dX5_lots_23 (zrl rfl) ?_
        exact zr_iret hX dX5_lots_24 hF h
      · refine zr_iload_n hX dX5_lots_16 rfl rfl ?_
        refine zr_ldcw hX dX5_lots_17 ww_775 rfl (zrl rfl) ?_
        refine zr_icmplt (tgt := 25) hX dX5_lots_20 rfl h (fun h => ?_) (fun h => ?_)
        · refine zr_aload_n hX dX5_lots_25 rfl rfl ?_
          refine zr_getr hX dX5_lots_26 (k := 2) (q := 7) rfl rfl ww_201 rfl ?_
          refine zr_getrN hX dX5_lots_29 (k := 0) (q := 8) rfl rfl nf_X5_125 rfl ?_
          refine zr_callV hX dX5_lots_32 (m_R_towerCount rfl) rfl rfl rfl (z5 ww_341 ww_342 ww_343 ww_74 ww_344) hy_X1_towerCount rfl (Nat.le_of_ble_eq_true rfl) (Nat.le_of_ble_eq_true rfl) (Nat.le_of_ble_eq_true rfl) ?_
          refine zr_istore_n hX dX5_lots_35 rfl (Nat.le_of_ble_eq_true rfl) ?_
          refine zr_iload_n hX dX5_lots_36 rfl rfl ?_
          refine zr_ifne (tgt := 43) hX dX5_lots_37 rfl h (fun h => ?_) (fun h => ?_)
          · refine zr_aload_n hX dX5_lots_43 rfl rfl ?_
            refine zr_getr hX dX5_lots_44 (k := 2) (q := 7) rfl rfl ww_201 rfl ?_
            refine zr_iload_n hX dX5_lots_47 rfl rfl ?_
            refine zr_callV hX dX5_lots_48 (m_Y_hasRoomFor rfl) rfl rfl rfl (z5 ww_560 ww_561 ww_562 ww_73 ww_563) hy_X4_hasRoomFor rfl (Nat.le_of_ble_eq_true rfl) (Nat.le_of_ble_eq_true rfl) (Nat.le_of_ble_eq_true rfl) ?_
            refine zr_ifne (tgt := 57) hX dX5_lots_51 rfl h (fun h => ?_) (fun h => ?_)
            · refine zr_iconst hX dX5_lots_57 (zrl rfl) ?_
              refine zr_istore hX dX5_lots_58 (Nat.le_of_ble_eq_true rfl) ?_
              refine zr_iload_n hX dX5_lots_60 rfl rfl ?_
              refine zr_i2l hX dX5_lots_61 ?_
              refine zr_lstore hX dX5_lots_62 (Nat.le_of_ble_eq_true rfl) ?_
              refine zr_iconst hX dX5_lots_64 (zrl rfl) ?_
              refine zr_istore hX dX5_lots_65 (Nat.le_of_ble_eq_true rfl) ?_
              exact zW_lf (k_X_lots_67 h) (And.intro rfl (And.intro rfl (And.intro rfl (And.intro rfl (And.intro rfl (And.intro rfl trivial))))))
            · refine zr_bipush hX dX5_lots_54 rfl ?_
              exact zr_iret hX dX5_lots_56 hF h
          · refine zr_bipush hX dX5_lots_40 rfl ?_
            exact zr_iret hX dX5_lots_42 hF h
        · refine zr_iconst hX dX5_lots_23 (zrl rfl) ?_
          exact zr_iret hX dX5_lots_24 hF h
set_option maxRecDepth 100000 in
theorem m_X_lots {l : Launch} {G : zG} {v1 : Int} {v2 : Int} {μ : zM} {q : Int × zM} (hq : f_X_lots v1 v2 μ = some q) : zCT l G yX5_lots cX5_lots 9 (some .int) 5 [zR 0, zI v1, zI v2] μ (some (zI q.1)) q.2 := by
  refine zMet (lv := [some (zR 0), some (zI v1), some (zI v2), none, none, none, none, none, none]) (k := 6) pl_X5 rfl (Nat.le_of_ble_eq_true rfl) (fun X hl hX hF _ _ => ?_)
  refine w_X_lots_e hX hF (zgo_K (r := q) (step := t_X_lots v1 v2) (fun s h => ?_) rfl hq)
  exact w_X_lots_67 hX hF h
set_option maxRecDepth 100000 in
set_option maxHeartbeats 4000000 in
theorem w_X_asked_e {X : zX} {G : zG} {μ : zM} {rv : Option zV} {ν : zM} (hX : zOk X G cX5_asked RX5 1 (some .int) 1) (hF : zFin X G rv ν) (h : zP (fun r : Int => (some (zI r), μ) = (rv, ν)) (fo_X_asked μ)) : zW X G 1 0 [some (zR 0)] [] μ := by
  refine zr_aload_n hX dX5_asked_0 rfl rfl ?_
  refine zr_geti hX dX5_asked_1 (k := 9) rfl rfl ww_208 ?_
  exact zr_iret hX dX5_asked_4 hF h
set_option maxRecDepth 100000 in
theorem m_X_asked {l : Launch} {G : zG} {μ : zM} : zCT l G yX5_asked cX5_asked 1 (some .int) 1 [zR 0] μ (some (zI (f_X_asked μ))) μ := by
  refine zMet (lv := [some (zR 0)]) (k := 0) pl_X5 rfl (Nat.le_of_ble_eq_true rfl) (fun X hl hX hF _ _ => ?_)
  exact w_X_asked_e hX hF (by rw [fo_X_asked_eq]; rfl)
set_option maxRecDepth 100000 in
set_option maxHeartbeats 4000000 in
theorem w_X_upper_e {X : zX} {G : zG} {μ : zM} {rv : Option zV} {ν : zM} (hX : zOk X G cX5_upper RX5 1 (some .long) 1) (hF : zFin X G rv ν) (h : zP (fun r : Int => (some (zJ r), μ) = (rv, ν)) (fo_X_upper μ)) : zW X G 1 0 [some (zR 0)] [] μ := by
  refine zr_aload_n hX dX5_upper_0 rfl rfl ?_
  refine zr_getj hX dX5_upper_1 (k := 10) rfl rfl ww_209 ?_
  exact zr_lret hX dX5_upper_4 hF h
set_option maxRecDepth 100000 in
theorem m_X_upper {l : Launch} {G : zG} {μ : zM} : zCT l G yX5_upper cX5_upper 1 (some .long) 1 [zR 0] μ (some (zJ (f_X_upper μ))) μ := by
  refine zMet (lv := [some (zR 0)]) (k := 0) pl_X5 rfl (Nat.le_of_ble_eq_true rfl) (fun X hl hX hF _ _ => ?_)
  exact w_X_upper_e hX hF (by rw [fo_X_upper_eq]; rfl)
set_option maxRecDepth 100000 in
set_option maxHeartbeats 4000000 in
theorem w_X_lower_e {X : zX} {G : zG} {μ : zM} {rv : Option zV} {ν : zM} (hX : zOk X G cX5_lower RX5 1 (some .long) 1) (hF : zFin X G rv ν) (h : zP (fun r : Int => (some (zJ r), μ) = (rv, ν)) (fo_X_lower μ)) : zW X G 1 0 [some (zR 0)] [] μ := by
  refine zr_aload_n hX dX5_lower_0 rfl rfl ?_
  refine zr_getj hX dX5_lower_1 (k := 11) rfl rfl ww_210 ?_
  exact zr_lret hX dX5_lower_4 hF h
set_option maxRecDepth 100000 in
theorem m_X_lower {l : Launch} {G : zG} {μ : zM} : zCT l G yX5_lower cX5_lower 1 (some .long) 1 [zR 0] μ (some (zJ (f_X_lower μ))) μ := by
  refine zMet (lv := [some (zR 0)]) (k := 0) pl_X5 rfl (Nat.le_of_ble_eq_true rfl) (fun X hl hX hF _ _ => ?_)
  exact w_X_lower_e hX hF (by rw [fo_X_lower_eq]; rfl)
def k_R_mostStoreys (X : zX) (G : zG) (o : Nat) (μ : zM) : (Int × Int) → Prop := fun s => zW X G 3 4 [some (zR o), some (zI s.1), some (zI s.2)] [] μ
theorem k_R_mostStoreys_4 {X : zX} {G : zG} {o : Nat} {μ : zM} {F : Int → Prop} {v1 v2 : Int} (h : zP (Sum.elim (k_R_mostStoreys X G o μ) F) (some (.inl ((v1, v2))))) : zW X G 3 4 [some (zR o), some (zI v1), some (zI v2)] [] μ := h
set_option maxRecDepth 100000 in
set_option maxHeartbeats 4000000 in
theorem w_R_mostStoreys_4 {X : zX} {G : zG} {o : Nat} {μ : zM} {rv : Option zV} {ν : zM} (hX : zOk X G cX1_mostStoreys RX1 3 (some .int) 2) (hF : zFin X G rv ν) (ho : zsh o = (0, 1)) {v1 v2 : Int} (h : zP (Sum.elim (k_R_mostStoreys X G o μ) (fun r : Int => (some (zI r), μ) = (rv, ν))) (b_R_mostStoreys_4 o v1 v2 μ)) : zW X G 3 4 [some (zR o), some (zI v1), some (zI v2)] [] μ := by
  refine zr_iload_n hX dX1_mostStoreys_4 rfl rfl ?_
  refine zr_aload_n hX dX1_mostStoreys_5 rfl rfl ?_
  refine zr_geti hX dX1_mostStoreys_6 (k := 0) ho rfl ww_123 ?_
  refine zr_icmpge (tgt := 28) hX dX1_mostStoreys_9 rfl h (fun h => ?_) (fun h => ?_)
  · refine zr_iload_n hX dX1_mostStoreys_28 rfl rfl ?_
    exact zr_iret hX dX1_mostStoreys_29 hF h
  · refine zr_iload_n hX dX1_mostStoreys_12 rfl rfl ?_
    refine zr_aload_n hX dX1_mostStoreys_13 rfl rfl ?_
    refine zr_iload_n hX dX1_mostStoreys_14 rfl rfl ?_
    refine zP_bind h (fun q1 hq1 h => ?_)
    refine zr_callV hX dX1_mostStoreys_15 (m_R_heightOf ho hq1) ho rfl rfl (z5 ww_358 ww_359 ww_360 ww_74 ww_361) hy_X1_heightOf rfl (Nat.le_of_ble_eq_true rfl) (Nat.le_of_ble_eq_true rfl) (Nat.le_of_ble_eq_true rfl) ?_
    refine zr_max hX dX1_mostStoreys_18 (by decide +kernel) (Nat.le_of_ble_eq_true rfl) (Nat.le_of_ble_eq_true rfl) ?_
    refine zr_istore_n hX dX1_mostStoreys_21 rfl (Nat.le_of_ble_eq_true rfl) ?_
    refine zr_iinc hX dX1_mostStoreys_22 rfl (Nat.le_of_ble_eq_true rfl) ?_
    refine zr_goto hX dX1_mostStoreys_25 (tgt := 4) rfl ?_
    exact zW_lf (k_R_mostStoreys_4 h) (And.intro rfl (And.intro rfl (And.intro rfl trivial)))
set_option maxRecDepth 100000 in
set_option maxHeartbeats 4000000 in
theorem w_R_mostStoreys_e {X : zX} {G : zG} {o : Nat} {μ : zM} {rv : Option zV} {ν : zM} (hX : zOk X G cX1_mostStoreys RX1 3 (some .int) 2) (hF : zFin X G rv ν) (ho : zsh o = (0, 1)) (h : zP (Sum.elim (k_R_mostStoreys X G o μ) (fun r : Int => (some (zI r), μ) = (rv, ν))) (e_R_mostStoreys o μ)) : zW X G 3 0 [some (zR o), none, none] [] μ := by
  refine zr_iconst hX dX1_mostStoreys_0 (zrl rfl) ?_
  refine zr_istore_n hX dX1_mostStoreys_1 rfl (Nat.le_of_ble_eq_true rfl) ?_
  refine zr_iconst hX dX1_mostStoreys_2 (zrl rfl) ?_
  refine zr_istore_n hX dX1_mostStoreys_3 rfl (Nat.le_of_ble_eq_true rfl) ?_
  exact zW_lf (k_R_mostStoreys_4 h) (And.intro rfl (And.intro rfl (And.intro rfl trivial)))
set_option maxRecDepth 100000 in
theorem m_R_mostStoreys {l : Launch} {G : zG} {o : Nat} {μ : zM} (ho : zsh o = (0, 1)) {q : Int} (hq : f_R_mostStoreys o μ = some q) : zCT l G yX1_mostStoreys cX1_mostStoreys 3 (some .int) 2 [zR o] μ (some (zI q)) μ := by
  refine zMet (lv := [some (zR o), none, none]) (k := 2) pl_X1 rfl (Nat.le_of_ble_eq_true rfl) (fun X hl hX hF _ _ => ?_)
  refine w_R_mostStoreys_e hX hF ho (zgo_K (r := q) (step := t_R_mostStoreys o μ) (fun s h => ?_) rfl hq)
  exact w_R_mostStoreys_4 hX hF ho h
def k_R_countOf (X : zX) (G : zG) (o : Nat) (v1 : Int) (μ : zM) : ((Int × Int) ⊕ (Int × Int × Int)) → Prop := fun s => match s with
  | .inl (s) => zW X G 5 4 [some (zR o), some (zI v1), some (zI s.1), some (zI s.2), none] [] μ
  | .inr (s) => zW X G 5 15 [some (zR o), some (zI v1), some (zI s.1), some (zI s.2.1), some (zI s.2.2)] [] μ
theorem k_R_countOf_4 {X : zX} {G : zG} {o : Nat} {v1 : Int} {μ : zM} {F : Int → Prop} {v2 v3 : Int} (h : zP (Sum.elim (k_R_countOf X G o v1 μ) F) (some (.inl (.inl ((v2, v3)))))) : zW X G 5 4 [some (zR o), some (zI v1), some (zI v2), some (zI v3), none] [] μ := h
theorem k_R_countOf_15 {X : zX} {G : zG} {o : Nat} {v1 : Int} {μ : zM} {F : Int → Prop} {v2 v3 v4 : Int} (h : zP (Sum.elim (k_R_countOf X G o v1 μ) F) (some (.inl (.inr ((v2, v3, v4)))))) : zW X G 5 15 [some (zR o), some (zI v1), some (zI v2), some (zI v3), some (zI v4)] [] μ := h
set_option maxRecDepth 100000 in
set_option maxHeartbeats 4000000 in
theorem w_R_countOf_4 {X : zX} {G : zG} {o : Nat} {v1 : Int} {μ : zM} {rv : Option zV} {ν : zM} (hX : zOk X G cX1_countOf RX1 5 (some .int) 3) (hF : zFin X G rv ν) (ho : zsh o = (0, 1)) {v2 v3 : Int} (h : zP (Sum.elim (k_R_countOf X G o v1 μ) (fun r : Int => (some (zI r), μ) = (rv, ν))) (b_R_countOf_4 o v1 v2 v3 μ)) : zW X G 5 4 [some (zR o), some (zI v1), some (zI v2), some (zI v3), none] [] μ := by
  refine zr_iload_n hX dX1_countOf_4 rfl rfl ?_
  refine zr_aload_n hX dX1_countOf_5 rfl rfl ?_
  refine zr_geti hX dX1_countOf_6 (k := 0) ho rfl ww_123 ?_
  refine zr_icmpge (tgt := 54) hX dX1_countOf_9 rfl h (fun h => ?_) (fun h => ?_)
  · refine zr_iload_n hX dX1_countOf_54 rfl rfl ?_
    exact zr_iret hX dX1_countOf_55 hF h
  · refine zr_iconst hX dX1_countOf_12 (zrl rfl) ?_
    refine zr_istore hX dX1_countOf_13 (Nat.le_of_ble_eq_true rfl) ?_
    exact zW_lf (k_R_countOf_15 h) (And.intro rfl (And.intro rfl (And.intro rfl (And.intro rfl (And.intro rfl trivial)))))
set_option maxRecDepth 100000 in
set_option maxHeartbeats 4000000 in
theorem w_R_countOf_15 {X : zX} {G : zG} {o : Nat} {v1 : Int} {μ : zM} {rv : Option zV} {ν : zM} (hX : zOk X G cX1_countOf RX1 5 (some .int) 3) (hF : zFin X G rv ν) (ho : zsh o = (0, 1)) {v2 v3 v4 : Int} (h : zP (Sum.elim (k_R_countOf X G o v1 μ) (fun r : Int => (some (zI r), μ) = (rv, ν))) (b_R_countOf_15 o v1 v2 v3 v4 μ)) : zW X G 5 15 [some (zR o), some (zI v1), some (zI v2), some (zI v3), some (zI v4)] [] μ := by
  refine zr_iload hX dX1_countOf_15 rfl ?_
  refine zr_aload_n hX dX1_countOf_17 rfl rfl ?_
  refine zr_iload_n hX dX1_countOf_18 rfl rfl ?_
  refine zP_bind h (fun q1 hq1 h => ?_)
  refine zr_callV hX dX1_countOf_19 (m_R_heightOf ho hq1) ho rfl rfl (z5 ww_358 ww_359 ww_360 ww_74 ww_361) hy_X1_heightOf rfl (Nat.le_of_ble_eq_true rfl) (Nat.le_of_ble_eq_true rfl) (Nat.le_of_ble_eq_true rfl) ?_
  refine zr_icmpge (tgt := 48) hX dX1_countOf_22 rfl h (fun h => ?_) (fun h => ?_)
  · refine zr_iinc hX dX1_countOf_48 rfl (Nat.le_of_ble_eq_true rfl) ?_
    refine zr_goto hX dX1_countOf_51 (tgt := 4) rfl ?_
    exact zW_lf (k_R_countOf_4 h) (And.intro rfl (And.intro rfl (And.intro rfl (And.intro rfl trivial))))
  · refine zr_aload_n hX dX1_countOf_25 rfl rfl ?_
    refine zr_iload_n hX dX1_countOf_26 rfl rfl ?_
    refine zr_iload hX dX1_countOf_27 rfl ?_
    refine zP_bind h (fun q2 hq2 h => ?_)
    refine zr_callV hX dX1_countOf_29 (m_R_kindAt ho hq2) ho rfl rfl (z5 ww_396 ww_397 ww_398 ww_74 ww_399) hy_X1_kindAt rfl (Nat.le_of_ble_eq_true rfl) (Nat.le_of_ble_eq_true rfl) (Nat.le_of_ble_eq_true rfl) ?_
    refine zr_iload_n hX dX1_countOf_32 rfl rfl ?_
    refine zP_bind h (fun q3 hq3 h => ?_)
    refine zr_callSN hX dX1_countOf_33 (m_X_isOf hq3) rfl nm_X1_84 (z3 ww_470 ww_70 ww_471) hy_X5_isOf rfl (Nat.le_of_ble_eq_true rfl) (Nat.le_of_ble_eq_true rfl) (Nat.le_of_ble_eq_true rfl) ?_
    refine zr_ifeq (tgt := 42) hX dX1_countOf_36 rfl h (fun h => ?_) (fun h => ?_)
    · refine zr_iinc hX dX1_countOf_42 rfl (Nat.le_of_ble_eq_true rfl) ?_
      refine zr_goto hX dX1_countOf_45 (tgt := 15) rfl ?_
      exact zW_lf (k_R_countOf_15 h) (And.intro rfl (And.intro rfl (And.intro rfl (And.intro rfl (And.intro rfl trivial)))))
    · refine zr_iinc hX dX1_countOf_39 rfl (Nat.le_of_ble_eq_true rfl) ?_
      refine zr_iinc hX dX1_countOf_42 rfl (Nat.le_of_ble_eq_true rfl) ?_
      refine zr_goto hX dX1_countOf_45 (tgt := 15) rfl ?_
      exact zW_lf (k_R_countOf_15 h) (And.intro rfl (And.intro rfl (And.intro rfl (And.intro rfl (And.intro rfl trivial)))))
set_option maxRecDepth 100000 in
set_option maxHeartbeats 4000000 in
theorem w_R_countOf_e {X : zX} {G : zG} {o : Nat} {v1 : Int} {μ : zM} {rv : Option zV} {ν : zM} (hX : zOk X G cX1_countOf RX1 5 (some .int) 3) (hF : zFin X G rv ν) (ho : zsh o = (0, 1)) (h : zP (Sum.elim (k_R_countOf X G o v1 μ) (fun r : Int => (some (zI r), μ) = (rv, ν))) (e_R_countOf o v1 μ)) : zW X G 5 0 [some (zR o), some (zI v1), none, none, none] [] μ := by
  refine zr_iconst hX dX1_countOf_0 (zrl rfl) ?_
  refine zr_istore_n hX dX1_countOf_1 rfl (Nat.le_of_ble_eq_true rfl) ?_
  refine zr_iconst hX dX1_countOf_2 (zrl rfl) ?_
  refine zr_istore_n hX dX1_countOf_3 rfl (Nat.le_of_ble_eq_true rfl) ?_
  exact zW_lf (k_R_countOf_4 h) (And.intro rfl (And.intro rfl (And.intro rfl (And.intro rfl trivial))))
set_option maxRecDepth 100000 in
theorem m_R_countOf {l : Launch} {G : zG} {o : Nat} {v1 : Int} {μ : zM} (ho : zsh o = (0, 1)) {q : Int} (hq : f_R_countOf o v1 μ = some q) : zCT l G yX1_countOf cX1_countOf 5 (some .int) 3 [zR o, zI v1] μ (some (zI q)) μ := by
  refine zMet (lv := [some (zR o), some (zI v1), none, none, none]) (k := 3) pl_X1 rfl (Nat.le_of_ble_eq_true rfl) (fun X hl hX hF _ _ => ?_)
  refine w_R_countOf_e hX hF ho (zgo_K (r := q) (step := t_R_countOf o v1 μ) (fun s h => ?_) rfl hq)
  cases s with
  | inl s => exact w_R_countOf_4 hX hF ho h
  | inr s => exact w_R_countOf_15 hX hF ho h
def k_S_thereCount (X : zX) (G : zG) (o : Nat) (μ : zM) : (Int × Int) → Prop := fun s => zW X G 3 4 [some (zR o), some (zI s.1), some (zI s.2)] [] μ
theorem k_S_thereCount_4 {X : zX} {G : zG} {o : Nat} {μ : zM} {F : Int → Prop} {v1 v2 : Int} (h : zP (Sum.elim (k_S_thereCount X G o μ) F) (some (.inl ((v1, v2))))) : zW X G 3 4 [some (zR o), some (zI v1), some (zI v2)] [] μ := h
set_option maxRecDepth 100000 in
set_option maxHeartbeats 4000000 in
theorem w_S_thereCount_4 {X : zX} {G : zG} {o : Nat} {μ : zM} {rv : Option zV} {ν : zM} (hX : zOk X G cX3_thereCount RX3 3 (some .int) 4) (hF : zFin X G rv ν) (ho : zsh o = (0, 3)) {v1 v2 : Int} (h : zP (Sum.elim (k_S_thereCount X G o μ) (fun r : Int => (some (zI r), μ) = (rv, ν))) (b_S_thereCount_4 o v1 v2 μ)) : zW X G 3 4 [some (zR o), some (zI v1), some (zI v2)] [] μ := by
  refine zr_iload_n hX dX3_thereCount_4 rfl rfl ?_
  refine zr_aload_n hX dX3_thereCount_5 rfl rfl ?_
  refine zr_getr hX dX3_thereCount_6 (k := 2) (q := (o + 1)) ho rfl ww_99 rfl ?_
  refine zr_alen hX dX3_thereCount_9 (N := zsz (o + 1)) (zk31 ho) rfl (zsz_r _) ?_
  refine zr_icmpge (tgt := 30) hX dX3_thereCount_10 rfl h (fun h => ?_) (fun h => ?_)
  · refine zr_iload_n hX dX3_thereCount_30 rfl rfl ?_
    exact zr_iret hX dX3_thereCount_31 hF h
  · refine zr_aload_n hX dX3_thereCount_13 rfl rfl ?_
    refine zr_iload_n hX dX3_thereCount_14 rfl rfl ?_
    refine zP_bind h (fun q1 hq1 h => ?_)
    refine zr_callV hX dX3_thereCount_15 (m_S_isThere ho hq1) ho rfl rfl (z5 ww_812 ww_270 ww_271 ww_71 ww_272) hy_X3_isThere rfl (Nat.le_of_ble_eq_true rfl) (Nat.le_of_ble_eq_true rfl) (Nat.le_of_ble_eq_true rfl) ?_
    refine zr_ifeq (tgt := 24) hX dX3_thereCount_18 rfl h (fun h => ?_) (fun h => ?_)
    · refine zr_iinc hX dX3_thereCount_24 rfl (Nat.le_of_ble_eq_true rfl) ?_
      refine zr_goto hX dX3_thereCount_27 (tgt := 4) rfl ?_
      exact zW_lf (k_S_thereCount_4 h) (And.intro rfl (And.intro rfl (And.intro rfl trivial)))
    · refine zr_iinc hX dX3_thereCount_21 rfl (Nat.le_of_ble_eq_true rfl) ?_
      refine zr_iinc hX dX3_thereCount_24 rfl (Nat.le_of_ble_eq_true rfl) ?_
      refine zr_goto hX dX3_thereCount_27 (tgt := 4) rfl ?_
      exact zW_lf (k_S_thereCount_4 h) (And.intro rfl (And.intro rfl (And.intro rfl trivial)))
set_option maxRecDepth 100000 in
set_option maxHeartbeats 4000000 in
theorem w_S_thereCount_e {X : zX} {G : zG} {o : Nat} {μ : zM} {rv : Option zV} {ν : zM} (hX : zOk X G cX3_thereCount RX3 3 (some .int) 4) (hF : zFin X G rv ν) (ho : zsh o = (0, 3)) (h : zP (Sum.elim (k_S_thereCount X G o μ) (fun r : Int => (some (zI r), μ) = (rv, ν))) (e_S_thereCount o μ)) : zW X G 3 0 [some (zR o), none, none] [] μ := by
  refine zr_iconst hX dX3_thereCount_0 (zrl rfl) ?_
  refine zr_istore_n hX dX3_thereCount_1 rfl (Nat.le_of_ble_eq_true rfl) ?_
  refine zr_iconst hX dX3_thereCount_2 (zrl rfl) ?_
  refine zr_istore_n hX dX3_thereCount_3 rfl (Nat.le_of_ble_eq_true rfl) ?_
  exact zW_lf (k_S_thereCount_4 h) (And.intro rfl (And.intro rfl (And.intro rfl trivial)))
set_option maxRecDepth 100000 in
theorem m_S_thereCount {l : Launch} {G : zG} {o : Nat} {μ : zM} (ho : zsh o = (0, 3)) {q : Int} (hq : f_S_thereCount o μ = some q) : zCT l G yX3_thereCount cX3_thereCount 3 (some .int) 4 [zR o] μ (some (zI q)) μ := by
  refine zMet (lv := [some (zR o), none, none]) (k := 2) pl_X3 rfl (Nat.le_of_ble_eq_true rfl) (fun X hl hX hF _ _ => ?_)
  refine w_S_thereCount_e hX hF ho (zgo_K (r := q) (step := t_S_thereCount o μ) (fun s h => ?_) rfl hq)
  exact w_S_thereCount_4 hX hF ho h
set_option maxRecDepth 100000 in
set_option maxHeartbeats 4000000 in
theorem w_X_deedsKeptIn_e {X : zX} {G : zG} {v1 : Int} {μ : zM} {rv : Option zV} {ν : zM} (hX : zOk X G cX5_deedsKeptIn RX5 3 (some .int) 2) (hF : zFin X G rv ν) (h : zP (fun r : Int => (some (zI r), μ) = (rv, ν)) (f_X_deedsKeptIn v1 μ)) : zW X G 3 0 [some (zR 0), some (zI v1), none] [] μ := by
  refine zr_aload_n hX dX5_deedsKeptIn_0 rfl rfl ?_
  refine zr_iload_n hX dX5_deedsKeptIn_1 rfl rfl ?_
  refine zP_bind h (fun q1 hq1 h => ?_)
  refine zr_callV hX dX5_deedsKeptIn_2 (m_X_keptAt hq1) rfl rfl rfl (z5 ww_409 ww_411 ww_3 ww_70 ww_412) hy_X5_keptAt rfl (Nat.le_of_ble_eq_true rfl) (Nat.le_of_ble_eq_true rfl) (Nat.le_of_ble_eq_true rfl) ?_
  refine zr_astore_nN hX dX5_deedsKeptIn_5 rfl (Nat.le_of_ble_eq_true rfl) ?_
  refine zr_aload_nN hX dX5_deedsKeptIn_6 rfl rfl ?_
  refine zr_ifnonnull (tgt := 14) hX dX5_deedsKeptIn_7 rfl h (fun o_2 hn2 h => ?_) (fun _ h => ?_)
  · refine zr_aload_nN hX dX5_deedsKeptIn_14 rfl rfl ?_
    refine zW_nr hn2 ?_
    refine zr_getiN hX dX5_deedsKeptIn_15 (k := 2) (f_X_keptAt_sh hq1 hn2) rfl nf_X5_182 ?_
    exact zr_iret hX dX5_deedsKeptIn_18 hF h
  · refine zr_iconst hX dX5_deedsKeptIn_10 (zrl rfl) ?_
    refine zr_goto hX dX5_deedsKeptIn_11 (tgt := 18) rfl ?_
    exact zr_iret hX dX5_deedsKeptIn_18 hF h
set_option maxRecDepth 100000 in
theorem m_X_deedsKeptIn {l : Launch} {G : zG} {v1 : Int} {μ : zM} {q : Int} (hq : f_X_deedsKeptIn v1 μ = some q) : zCT l G yX5_deedsKeptIn cX5_deedsKeptIn 3 (some .int) 2 [zR 0, zI v1] μ (some (zI q)) μ := by
  refine zMet (lv := [some (zR 0), some (zI v1), none]) (k := 1) pl_X5 rfl (Nat.le_of_ble_eq_true rfl) (fun X hl hX hF _ _ => ?_)
  exact w_X_deedsKeptIn_e hX hF (zP_of hq rfl)
def k_X_keptCount (X : zX) (G : zG) (μ : zM) : (Int × Int) → Prop := fun s => zW X G 3 4 [some (zR 0), some (zI s.1), some (zI s.2)] [] μ
theorem k_X_keptCount_4 {X : zX} {G : zG} {μ : zM} {F : Int → Prop} {v1 v2 : Int} (h : zP (Sum.elim (k_X_keptCount X G μ) F) (some (.inl ((v1, v2))))) : zW X G 3 4 [some (zR 0), some (zI v1), some (zI v2)] [] μ := h
set_option maxRecDepth 100000 in
set_option maxHeartbeats 4000000 in
theorem w_X_keptCount_4 {X : zX} {G : zG} {μ : zM} {rv : Option zV} {ν : zM} (hX : zOk X G cX5_keptCount RX5 3 (some .int) 3) (hF : zFin X G rv ν) {v1 v2 : Int} (h : zP (Sum.elim (k_X_keptCount X G μ) (fun r : Int => (some (zI r), μ) = (rv, ν))) (b_X_keptCount_4 v1 v2 μ)) : zW X G 3 4 [some (zR 0), some (zI v1), some (zI v2)] [] μ := by
  refine zr_iload_n hX dX5_keptCount_4 rfl rfl ?_
  refine zr_iconst hX dX5_keptCount_5 (zrl rfl) ?_
  refine zr_icmpge (tgt := 27) hX dX5_keptCount_6 rfl h (fun h => ?_) (fun h => ?_)
  · refine zr_iload_n hX dX5_keptCount_27 rfl rfl ?_
    exact zr_iret hX dX5_keptCount_28 hF h
  · refine zr_aload_n hX dX5_keptCount_9 rfl rfl ?_
    refine zr_iload_n hX dX5_keptCount_10 rfl rfl ?_
    refine zP_bind h (fun q1 hq1 h => ?_)
    refine zr_callV hX dX5_keptCount_11 (m_X_deedsKeptIn hq1) rfl rfl rfl (z5 ww_817 ww_819 ww_19 ww_70 ww_820) hy_X5_deedsKeptIn rfl (Nat.le_of_ble_eq_true rfl) (Nat.le_of_ble_eq_true rfl) (Nat.le_of_ble_eq_true rfl) ?_
    refine zr_iconst hX dX5_keptCount_14 (zrl rfl) ?_
    refine zr_icmpeq (tgt := 21) hX dX5_keptCount_15 rfl h (fun h => ?_) (fun h => ?_)
    · refine zr_iinc hX dX5_keptCount_21 rfl (Nat.le_of_ble_eq_true rfl) ?_
      refine zr_goto hX dX5_keptCount_24 (tgt := 4) rfl ?_
      exact zW_lf (k_X_keptCount_4 h) (And.intro rfl (And.intro rfl (And.intro rfl trivial)))
    · refine zr_iinc hX dX5_keptCount_18 rfl (Nat.le_of_ble_eq_true rfl) ?_
      refine zr_iinc hX dX5_keptCount_21 rfl (Nat.le_of_ble_eq_true rfl) ?_
      refine zr_goto hX dX5_keptCount_24 (tgt := 4) rfl ?_
      exact zW_lf (k_X_keptCount_4 h) (And.intro rfl (And.intro rfl (And.intro rfl trivial)))
set_option maxRecDepth 100000 in
set_option maxHeartbeats 4000000 in
theorem w_X_keptCount_e {X : zX} {G : zG} {μ : zM} {rv : Option zV} {ν : zM} (hX : zOk X G cX5_keptCount RX5 3 (some .int) 3) (hF : zFin X G rv ν) (h : zP (Sum.elim (k_X_keptCount X G μ) (fun r : Int => (some (zI r), μ) = (rv, ν))) (e_X_keptCount μ)) : zW X G 3 0 [some (zR 0), none, none] [] μ := by
  refine zr_iconst hX dX5_keptCount_0 (zrl rfl) ?_
  refine zr_istore_n hX dX5_keptCount_1 rfl (Nat.le_of_ble_eq_true rfl) ?_
  refine zr_iconst hX dX5_keptCount_2 (zrl rfl) ?_
  refine zr_istore_n hX dX5_keptCount_3 rfl (Nat.le_of_ble_eq_true rfl) ?_
  exact zW_lf (k_X_keptCount_4 h) (And.intro rfl (And.intro rfl (And.intro rfl trivial)))
set_option maxRecDepth 100000 in
theorem m_X_keptCount {l : Launch} {G : zG} {μ : zM} {q : Int} (hq : f_X_keptCount μ = some q) : zCT l G yX5_keptCount cX5_keptCount 3 (some .int) 3 [zR 0] μ (some (zI q)) μ := by
  refine zMet (lv := [some (zR 0), none, none]) (k := 2) pl_X5 rfl (Nat.le_of_ble_eq_true rfl) (fun X hl hX hF _ _ => ?_)
  refine w_X_keptCount_e hX hF (zgo_K (r := q) (step := t_X_keptCount μ) (fun s h => ?_) rfl hq)
  exact w_X_keptCount_4 hX hF h
