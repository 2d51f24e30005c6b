set_option maxRecDepth 100000 in
set_option maxHeartbeats 4000000 in
theorem w_X_count_e {X : zX} {G : zG} {v1 : Int} {μ : zM} {rv : Option zV} {ν : zM} (hX : zOk X G cX5_count RX5 2 (some .int) 5) (hF : zFin X G rv ν) (h : zP (fun r : Int => (some (zI r), μ) = (rv, ν)) (f_X_count v1 μ)) : zW X G 2 0 [some (zR 0), some (zI v1)] [] μ := by
  refine zr_iload_n hX dX5_count_0 rfl rfl ?_
  refine zr_iflt (tgt := 10) hX dX5_count_1 rfl h (fun h => ?_) (fun h => ?_)
  · refine zr_iconst hX dX5_count_10 (zrl rfl) ?_
    exact zr_iret hX dX5_count_11 hF h
  · refine zr_iload_n hX dX5_count_4 rfl rfl ?_
    refine zr_bipush hX dX5_count_5 rfl ?_
    refine zr_icmple (tgt := 12) hX dX5_count_7 rfl h (fun h => ?_) (fun h => ?_)
    · refine zr_iload_n hX dX5_count_12 rfl rfl ?_
      refine zr_tsw hX 0 dX5_count_13 (by decide) (zrl rfl) (t2 := 60) rfl rfl h (fun h => ?_) (fun hs1 h => ?_)
      · refine zr_aload_n hX dX5_count_60 rfl rfl ?_
        refine zr_getr hX dX5_count_61 (k := 2) (q := 7) rfl rfl ww_201 rfl ?_
        refine zr_getrN hX dX5_count_64 (k := 0) (q := 8) rfl rfl nf_X5_125 rfl ?_
        refine zr_callV hX dX5_count_67 (m_R_towerCount rfl) rfl rfl rfl (z5 ww_341 ww_342 ww_343 ww_74 ww_344) hy_X1_towerCount rfl (Nat.le_of_ble_eq_true rfl) (Nat.le_of_ble_eq_true rfl) (Nat.le_of_ble_eq_true rfl) ?_
        exact zr_iret hX dX5_count_70 hF h
      refine zr_tsw hX 1 dX5_count_13 (by decide) (zrl rfl) (t2 := 71) rfl rfl h (fun h => ?_) (fun hs2 h => ?_)
      · refine zr_aload_n hX dX5_count_71 rfl rfl ?_
        refine zr_getr hX dX5_count_72 (k := 2) (q := 7) rfl rfl ww_201 rfl ?_
        refine zr_getrN hX dX5_count_75 (k := 0) (q := 8) rfl rfl nf_X5_125 rfl ?_
        refine zr_callV hX dX5_count_78 (m_R_houseCount rfl) rfl rfl rfl (z5 ww_659 ww_437 ww_438 ww_74 ww_439) hy_X1_houseCount rfl (Nat.le_of_ble_eq_true rfl) (Nat.le_of_ble_eq_true rfl) (Nat.le_of_ble_eq_true rfl) ?_
        exact zr_iret hX dX5_count_81 hF h
      refine zr_tsw hX 2 dX5_count_13 (by decide) (zrl rfl) (t2 := 82) rfl rfl h (fun h => ?_) (fun hs3 h => ?_)
      · refine zr_aload_n hX dX5_count_82 rfl rfl ?_
        refine zr_getr hX dX5_count_83 (k := 2) (q := 7) rfl rfl ww_201 rfl ?_
        refine zr_getiN hX dX5_count_86 (k := 2) rfl rfl nf_X5_182 ?_
        exact zr_iret hX dX5_count_89 hF h
      refine zr_tsw hX 3 dX5_count_13 (by decide) (zrl rfl) (t2 := 90) rfl rfl h (fun h => ?_) (fun hs4 h => ?_)
      · refine zr_aload_n hX dX5_count_90 rfl rfl ?_
        refine zr_getr hX dX5_count_91 (k := 2) (q := 7) rfl rfl ww_201 rfl ?_
        refine zr_getrN hX dX5_count_94 (k := 0) (q := 8) rfl rfl nf_X5_125 rfl ?_
        refine zP_bind h (fun q5 hq5 h => ?_)
        refine zr_callV hX dX5_count_97 (m_R_mostStoreys rfl hq5) rfl rfl rfl (z5 ww_799 ww_800 ww_801 ww_74 ww_802) hy_X1_mostStoreys rfl (Nat.le_of_ble_eq_true rfl) (Nat.le_of_ble_eq_true rfl) (Nat.le_of_ble_eq_true rfl) ?_
        exact zr_iret hX dX5_count_100 hF h
      refine zr_tsw hX 4 dX5_count_13 (by decide) (zrl rfl) (t2 := 101) rfl rfl h (fun h => ?_) (fun hs6 h => ?_)
      · refine zr_aload_n hX dX5_count_101 rfl rfl ?_
        refine zr_getr hX dX5_count_102 (k := 2) (q := 7) rfl rfl ww_201 rfl ?_
        refine zr_getrN hX dX5_count_105 (k := 0) (q := 8) rfl rfl nf_X5_125 rfl ?_
        refine zr_iconst hX dX5_count_108 (zrl rfl) ?_
        refine zP_bind h (fun q7 hq7 h => ?_)
        refine zr_callV hX dX5_count_109 (m_R_countOf rfl hq7) rfl rfl rfl (z5 ww_804 ww_805 ww_806 ww_74 ww_807) hy_X1_countOf rfl (Nat.le_of_ble_eq_true rfl) (Nat.le_of_ble_eq_true rfl) (Nat.le_of_ble_eq_true rfl) ?_
        exact zr_iret hX dX5_count_112 hF h
      refine zr_tsw hX 5 dX5_count_13 (by decide) (zrl rfl) (t2 := 113) rfl rfl h (fun h => ?_) (fun hs8 h => ?_)
      · refine zr_aload_n hX dX5_count_113 rfl rfl ?_
        refine zr_getr hX dX5_count_114 (k := 2) (q := 7) rfl rfl ww_201 rfl ?_
        refine zr_getrN hX dX5_count_117 (k := 0) (q := 8) rfl rfl nf_X5_125 rfl ?_
        refine zr_iconst hX dX5_count_120 (zrl rfl) ?_
        refine zP_bind h (fun q9 hq9 h => ?_)
        refine zr_callV hX dX5_count_121 (m_R_countOf rfl hq9) rfl rfl rfl (z5 ww_804 ww_805 ww_806 ww_74 ww_807) hy_X1_countOf rfl (Nat.le_of_ble_eq_true rfl) (Nat.le_of_ble_eq_true rfl) (Nat.le_of_ble_eq_true rfl) ?_
        exact zr_iret hX dX5_count_124 hF h
      refine zr_tsw hX 6 dX5_count_13 (by decide) (zrl rfl) (t2 := 125) rfl rfl h (fun h => ?_) (fun hs10 h => ?_)
      · refine zr_aload_n hX dX5_count_125 rfl rfl ?_
        refine zr_getr hX dX5_count_126 (k := 0) (q := 1) rfl rfl ww_199 rfl ?_
        refine zP_bind h (fun q11 hq11 h => ?_)
        refine zr_callV hX dX5_count_129 (m_S_thereCount rfl hq11) rfl rfl rfl (z5 ww_808 ww_809 ww_810 ww_71 ww_811) hy_X3_thereCount rfl (Nat.le_of_ble_eq_true rfl) (Nat.le_of_ble_eq_true rfl) (Nat.le_of_ble_eq_true rfl) ?_
        exact zr_iret hX dX5_count_132 hF h
      refine zr_tsw hX 7 dX5_count_13 (by decide) (zrl rfl) (t2 := 133) rfl rfl h (fun h => ?_) (fun hs12 h => ?_)
      · refine zr_aload_n hX dX5_count_133 rfl rfl ?_
        refine zr_getr hX dX5_count_134 (k := 1) (q := 4) rfl rfl ww_200 rfl ?_
        refine zP_bind h (fun q13 hq13 h => ?_)
        refine zr_callV hX dX5_count_137 (m_S_thereCount rfl hq13) rfl rfl rfl (z5 ww_808 ww_809 ww_810 ww_71 ww_811) hy_X3_thereCount rfl (Nat.le_of_ble_eq_true rfl) (Nat.le_of_ble_eq_true rfl) (Nat.le_of_ble_eq_true rfl) ?_
        exact zr_iret hX dX5_count_140 hF h
      refine zr_tswd (tgt := 141) hX dX5_count_13 (by omega) rfl ?_
      refine zr_aload_n hX dX5_count_141 rfl rfl ?_
      refine zP_bind h (fun q14 hq14 h => ?_)
      refine zr_callV hX dX5_count_142 (m_X_keptCount hq14) rfl rfl rfl (z5 ww_813 ww_815 ww_18 ww_70 ww_816) hy_X5_keptCount rfl (Nat.le_of_ble_eq_true rfl) (Nat.le_of_ble_eq_true rfl) (Nat.le_of_ble_eq_true rfl) ?_
      exact zr_iret hX dX5_count_145 hF h
    · refine zr_iconst hX dX5_count_10 (zrl rfl) ?_
      exact zr_iret hX dX5_count_11 hF h
set_option maxRecDepth 100000 in
theorem m_X_count {l : Launch} {G : zG} {v1 : Int} {μ : zM} {q : Int} (hq : f_X_count v1 μ = some q) : zCT l G yX5_count cX5_count 2 (some .int) 5 [zR 0, zI v1] μ (some (zI q)) μ := by
  refine zMet (lv := [some (zR 0), some (zI v1)]) (k := 0) pl_X5 rfl (Nat.le_of_ble_eq_true rfl) (fun X hl hX hF _ _ => ?_)
  exact w_X_count_e hX hF (zP_of hq rfl)
set_option maxRecDepth 100000 in
set_option maxHeartbeats 4000000 in
theorem w_X_finding_e {X : zX} {G : zG} {μ : zM} {rv : Option zV} {ν : zM} (hX : zOk X G cX5_finding RX5 1 (some .int) 1) (hF : zFin X G rv ν) (h : zP (fun r : Int => (some (zI r), μ) = (rv, ν)) (fo_X_finding μ)) : zW X G 1 0 [some (zR 0)] [] μ := by
  refine zr_aload_n hX dX5_finding_0 rfl rfl ?_
  refine zr_geti hX dX5_finding_1 (k := 8) rfl rfl ww_207 ?_
  exact zr_iret hX dX5_finding_4 hF h
set_option maxRecDepth 100000 in
theorem m_X_finding {l : Launch} {G : zG} {μ : zM} : zCT l G yX5_finding cX5_finding 1 (some .int) 1 [zR 0] μ (some (zI (f_X_finding μ))) μ := by
  refine zMet (lv := [some (zR 0)]) (k := 0) pl_X5 rfl (Nat.le_of_ble_eq_true rfl) (fun X hl hX hF _ _ => ?_)
  exact w_X_finding_e hX hF (by rw [fo_X_finding_eq]; rfl)
set_option maxRecDepth 100000 in
set_option maxHeartbeats 4000000 in
theorem w_X_findings_e {X : zX} {G : zG} {v1 : Int} {μ : zM} {rv : Option zV} {ν : zM} (hX : zOk X G cX5_findings RX5 2 (some .int) 1) (hF : zFin X G rv ν) (h : zP (fun r : Int => (some (zI r), μ) = (rv, ν)) (f_X_findings v1 μ)) : zW X G 2 0 [some (zR 0), some (zI v1)] [] μ := by
  refine zr_iload_n hX dX5_findings_0 rfl rfl ?_
  refine zr_iconst hX dX5_findings_1 (zrl rfl) ?_
  refine zr_icmplt (tgt := 10) hX dX5_findings_2 rfl h (fun h => ?_) (fun h => ?_)
  · refine zr_iconst hX dX5_findings_10 (zrl rfl) ?_
    refine zr_goto hX dX5_findings_11 (tgt := 20) rfl ?_
    exact zr_iret hX dX5_findings_20 hF h
  · refine zr_iload_n hX dX5_findings_5 rfl rfl ?_
    refine zr_iconst hX dX5_findings_6 (zrl rfl) ?_
    refine zr_icmple (tgt := 14) hX dX5_findings_7 rfl h (fun h => ?_) (fun h => ?_)
    · refine zr_aload_n hX dX5_findings_14 rfl rfl ?_
      refine zr_getr hX dX5_findings_15 (k := 7) (q := 26) rfl rfl ww_206 rfl ?_
      refine zr_iload_n hX dX5_findings_18 rfl rfl ?_
      refine zr_iald (N := 6) hX dX5_findings_19 rfl rfl h (fun h => ?_)
      exact zr_iret hX dX5_findings_20 hF h
    · refine zr_iconst hX dX5_findings_10 (zrl rfl) ?_
      refine zr_goto hX dX5_findings_11 (tgt := 20) rfl ?_
      exact zr_iret hX dX5_findings_20 hF h
set_option maxRecDepth 100000 in
theorem m_X_findings {l : Launch} {G : zG} {v1 : Int} {μ : zM} {q : Int} (hq : f_X_findings v1 μ = some q) : zCT l G yX5_findings cX5_findings 2 (some .int) 1 [zR 0, zI v1] μ (some (zI q)) μ := by
  refine zMet (lv := [some (zR 0), some (zI v1)]) (k := 0) pl_X5 rfl (Nat.le_of_ble_eq_true rfl) (fun X hl hX hF _ _ => ?_)
  exact w_X_findings_e hX hF (zP_of hq rfl)
def k_X_digestHouses (X : zX) (G : zG) (v1 : Int) : ((Int × Int × zM) ⊕ (Int × Int × Int × zM) ⊕ (Int × Int × Int × Int × zM)) → Prop := fun s => match s with
  | .inl (s) => zW X G 8 19 [some (zR 0), none, none, some (zJ s.1), none, some (zI s.2.1), none, none] [] s.2.2
  | .inr (.inl (s)) => zW X G 8 57 [some (zR 0), none, none, some (zJ s.1), none, some (zI s.2.1), some (zI s.2.2.1), none] [] s.2.2.2
  | .inr (.inr (s)) => zW X G 8 77 [some (zR 0), none, none, some (zJ s.1), none, some (zI s.2.1), some (zI s.2.2.1), some (zI s.2.2.2.1)] [] s.2.2.2.2
theorem k_X_digestHouses_19 {X : zX} {G : zG} {v1 : Int} {F : (Int × zM) → Prop} {v3 v5 : Int} {κ : zM} (h : zP (Sum.elim (k_X_digestHouses X G v1) F) (some (.inl (.inl ((v3, v5, κ)))))) : zW X G 8 19 [some (zR 0), none, none, some (zJ v3), none, some (zI v5), none, none] [] κ := h
theorem k_X_digestHouses_57 {X : zX} {G : zG} {v1 : Int} {F : (Int × zM) → Prop} {v3 v5 v6 : Int} {κ : zM} (h : zP (Sum.elim (k_X_digestHouses X G v1) F) (some (.inl (.inr (.inl ((v3, v5, v6, κ))))))) : zW X G 8 57 [some (zR 0), none, none, some (zJ v3), none, some (zI v5), some (zI v6), none] [] κ := h
theorem k_X_digestHouses_77 {X : zX} {G : zG} {v1 : Int} {F : (Int × zM) → Prop} {v3 v5 v6 v7 : Int} {κ : zM} (h : zP (Sum.elim (k_X_digestHouses X G v1) F) (some (.inl (.inr (.inr ((v3, v5, v6, v7, κ))))))) : zW X G 8 77 [some (zR 0), none, none, some (zJ v3), none, some (zI v5), some (zI v6), some (zI v7)] [] κ := h
set_option maxRecDepth 100000 in
set_option maxHeartbeats 4000000 in
theorem w_X_digestHouses_19 {X : zX} {G : zG} {v1 : Int} {μ : zM} {rv : Option zV} {ν : zM} (hX : zOk X G cX5_digestHouses RX5 8 (some .long) 6) (hF : zFin X G rv ν) {v3 v5 : Int} (h : zP (Sum.elim (k_X_digestHouses X G v1) (fun r : (Int × zM) => (some (zJ r.1), r.2) = (rv, ν))) (b_X_digestHouses_19 v1 v3 v5 μ)) : zW X G 8 19 [some (zR 0), none, none, some (zJ v3), none, some (zI v5), none, none] [] μ := by
  refine zr_iload hX dX5_digestHouses_19 rfl ?_
  refine zr_aload_n hX dX5_digestHouses_21 rfl rfl ?_
  refine zr_getr hX dX5_digestHouses_22 (k := 2) (q := 7) rfl rfl ww_201 rfl ?_
  refine zr_getrN hX dX5_digestHouses_25 (k := 0) (q := 8) rfl rfl nf_X5_125 rfl ?_
  refine zr_callV hX dX5_digestHouses_28 (m_R_towerCount rfl) rfl rfl rfl (z5 ww_341 ww_342 ww_343 ww_74 ww_344) hy_X1_towerCount rfl (Nat.le_of_ble_eq_true rfl) (Nat.le_of_ble_eq_true rfl) (Nat.le_of_ble_eq_true rfl) ?_
  refine zr_icmpge (tgt := 120) hX dX5_digestHouses_31 rfl h (fun h => ?_) (fun h => ?_)
  · refine zr_lload_n hX dX5_digestHouses_120 rfl rfl ?_
    exact zr_lret hX dX5_digestHouses_121 hF h
  · refine zr_ldc2 hX dX5_digestHouses_34 ww_834 rfl (zrlJ rfl) ?_
    refine zr_lload_n hX dX5_digestHouses_37 rfl rfl ?_
    refine zr_lmul hX dX5_digestHouses_38 ?_
    refine zr_aload_n hX dX5_digestHouses_39 rfl rfl ?_
    refine zr_getr hX dX5_digestHouses_40 (k := 2) (q := 7) rfl rfl ww_201 rfl ?_
    refine zr_getrN hX dX5_digestHouses_43 (k := 0) (q := 8) rfl rfl nf_X5_125 rfl ?_
    refine zr_iload hX dX5_digestHouses_46 rfl ?_
    refine zP_bind h (fun q2 hq2 h => ?_)
    refine zr_callV hX dX5_digestHouses_48 (m_R_heightOf rfl hq2) rfl rfl rfl (z5 ww_422 ww_359 ww_360 ww_74 ww_361) hy_X1_heightOf rfl (Nat.le_of_ble_eq_true rfl) (Nat.le_of_ble_eq_true rfl) (Nat.le_of_ble_eq_true rfl) ?_
    refine zr_i2l hX dX5_digestHouses_51 ?_
    refine zr_ladd hX dX5_digestHouses_52 ?_
    refine zr_lstore_n hX dX5_digestHouses_53 rfl (Nat.le_of_ble_eq_true rfl) ?_
    refine zr_iconst hX dX5_digestHouses_54 (zrl rfl) ?_
    refine zr_istore hX dX5_digestHouses_55 (Nat.le_of_ble_eq_true rfl) ?_
    exact zW_lf (k_X_digestHouses_57 h) (And.intro rfl (And.intro rfl (And.intro rfl (And.intro rfl trivial))))
set_option maxRecDepth 100000 in
set_option maxHeartbeats 4000000 in
theorem w_X_digestHouses_57 {X : zX} {G : zG} {v1 : Int} {μ : zM} {rv : Option zV} {ν : zM} (hX : zOk X G cX5_digestHouses RX5 8 (some .long) 6) (hF : zFin X G rv ν) {v3 v5 v6 : Int} (h : zP (Sum.elim (k_X_digestHouses X G v1) (fun r : (Int × zM) => (some (zJ r.1), r.2) = (rv, ν))) (b_X_digestHouses_57 v1 v3 v5 v6 μ)) : zW X G 8 57 [some (zR 0), none, none, some (zJ v3), none, some (zI v5), some (zI v6), none] [] μ := by
  refine zr_iload hX dX5_digestHouses_57 rfl ?_
  refine zr_aload_n hX dX5_digestHouses_59 rfl rfl ?_
  refine zr_getr hX dX5_digestHouses_60 (k := 2) (q := 7) rfl rfl ww_201 rfl ?_
  refine zr_getrN hX dX5_digestHouses_63 (k := 0) (q := 8) rfl rfl nf_X5_125 rfl ?_
  refine zr_iload hX dX5_digestHouses_66 rfl ?_
  refine zP_bind h (fun q3 hq3 h => ?_)
  refine zr_callV hX dX5_digestHouses_68 (m_R_heightOf rfl hq3) rfl rfl rfl (z5 ww_422 ww_359 ww_360 ww_74 ww_361) hy_X1_heightOf rfl (Nat.le_of_ble_eq_true rfl) (Nat.le_of_ble_eq_true rfl) (Nat.le_of_ble_eq_true rfl) ?_
  refine zr_icmpge (tgt := 114) hX dX5_digestHouses_71 rfl h (fun h => ?_) (fun h => ?_)
  · refine zr_iinc hX dX5_digestHouses_114 rfl (Nat.le_of_ble_eq_true rfl) ?_
    refine zr_goto hX dX5_digestHouses_117 (tgt := 19) rfl ?_
    exact zW_lf (k_X_digestHouses_19 h) (And.intro rfl (And.intro rfl (And.intro rfl trivial)))
  · refine zr_iconst hX dX5_digestHouses_74 (zrl rfl) ?_
    refine zr_istore hX dX5_digestHouses_75 (Nat.le_of_ble_eq_true rfl) ?_
    exact zW_lf (k_X_digestHouses_77 h) (And.intro rfl (And.intro rfl (And.intro rfl (And.intro rfl (And.intro rfl trivial)))))
set_option maxRecDepth 100000 in
set_option maxHeartbeats 4000000 in
theorem w_X_digestHouses_77 {X : zX} {G : zG} {v1 : Int} {μ : zM} {rv : Option zV} {ν : zM} (hX : zOk X G cX5_digestHouses RX5 8 (some .long) 6) (hF : zFin X G rv ν) {v3 v5 v6 v7 : Int} (h : zP (Sum.elim (k_X_digestHouses X G v1) (fun r : (Int × zM) => (some (zJ r.1), r.2) = (rv, ν))) (b_X_digestHouses_77 v1 v3 v5 v6 v7 μ)) : zW X G 8 77 [some (zR 0), none, none, some (zJ v3), none, some (zI v5), some (zI v6), some (zI v7)] [] μ := by
  refine zr_iload hX dX5_digestHouses_77 rfl ?_
  refine zr_bipush hX dX5_digestHouses_79 rfl ?_
  refine zr_icmpgt (tgt := 108) hX dX5_digestHouses_81 rfl h (fun h => ?_) (fun h => ?_)
  · refine zr_iinc hX dX5_digestHouses_108 rfl (Nat.le_of_ble_eq_true rfl) ?_
    refine zr_goto hX dX5_digestHouses_111 (tgt := 57) rfl ?_
    exact zW_lf (k_X_digestHouses_57 h) (And.intro rfl (And.intro rfl (And.intro rfl (And.intro rfl trivial))))
  · refine zr_ldc2 hX dX5_digestHouses_84 ww_834 rfl (zrlJ rfl) ?_
    refine zr_lload_n hX dX5_digestHouses_87 rfl rfl ?_
    refine zr_lmul hX dX5_digestHouses_88 ?_
    refine zr_aload_n hX dX5_digestHouses_89 rfl rfl ?_
    refine zr_iload hX dX5_digestHouses_90 rfl ?_
    refine zr_iload hX dX5_digestHouses_92 rfl ?_
    refine zr_iload hX dX5_digestHouses_94 rfl ?_
    refine zP_bind h (fun q4 hq4 h => ?_)
    refine zr_callV hX dX5_digestHouses_96 (m_X_toldOf hq4) rfl rfl rfl (z5 ww_480 ww_482 ww_8 ww_70 ww_483) hy_X5_toldOf rfl (Nat.le_of_ble_eq_true rfl) (Nat.le_of_ble_eq_true rfl) (Nat.le_of_ble_eq_true rfl) ?_
    refine zr_i2l hX dX5_digestHouses_99 ?_
    refine zr_ladd hX dX5_digestHouses_100 ?_
    refine zr_lstore_n hX dX5_digestHouses_101 rfl (Nat.le_of_ble_eq_true rfl) ?_
    refine zr_iinc hX dX5_digestHouses_102 rfl (Nat.le_of_ble_eq_true rfl) ?_
    refine zr_goto hX dX5_digestHouses_105 (tgt := 77) rfl ?_
    exact zW_lf (k_X_digestHouses_77 h) (And.intro rfl (And.intro rfl (And.intro rfl (And.intro rfl (And.intro rfl trivial)))))
set_option maxRecDepth 100000 in
set_option maxHeartbeats 4000000 in
theorem w_X_digestHouses_e {X : zX} {G : zG} {v1 : Int} {μ : zM} {rv : Option zV} {ν : zM} (hX : zOk X G cX5_digestHouses RX5 8 (some .long) 6) (hF : zFin X G rv ν) (h : zP (Sum.elim (k_X_digestHouses X G v1) (fun r : (Int × zM) => (some (zJ r.1), r.2) = (rv, ν))) (e_X_digestHouses v1 μ)) : zW X G 8 0 [some (zR 0), some (zJ v1), none, none, none, none, none, none] [] μ := by
  refine zr_lload_n hX dX5_digestHouses_0 rfl rfl ?_
  refine zr_lstore_n hX dX5_digestHouses_1 rfl (Nat.le_of_ble_eq_true rfl) ?_
  refine zr_aload_n hX dX5_digestHouses_2 rfl rfl ?_
  refine zr_getr hX dX5_digestHouses_3 (k := 5) (q := 16) rfl rfl ww_204 rfl ?_
  refine zr_aload_n hX dX5_digestHouses_6 rfl rfl ?_
  refine zr_getr hX dX5_digestHouses_7 (k := 2) (q := 7) rfl rfl ww_201 rfl ?_
  refine zr_getrN hX dX5_digestHouses_10 (k := 0) (q := 8) rfl rfl nf_X5_125 rfl ?_
  refine zP_bind h (fun q1 hq1 h => ?_)
  refine zr_callV hX dX5_digestHouses_13 (m_L_reckon rfl hq1) rfl rfl rfl (z5 ww_432 ww_433 ww_434 ww_75 ww_435) hy_X0_reckon rfl (Nat.le_of_ble_eq_true rfl) (Nat.le_of_ble_eq_true rfl) (Nat.le_of_ble_eq_true rfl) ?_
  refine zr_iconst hX dX5_digestHouses_16 (zrl rfl) ?_
  refine zr_istore hX dX5_digestHouses_17 (Nat.le_of_ble_eq_true rfl) ?_
  exact zW_lf (k_X_digestHouses_19 h) (And.intro rfl (And.intro rfl (And.intro rfl trivial)))
set_option maxRecDepth 100000 in
theorem m_X_digestHouses {l : Launch} {G : zG} {v1 : Int} {μ : zM} {q : Int × zM} (hq : f_X_digestHouses v1 μ = some q) : zCT l G yX5_digestHouses cX5_digestHouses 8 (some .long) 6 [zR 0, zJ v1] μ (some (zJ q.1)) q.2 := by
  refine zMet (lv := [some (zR 0), some (zJ v1), none, none, none, none, none, none]) (k := 5) pl_X5 rfl (Nat.le_of_ble_eq_true rfl) (fun X hl hX hF _ _ => ?_)
  refine w_X_digestHouses_e hX hF (zgo_K (r := q) (step := t_X_digestHouses v1) (fun s h => ?_) rfl hq)
  cases s with
  | inl s => exact w_X_digestHouses_19 hX hF h
  | inr s =>
    cases s with
    | inl s => exact w_X_digestHouses_57 hX hF h
    | inr s => exact w_X_digestHouses_77 hX hF h
def k_S_digestAll (X : zX) (G : zG) (o : Nat) (v1 : Int) (μ : zM) : ((Int × Int) ⊕ (Int × Int × Int)) → Prop := fun s => match s with
  | .inl (s) => zW X G 7 5 [some (zR o), none, none, some (zJ s.1), none, some (zI s.2), none] [] μ
  | .inr (s) => zW X G 7 32 [some (zR o), none, none, some (zJ s.1), none, some (zI s.2.1), some (zI s.2.2)] [] μ
theorem k_S_digestAll_5 {X : zX} {G : zG} {o : Nat} {v1 : Int} {μ : zM} {F : Int → Prop} {v3 v5 : Int} (h : zP (Sum.elim (k_S_digestAll X G o v1 μ) F) (some (.inl (.inl ((v3, v5)))))) : zW X G 7 5 [some (zR o), none, none, some (zJ v3), none, some (zI v5), none] [] μ := h
theorem k_S_digestAll_32 {X : zX} {G : zG} {o : Nat} {v1 : Int} {μ : zM} {F : Int → Prop} {v3 v5 v6 : Int} (h : zP (Sum.elim (k_S_digestAll X G o v1 μ) F) (some (.inl (.inr ((v3, v5, v6)))))) : zW X G 7 32 [some (zR o), none, none, some (zJ v3), none, some (zI v5), some (zI v6)] [] μ := h
set_option maxRecDepth 100000 in
set_option maxHeartbeats 4000000 in
theorem w_S_digestAll_5 {X : zX} {G : zG} {o : Nat} {v1 : Int} {μ : zM} {rv : Option zV} {ν : zM} (hX : zOk X G cX3_digestAll RX3 7 (some .long) 5) (hF : zFin X G rv ν) (ho : zsh o = (0, 3)) {v3 v5 : Int} (h : zP (Sum.elim (k_S_digestAll X G o v1 μ) (fun r : Int => (some (zJ r), μ) = (rv, ν))) (b_S_digestAll_5 o v1 v3 v5 μ)) : zW X G 7 5 [some (zR o), none, none, some (zJ v3), none, some (zI v5), none] [] μ := by
  refine zr_iload hX dX3_digestAll_5 rfl ?_
  refine zr_aload_n hX dX3_digestAll_7 rfl rfl ?_
  refine zr_getr hX dX3_digestAll_8 (k := 2) (q := (o + 1)) ho rfl ww_99 rfl ?_
  refine zr_alen hX dX3_digestAll_11 (N := zsz (o + 1)) (zk31 ho) rfl (zsz_r _) ?_
  refine zr_icmpge (tgt := 71) hX dX3_digestAll_12 rfl h (fun h => ?_) (fun h => ?_)
  · refine zr_lload_n hX dX3_digestAll_71 rfl rfl ?_
    exact zr_lret hX dX3_digestAll_72 hF h
  · refine zr_ldc2 hX dX3_digestAll_15 ww_844 rfl (zrlJ rfl) ?_
    refine zr_lload_n hX dX3_digestAll_18 rfl rfl ?_
    refine zr_lmul hX dX3_digestAll_19 ?_
    refine zr_aload_n hX dX3_digestAll_20 rfl rfl ?_
    refine zr_iload hX dX3_digestAll_21 rfl ?_
    refine zP_bind h (fun q1 hq1 h => ?_)
    refine zr_callV hX dX3_digestAll_23 (m_S_sizeOf ho hq1) ho rfl rfl (z5 ww_261 ww_262 ww_263 ww_71 ww_264) hy_X3_sizeOf rfl (Nat.le_of_ble_eq_true rfl) (Nat.le_of_ble_eq_true rfl) (Nat.le_of_ble_eq_true rfl) ?_
    refine zr_i2l hX dX3_digestAll_26 ?_
    refine zr_ladd hX dX3_digestAll_27 ?_
    refine zr_lstore_n hX dX3_digestAll_28 rfl (Nat.le_of_ble_eq_true rfl) ?_
    refine zr_iconst hX dX3_digestAll_29 (zrl rfl) ?_
    refine zr_istore hX dX3_digestAll_30 (Nat.le_of_ble_eq_true rfl) ?_
    exact zW_lf (k_S_digestAll_32 h) (And.intro rfl (And.intro rfl (And.intro rfl (And.intro rfl trivial))))
set_option maxRecDepth 100000 in
set_option maxHeartbeats 4000000 in
theorem w_S_digestAll_32 {X : zX} {G : zG} {o : Nat} {v1 : Int} {μ : zM} {rv : Option zV} {ν : zM} (hX : zOk X G cX3_digestAll RX3 7 (some .long) 5) (hF : zFin X G rv ν) (ho : zsh o = (0, 3)) {v3 v5 v6 : Int} (h : zP (Sum.elim (k_S_digestAll X G o v1 μ) (fun r : Int => (some (zJ r), μ) = (rv, ν))) (b_S_digestAll_32 o v1 v3 v5 v6 μ)) : zW X G 7 32 [some (zR o), none, none, some (zJ v3), none, some (zI v5), some (zI v6)] [] μ := by
  refine zr_iload hX dX3_digestAll_32 rfl ?_
  refine zr_aload_n hX dX3_digestAll_34 rfl rfl ?_
  refine zr_iload hX dX3_digestAll_35 rfl ?_
  refine zP_bind h (fun q2 hq2 h => ?_)
  refine zr_callV hX dX3_digestAll_37 (m_S_sizeOf ho hq2) ho rfl rfl (z5 ww_261 ww_262 ww_263 ww_71 ww_264) hy_X3_sizeOf rfl (Nat.le_of_ble_eq_true rfl) (Nat.le_of_ble_eq_true rfl) (Nat.le_of_ble_eq_true rfl) ?_
  refine zr_icmpge (tgt := 65) hX dX3_digestAll_40 rfl h (fun h => ?_) (fun h => ?_)
  · refine zr_iinc hX dX3_digestAll_65 rfl (Nat.le_of_ble_eq_true rfl) ?_
    refine zr_goto hX dX3_digestAll_68 (tgt := 5) rfl ?_
    exact zW_lf (k_S_digestAll_5 h) (And.intro rfl (And.intro rfl (And.intro rfl trivial)))
  · refine zr_ldc2 hX dX3_digestAll_43 ww_844 rfl (zrlJ rfl) ?_
    refine zr_lload_n hX dX3_digestAll_46 rfl rfl ?_
    refine zr_lmul hX dX3_digestAll_47 ?_
    refine zr_aload_n hX dX3_digestAll_48 rfl rfl ?_
    refine zr_iload hX dX3_digestAll_49 rfl ?_
    refine zr_iload hX dX3_digestAll_51 rfl ?_
    refine zP_bind h (fun q3 hq3 h => ?_)
    refine zr_callV hX dX3_digestAll_53 (m_S_get ho hq3) ho rfl rfl (z5 ww_316 ww_275 ww_276 ww_71 ww_277) hy_X3_get rfl (Nat.le_of_ble_eq_true rfl) (Nat.le_of_ble_eq_true rfl) (Nat.le_of_ble_eq_true rfl) ?_
    refine zr_i2l hX dX3_digestAll_56 ?_
    refine zr_ladd hX dX3_digestAll_57 ?_
    refine zr_lstore_n hX dX3_digestAll_58 rfl (Nat.le_of_ble_eq_true rfl) ?_
    refine zr_iinc hX dX3_digestAll_59 rfl (Nat.le_of_ble_eq_true rfl) ?_
    refine zr_goto hX dX3_digestAll_62 (tgt := 32) rfl ?_
    exact zW_lf (k_S_digestAll_32 h) (And.intro rfl (And.intro rfl (And.intro rfl (And.intro rfl trivial))))
set_option maxRecDepth 100000 in
set_option maxHeartbeats 4000000 in
theorem w_S_digestAll_e {X : zX} {G : zG} {o : Nat} {v1 : Int} {μ : zM} {rv : Option zV} {ν : zM} (hX : zOk X G cX3_digestAll RX3 7 (some .long) 5) (hF : zFin X G rv ν) (ho : zsh o = (0, 3)) (h : zP (Sum.elim (k_S_digestAll X G o v1 μ) (fun r : Int => (some (zJ r), μ) = (rv, ν))) (e_S_digestAll o v1 μ)) : zW X G 7 0 [some (zR o), some (zJ v1), none, none, none, none, none] [] μ := by
  refine zr_lload_n hX dX3_digestAll_0 rfl rfl ?_
  refine zr_lstore_n hX dX3_digestAll_1 rfl (Nat.le_of_ble_eq_true rfl) ?_
  refine zr_iconst hX dX3_digestAll_2 (zrl rfl) ?_
  refine zr_istore hX dX3_digestAll_3 (Nat.le_of_ble_eq_true rfl) ?_
  exact zW_lf (k_S_digestAll_5 h) (And.intro rfl (And.intro rfl (And.intro rfl trivial)))
set_option maxRecDepth 100000 in
theorem m_S_digestAll {l : Launch} {G : zG} {o : Nat} {v1 : Int} {μ : zM} (ho : zsh o = (0, 3)) {q : Int} (hq : f_S_digestAll o v1 μ = some q) : zCT l G yX3_digestAll cX3_digestAll 7 (some .long) 5 [zR o, zJ v1] μ (some (zJ q)) μ := by
  refine zMet (lv := [some (zR o), some (zJ v1), none, none, none, none, none]) (k := 4) pl_X3 rfl (Nat.le_of_ble_eq_true rfl) (fun X hl hX hF _ _ => ?_)
  refine w_S_digestAll_e hX hF ho (zgo_K (r := q) (step := t_S_digestAll o v1 μ) (fun s h => ?_) rfl hq)
  cases s with
  | inl s => exact w_S_digestAll_5 hX hF ho h
  | inr s => exact w_S_digestAll_32 hX hF ho h
def k_X_digest (X : zX) (G : zG) : ((Int × Int × zM) ⊕ (Int × Int × zM)) → Prop := fun s => match s with
  | .inl (s) => zW X G 4 6 [some (zR 0), some (zJ s.1), none, some (zI s.2.1)] [] s.2.2
  | .inr (s) => zW X G 4 39 [some (zR 0), some (zJ s.1), none, some (zI s.2.1)] [] s.2.2
theorem k_X_digest_6 {X : zX} {G : zG} {F : (Int × zM) → Prop} {v1 v3 : Int} {κ : zM} (h : zP (Sum.elim (k_X_digest X G) F) (some (.inl (.inl ((v1, v3, κ)))))) : zW X G 4 6 [some (zR 0), some (zJ v1), none, some (zI v3)] [] κ := h
theorem k_X_digest_39 {X : zX} {G : zG} {F : (Int × zM) → Prop} {v1 v3 : Int} {κ : zM} (h : zP (Sum.elim (k_X_digest X G) F) (some (.inl (.inr ((v1, v3, κ)))))) : zW X G 4 39 [some (zR 0), some (zJ v1), none, some (zI v3)] [] κ := h
set_option maxRecDepth 100000 in
set_option maxHeartbeats 4000000 in
theorem w_X_digest_6 {X : zX} {G : zG} {μ : zM} {rv : Option zV} {ν : zM} (hX : zOk X G cX5_digest RX5 4 (some .long) 7) (hF : zFin X G rv ν) {v1 v3 : Int} (h : zP (Sum.elim (k_X_digest X G) (fun r : (Int × zM) => (some (zJ r.1), r.2) = (rv, ν))) (b_X_digest_6 v1 v3 μ)) : zW X G 4 6 [some (zR 0), some (zJ v1), none, some (zI v3)] [] μ := by
  refine zr_iload_n hX dX5_digest_6 rfl rfl ?_
  refine zr_bipush hX dX5_digest_7 rfl ?_
  refine zr_icmpgt (tgt := 31) hX dX5_digest_9 rfl h (fun h => ?_) (fun h => ?_)
  · refine zr_aload_n hX dX5_digest_31 rfl rfl ?_
    refine zr_lload_n hX dX5_digest_32 rfl rfl ?_
    refine zP_bind h (fun q1 hq1 h => ?_)
    refine zr_callV hX dX5_digest_33 (m_X_digestHouses hq1) rfl rfl rfl (z5 ww_836 ww_838 ww_20 ww_70 ww_839) hy_X5_digestHouses rfl (Nat.le_of_ble_eq_true rfl) (Nat.le_of_ble_eq_true rfl) (Nat.le_of_ble_eq_true rfl) ?_
    refine zr_lstore_n hX dX5_digest_36 rfl (Nat.le_of_ble_eq_true rfl) ?_
    refine zr_iconst hX dX5_digest_37 (zrl rfl) ?_
    refine zr_istore_n hX dX5_digest_38 rfl (Nat.le_of_ble_eq_true rfl) ?_
    exact zW_lf (k_X_digest_39 h) (And.intro rfl (And.intro rfl (And.intro rfl trivial)))
  · refine zr_ldc2 hX dX5_digest_12 ww_834 rfl (zrlJ rfl) ?_
    refine zr_lload_n hX dX5_digest_15 rfl rfl ?_
    refine zr_lmul hX dX5_digest_16 ?_
    refine zr_aload_n hX dX5_digest_17 rfl rfl ?_
    refine zr_iload_n hX dX5_digest_18 rfl rfl ?_
    refine zP_bind h (fun q2 hq2 h => ?_)
    refine zr_callV hX dX5_digest_19 (m_X_count hq2) rfl rfl rfl (z5 ww_835 ww_796 ww_797 ww_70 ww_798) hy_X5_count rfl (Nat.le_of_ble_eq_true rfl) (Nat.le_of_ble_eq_true rfl) (Nat.le_of_ble_eq_true rfl) ?_
    refine zr_i2l hX dX5_digest_22 ?_
    refine zr_ladd hX dX5_digest_23 ?_
    refine zr_lstore_n hX dX5_digest_24 rfl (Nat.le_of_ble_eq_true rfl) ?_
    refine zr_iinc hX dX5_digest_25 rfl (Nat.le_of_ble_eq_true rfl) ?_
    refine zr_goto hX dX5_digest_28 (tgt := 6) rfl ?_
    exact zW_lf (k_X_digest_6 h) (And.intro rfl (And.intro rfl (And.intro rfl trivial)))
set_option maxRecDepth 100000 in
set_option maxHeartbeats 4000000 in
theorem w_X_digest_39 {X : zX} {G : zG} {μ : zM} {rv : Option zV} {ν : zM} (hX : zOk X G cX5_digest RX5 4 (some .long) 7) (hF : zFin X G rv ν) {v1 v3 : Int} (h : zP (Sum.elim (k_X_digest X G) (fun r : (Int × zM) => (some (zJ r.1), r.2) = (rv, ν))) (b_X_digest_39 v1 v3 μ)) : zW X G 4 39 [some (zR 0), some (zJ v1), none, some (zI v3)] [] μ := by
  refine zr_iload_n hX dX5_digest_39 rfl rfl ?_
  refine zr_iconst hX dX5_digest_40 (zrl rfl) ?_
  refine zr_icmpge (tgt := 63) hX dX5_digest_41 rfl h (fun h => ?_) (fun h => ?_)
  · refine zr_aload_n hX dX5_digest_63 rfl rfl ?_
    refine zr_getr hX dX5_digest_64 (k := 0) (q := 1) rfl rfl ww_199 rfl ?_
    refine zr_lload_n hX dX5_digest_67 rfl rfl ?_
    refine zP_bind h (fun q3 hq3 h => ?_)
    refine zr_callV hX dX5_digest_68 (m_S_digestAll rfl hq3) rfl rfl rfl (z5 ww_840 ww_841 ww_842 ww_71 ww_843) hy_X3_digestAll rfl (Nat.le_of_ble_eq_true rfl) (Nat.le_of_ble_eq_true rfl) (Nat.le_of_ble_eq_true rfl) ?_
    refine zr_lstore_n hX dX5_digest_71 rfl (Nat.le_of_ble_eq_true rfl) ?_
    refine zr_aload_n hX dX5_digest_72 rfl rfl ?_
    refine zr_getr hX dX5_digest_73 (k := 1) (q := 4) rfl rfl ww_200 rfl ?_
    refine zr_lload_n hX dX5_digest_76 rfl rfl ?_
    refine zP_bind h (fun q4 hq4 h => ?_)
    refine zr_callV hX dX5_digest_77 (m_S_digestAll rfl hq4) rfl rfl rfl (z5 ww_840 ww_841 ww_842 ww_71 ww_843) hy_X3_digestAll rfl (Nat.le_of_ble_eq_true rfl) (Nat.le_of_ble_eq_true rfl) (Nat.le_of_ble_eq_true rfl) ?_
    exact zr_lret hX dX5_digest_80 hF h
  · refine zr_ldc2 hX dX5_digest_44 ww_834 rfl (zrlJ rfl) ?_
    refine zr_lload_n hX dX5_digest_47 rfl rfl ?_
    refine zr_lmul hX dX5_digest_48 ?_
    refine zr_aload_n hX dX5_digest_49 rfl rfl ?_
    refine zr_iload_n hX dX5_digest_50 rfl rfl ?_
    refine zP_bind h (fun q5 hq5 h => ?_)
    refine zr_callV hX dX5_digest_51 (m_X_deedsKeptIn hq5) rfl rfl rfl (z5 ww_817 ww_819 ww_19 ww_70 ww_820) hy_X5_deedsKeptIn rfl (Nat.le_of_ble_eq_true rfl) (Nat.le_of_ble_eq_true rfl) (Nat.le_of_ble_eq_true rfl) ?_
    refine zr_i2l hX dX5_digest_54 ?_
    refine zr_ladd hX dX5_digest_55 ?_
    refine zr_lstore_n hX dX5_digest_56 rfl (Nat.le_of_ble_eq_true rfl) ?_
    refine zr_iinc hX dX5_digest_57 rfl (Nat.le_of_ble_eq_true rfl) ?_
    refine zr_goto hX dX5_digest_60 (tgt := 39) rfl ?_
    exact zW_lf (k_X_digest_39 h) (And.intro rfl (And.intro rfl (And.intro rfl trivial)))
set_option maxRecDepth 100000 in
set_option maxHeartbeats 4000000 in
theorem w_X_digest_e {X : zX} {G : zG} {μ : zM} {rv : Option zV} {ν : zM} (hX : zOk X G cX5_digest RX5 4 (some .long) 7) (hF : zFin X G rv ν) (h : zP (Sum.elim (k_X_digest X G) (fun r : (Int × zM) => (some (zJ r.1), r.2) = (rv, ν))) (e_X_digest μ)) : zW X G 4 0 [some (zR 0), none, none, none] [] μ := by
  refine zr_ldc2 hX dX5_digest_0 ww_833 rfl (zrlJ rfl) ?_
  refine zr_lstore_n hX dX5_digest_3 rfl (Nat.le_of_ble_eq_true rfl) ?_
  refine zr_iconst hX dX5_digest_4 (zrl rfl) ?_
  refine zr_istore_n hX dX5_digest_5 rfl (Nat.le_of_ble_eq_true rfl) ?_
  exact zW_lf (k_X_digest_6 h) (And.intro rfl (And.intro rfl (And.intro rfl trivial)))
set_option maxRecDepth 100000 in
theorem m_X_digest {l : Launch} {G : zG} {μ : zM} {q : Int × zM} (hq : f_X_digest μ = some q) : zCT l G yX5_digest cX5_digest 4 (some .long) 7 [zR 0] μ (some (zJ q.1)) q.2 := by
  refine zMet (lv := [some (zR 0), none, none, none]) (k := 3) pl_X5 rfl (Nat.le_of_ble_eq_true rfl) (fun X hl hX hF _ _ => ?_)
  refine w_X_digest_e hX hF (zgo_K (r := q) (step := t_X_digest) (fun s h => ?_) rfl hq)
  cases s with
  | inl s => exact w_X_digest_6 hX hF h
  | inr s => exact w_X_digest_39 hX hF h
set_option maxRecDepth 100000 in
set_option maxHeartbeats 4000000 in
theorem w_M_in_e {X : zX} {G : zG} {v0 : Int} {v2 : Int} {v4 : Int} {μ : zM} {rv : Option zV} {ν : zM} (hX : zOk X G cX6_in RX6 6 (some .boolean) 1) (hF : zFin X G rv ν) (h : zP (fun r : Int => (some (zI r), μ) = (rv, ν)) (fo_M_in v0 v2 v4)) : zW X G 6 0 [some (zJ v0), none, some (zJ v2), none, some (zJ v4), none] [] μ := by
  refine zr_lload_n hX dX6_in_0 rfl rfl ?_
  refine zr_lload_n hX dX6_in_1 rfl rfl ?_
  refine zr_lcmp hX dX6_in_2 ?_
  refine zr_iflt (tgt := 17) hX dX6_in_3 rfl h (fun h => ?_) (fun h => ?_)
  · refine zr_iconst hX dX6_in_17 (zrl rfl) ?_
    exact zr_bretc hX dX6_in_18 hF (Or.inl rfl) h
  · refine zr_lload_n hX dX6_in_6 rfl rfl ?_
    refine zr_lload hX dX6_in_7 rfl ?_
    refine zr_lcmp hX dX6_in_9 ?_
    refine zr_ifgt (tgt := 17) hX dX6_in_10 rfl h (fun h => ?_) (fun h => ?_)
    · refine zr_iconst hX dX6_in_17 (zrl rfl) ?_
      exact zr_bretc hX dX6_in_18 hF (Or.inl rfl) h
    · refine zr_iconst hX dX6_in_13 (zrl rfl) ?_
      refine zr_goto hX dX6_in_14 (tgt := 18) rfl ?_
      exact zr_bretc hX dX6_in_18 hF (Or.inr rfl) h
set_option maxRecDepth 100000 in
theorem m_M_in {l : Launch} {G : zG} {v0 : Int} {v2 : Int} {v4 : Int} {μ : zM} : zCT l G yX6_in cX6_in 6 (some .boolean) 1 [zJ v0, zJ v2, zJ v4] μ (some (zI (f_M_in v0 v2 v4))) μ := by
  refine zMet (lv := [some (zJ v0), none, some (zJ v2), none, some (zJ v4), none]) (k := 0) pl_X6 rfl (Nat.le_of_ble_eq_true rfl) (fun X hl hX hF _ _ => ?_)
  exact w_M_in_e hX hF (by rw [fo_M_in_eq]; rfl)
set_option maxRecDepth 100000 in
set_option maxHeartbeats 4000000 in
theorem w_M_has_e {X : zX} {G : zG} {v0 : Int} {v1 : Int} {μ : zM} {rv : Option zV} {ν : zM} (hX : zOk X G cX6_has RX6 2 (some .boolean) 1) (hF : zFin X G rv ν) (h : zP (fun r : Int => (some (zI r), μ) = (rv, ν)) (fo_M_has v0 v1)) : zW X G 2 0 [some (zI v0), some (zI v1)] [] μ := by
  refine zr_iload_n hX dX6_has_0 rfl rfl ?_
  refine zr_iload_n hX dX6_has_1 rfl rfl ?_
  refine zr_ishr hX dX6_has_2 ?_
  refine zr_iconst hX dX6_has_3 (zrl rfl) ?_
  refine zr_iand hX dX6_has_4 ?_
  refine zr_iconst hX dX6_has_5 (zrl rfl) ?_
  refine zr_icmpne (tgt := 13) hX dX6_has_6 rfl h (fun h => ?_) (fun h => ?_)
  · refine zr_iconst hX dX6_has_13 (zrl rfl) ?_
    exact zr_bretc hX dX6_has_14 hF (Or.inl rfl) h
  · refine zr_iconst hX dX6_has_9 (zrl rfl) ?_
    refine zr_goto hX dX6_has_10 (tgt := 14) rfl ?_
    exact zr_bretc hX dX6_has_14 hF (Or.inr rfl) h
set_option maxRecDepth 100000 in
theorem m_M_has {l : Launch} {G : zG} {v0 : Int} {v1 : Int} {μ : zM} : zCT l G yX6_has cX6_has 2 (some .boolean) 1 [zI v0, zI v1] μ (some (zI (f_M_has v0 v1))) μ := by
  refine zMet (lv := [some (zI v0), some (zI v1)]) (k := 0) pl_X6 rfl (Nat.le_of_ble_eq_true rfl) (fun X hl hX hF _ _ => ?_)
  exact w_M_has_e hX hF (by rw [fo_M_has_eq]; rfl)
def k_M_ones (X : zX) (G : zG) (v0 : Int) (μ : zM) : (Int × Int) → Prop := fun s => zW X G 3 4 [none, some (zI s.1), some (zI s.2)] [] μ
theorem k_M_ones_4 {X : zX} {G : zG} {v0 : Int} {μ : zM} {F : Int → Prop} {v1 v2 : Int} (h : zP (Sum.elim (k_M_ones X G v0 μ) F) (some (.inl ((v1, v2))))) : zW X G 3 4 [none, some (zI v1), some (zI v2)] [] μ := h
set_option maxRecDepth 100000 in
set_option maxHeartbeats 4000000 in
theorem w_M_ones_4 {X : zX} {G : zG} {v0 : Int} {μ : zM} {rv : Option zV} {ν : zM} (hX : zOk X G cX6_ones RX6 3 (some .int) 1) (hF : zFin X G rv ν) {v1 v2 : Int} (h : zP (Sum.elim (k_M_ones X G v0 μ) (fun r : Int => (some (zI r), μ) = (rv, ν))) (b_M_ones_4 v0 v1 v2)) : zW X G 3 4 [none, some (zI v1), some (zI v2)] [] μ := by
  refine zr_iload_n hX dX6_ones_4 rfl rfl ?_
  refine zr_ifle (tgt := 21) hX dX6_ones_5 rfl h (fun h => ?_) (fun h => ?_)
  · refine zr_iload_n hX dX6_ones_21 rfl rfl ?_
    exact zr_iret hX dX6_ones_22 hF h
  · refine zr_iload_n hX dX6_ones_8 rfl rfl ?_
    refine zr_iload_n hX dX6_ones_9 rfl rfl ?_
    refine zr_iconst hX dX6_ones_10 (zrl rfl) ?_
    refine zr_iand hX dX6_ones_11 ?_
    refine zr_iadd hX dX6_ones_12 ?_
    refine zr_istore_n hX dX6_ones_13 rfl (Nat.le_of_ble_eq_true rfl) ?_
    refine zr_iload_n hX dX6_ones_14 rfl rfl ?_
    refine zr_iconst hX dX6_ones_15 (zrl rfl) ?_
    refine zr_ishr hX dX6_ones_16 ?_
    refine zr_istore_n hX dX6_ones_17 rfl (Nat.le_of_ble_eq_true rfl) ?_
    refine zr_goto hX dX6_ones_18 (tgt := 4) rfl ?_
    exact zW_lf (k_M_ones_4 h) (And.intro rfl (And.intro rfl trivial))
set_option maxRecDepth 100000 in
set_option maxHeartbeats 4000000 in
theorem w_M_ones_e {X : zX} {G : zG} {v0 : Int} {μ : zM} {rv : Option zV} {ν : zM} (hX : zOk X G cX6_ones RX6 3 (some .int) 1) (hF : zFin X G rv ν) (h : zP (Sum.elim (k_M_ones X G v0 μ) (fun r : Int => (some (zI r), μ) = (rv, ν))) (e_M_ones v0)) : zW X G 3 0 [some (zI v0), none, none] [] μ := by
  refine zr_iconst hX dX6_ones_0 (zrl rfl) ?_
  refine zr_istore_n hX dX6_ones_1 rfl (Nat.le_of_ble_eq_true rfl) ?_
  refine zr_iload_n hX dX6_ones_2 rfl rfl ?_
  refine zr_istore_n hX dX6_ones_3 rfl (Nat.le_of_ble_eq_true rfl) ?_
  exact zW_lf (k_M_ones_4 h) (And.intro rfl (And.intro rfl trivial))
set_option maxRecDepth 100000 in
theorem m_M_ones {l : Launch} {G : zG} {v0 : Int} {μ : zM} {q : Int} (hq : f_M_ones v0 = some q) : zCT l G yX6_ones cX6_ones 3 (some .int) 1 [zI v0] μ (some (zI q)) μ := by
  refine zMet (lv := [some (zI v0), none, none]) (k := 2) pl_X6 rfl (Nat.le_of_ble_eq_true rfl) (fun X hl hX hF _ _ => ?_)
  refine w_M_ones_e hX hF (zgo_K (r := q) (step := t_M_ones v0) (fun s h => ?_) rfl hq)
  exact w_M_ones_4 hX hF h
set_option maxRecDepth 100000 in
set_option maxHeartbeats 4000000 in
theorem w_M_found_e {X : zX} {G : zG} {v1 : Int} {μ : zM} {rv : Option zV} {ν : zM} (hX : zOk X G cX6_found RX6 2 (some .int) 1) (hF : zFin X G rv ν) (h : zP (fun r : (Int × zM) => (some (zI r.1), r.2) = (rv, ν)) (f_M_found v1 μ)) : zW X G 2 0 [some (zR 42), some (zI v1)] [] μ := by
  refine zr_aload_n hX dX6_found_0 rfl rfl ?_
  refine zr_iload_n hX dX6_found_1 rfl rfl ?_
  refine zr_puti hX dX6_found_2 (k := 8) rfl rfl ww_859 rfl (by decide +kernel) ?_
  refine zr_aload_n hX dX6_found_5 rfl rfl ?_
  refine zr_getr hX dX6_found_6 (k := 9) (q := 50) rfl rfl ww_860 rfl ?_
  refine zr_iload_n hX dX6_found_9 rfl rfl ?_
  refine zr_dup2 hX dX6_found_10 rfl rfl ?_
  refine zr_iald (N := 6) hX dX6_found_11 rfl rfl h (fun h => ?_)
  refine zr_iconst hX dX6_found_12 (zrl rfl) ?_
  refine zr_iadd hX dX6_found_13 ?_
  refine zr_iast (N := 6) hX dX6_found_14 rfl rfl h (fun h => ?_)
  refine zr_bipush hX dX6_found_15 rfl ?_
  exact zr_iret hX dX6_found_17 hF h
set_option maxRecDepth 100000 in
theorem m_M_found {l : Launch} {G : zG} {v1 : Int} {μ : zM} {q : Int × zM} (hq : f_M_found v1 μ = some q) : zCT l G yX6_found cX6_found 2 (some .int) 1 [zR 42, zI v1] μ (some (zI q.1)) q.2 := by
  refine zMet (lv := [some (zR 42), some (zI v1)]) (k := 0) pl_X6 rfl (Nat.le_of_ble_eq_true rfl) (fun X hl hX hF _ _ => ?_)
  exact w_M_found_e hX hF (zP_of hq rfl)
set_option maxRecDepth 100000 in
set_option maxHeartbeats 4000000 in
theorem w_M_tells_e {X : zX} {G : zG} {v1 : Int} {v2 : Int} {μ : zM} {rv : Option zV} {ν : zM} (hX : zOk X G cX6_tells RX6 3 (some .int) 1) (hF : zFin X G rv ν) (h : zP (fun r : (Int × zM) => (some (zI r.1), r.2) = (rv, ν)) (f_M_tells v1 v2 μ)) : zW X G 3 0 [some (zR 42), some (zI v1), some (zI v2)] [] μ := by
  refine zr_aload_n hX dX6_tells_0 rfl rfl ?_
  refine zr_iload_n hX dX6_tells_1 rfl rfl ?_
  refine zr_puti hX dX6_tells_2 (k := 10) rfl rfl ww_861 rfl (by decide +kernel) ?_
  refine zr_iload_n hX dX6_tells_5 rfl rfl ?_
  exact zr_iret hX dX6_tells_6 hF h
set_option maxRecDepth 100000 in
theorem m_M_tells {l : Launch} {G : zG} {v1 : Int} {v2 : Int} {μ : zM} {q : Int × zM} (hq : f_M_tells v1 v2 μ = some q) : zCT l G yX6_tells cX6_tells 3 (some .int) 1 [zR 42, zI v1, zI v2] μ (some (zI q.1)) q.2 := by
  refine zMet (lv := [some (zR 42), some (zI v1), some (zI v2)]) (k := 0) pl_X6 rfl (Nat.le_of_ble_eq_true rfl) (fun X hl hX hF _ _ => ?_)
  exact w_M_tells_e hX hF (zP_of hq rfl)
def k_M_copyAll (X : zX) (G : zG) (v1 : Int) (v2 : Int) (v3 : Int) : (Int × zM) → Prop := fun s => zW X G 5 3 [some (zR 42), some (zI v1), some (zI v2), some (zI v3), some (zI s.1)] [] s.2
theorem k_M_copyAll_3 {X : zX} {G : zG} {v1 : Int} {v2 : Int} {v3 : Int} {F : zM → Prop} {v4 : Int} {κ : zM} (h : zP (Sum.elim (k_M_copyAll X G v1 v2 v3) F) (some (.inl ((v4, κ))))) : zW X G 5 3 [some (zR 42), some (zI v1), some (zI v2), some (zI v3), some (zI v4)] [] κ := h
set_option maxRecDepth 100000 in
set_option maxHeartbeats 4000000 in
theorem w_M_copyAll_3 {X : zX} {G : zG} {v1 : Int} {v2 : Int} {v3 : Int} {μ : zM} {rv : Option zV} {ν : zM} (hX : zOk X G cX6_copyAll RX6 5 none 1) (hF : zFin X G rv ν) {v4 : Int} (h : zP (Sum.elim (k_M_copyAll X G v1 v2 v3) (fun r : zM => ((none : Option zV), r) = (rv, ν))) (b_M_copyAll_3 v1 v2 v3 v4 μ)) : zW X G 5 3 [some (zR 42), some (zI v1), some (zI v2), some (zI v3), some (zI v4)] [] μ := by
  refine zr_iload hX dX6_copyAll_3 rfl ?_
  refine zr_iload_n hX dX6_copyAll_5 rfl rfl ?_
  refine zr_icmpge (tgt := 33) hX dX6_copyAll_6 rfl h (fun h => ?_) (fun h => ?_)
  · exact zr_vret hX dX6_copyAll_33 hF h
  · refine zr_aload_n hX dX6_copyAll_9 rfl rfl ?_
    refine zr_getr hX dX6_copyAll_10 (k := 0) (q := 43) rfl rfl ww_851 rfl ?_
    refine zr_iload_n hX dX6_copyAll_13 rfl rfl ?_
    refine zr_iload hX dX6_copyAll_14 rfl ?_
    refine zr_iadd hX dX6_copyAll_16 ?_
    refine zr_aload_n hX dX6_copyAll_17 rfl rfl ?_
    refine zr_getr hX dX6_copyAll_18 (k := 0) (q := 43) rfl rfl ww_851 rfl ?_
    refine zr_iload_n hX dX6_copyAll_21 rfl rfl ?_
    refine zr_iload hX dX6_copyAll_22 rfl ?_
    refine zr_iadd hX dX6_copyAll_24 ?_
    refine zr_iald (N := 10956) hX dX6_copyAll_25 rfl rfl h (fun h => ?_)
    refine zr_iast (N := 10956) hX dX6_copyAll_26 rfl rfl h (fun h => ?_)
    refine zr_iinc hX dX6_copyAll_27 rfl (Nat.le_of_ble_eq_true rfl) ?_
    refine zr_goto hX dX6_copyAll_30 (tgt := 3) rfl ?_
    exact zW_lf (k_M_copyAll_3 h) (And.intro rfl (And.intro rfl (And.intro rfl (And.intro rfl (And.intro rfl trivial)))))
set_option maxRecDepth 100000 in
set_option maxHeartbeats 4000000 in
theorem w_M_copyAll_e {X : zX} {G : zG} {v1 : Int} {v2 : Int} {v3 : Int} {μ : zM} {rv : Option zV} {ν : zM} (hX : zOk X G cX6_copyAll RX6 5 none 1) (hF : zFin X G rv ν) (h : zP (Sum.elim (k_M_copyAll X G v1 v2 v3) (fun r : zM => ((none : Option zV), r) = (rv, ν))) (e_M_copyAll v1 v2 v3 μ)) : zW X G 5 0 [some (zR 42), some (zI v1), some (zI v2), some (zI v3), none] [] μ := by
  refine zr_iconst hX dX6_copyAll_0 (zrl rfl) ?_
  refine zr_istore hX dX6_copyAll_1 (Nat.le_of_ble_eq_true rfl) ?_
  exact zW_lf (k_M_copyAll_3 h) (And.intro rfl (And.intro rfl (And.intro rfl (And.intro rfl (And.intro rfl trivial)))))
set_option maxRecDepth 100000 in
theorem m_M_copyAll {l : Launch} {G : zG} {v1 : Int} {v2 : Int} {v3 : Int} {μ : zM} {q : zM} (hq : f_M_copyAll v1 v2 v3 μ = some q) : zCT l G yX6_copyAll cX6_copyAll 5 none 1 [zR 42, zI v1, zI v2, zI v3] μ (none) q := by
  refine zMet (lv := [some (zR 42), some (zI v1), some (zI v2), some (zI v3), none]) (k := 1) pl_X6 rfl (Nat.le_of_ble_eq_true rfl) (fun X hl hX hF _ _ => ?_)
  refine w_M_copyAll_e hX hF (zgo_K (r := q) (step := t_M_copyAll v1 v2 v3) (fun s h => ?_) rfl hq)
  exact w_M_copyAll_3 hX hF h
set_option maxRecDepth 100000 in
set_option maxHeartbeats 4000000 in
theorem w_M_isRow_e {X : zX} {G : zG} {v0 : Int} {μ : zM} {rv : Option zV} {ν : zM} (hX : zOk X G cX6_isRow RX6 1 (some .boolean) 2) (hF : zFin X G rv ν) (h : zP (fun r : Int => (some (zI r), μ) = (rv, ν)) (fo_M_isRow v0)) : zW X G 1 0 [some (zI v0)] [] μ := by
  refine zr_iload_n hX dX6_isRow_0 rfl rfl ?_
  refine zr_i2l hX dX6_isRow_1 ?_
  refine zr_lconst hX dX6_isRow_2 (n := 0) rfl (zrlJ rfl) ?_
  refine zr_ldc2 hX dX6_isRow_3 ww_917 rfl (zrlJ rfl) ?_
  refine zr_callS hX dX6_isRow_6 (m_M_in) rfl (z4 ww_918 ww_919 ww_77 ww_920) hy_X6_in rfl (Nat.le_of_ble_eq_true rfl) (Nat.le_of_ble_eq_true rfl) (Nat.le_of_ble_eq_true rfl) ?_
  exact zr_bretc hX dX6_isRow_9 hF (b_M_in _ _ _) h
set_option maxRecDepth 100000 in
theorem m_M_isRow {l : Launch} {G : zG} {v0 : Int} {μ : zM} : zCT l G yX6_isRow cX6_isRow 1 (some .boolean) 2 [zI v0] μ (some (zI (f_M_isRow v0))) μ := by
  refine zMet (lv := [some (zI v0)]) (k := 0) pl_X6 rfl (Nat.le_of_ble_eq_true rfl) (fun X hl hX hF _ _ => ?_)
  exact w_M_isRow_e hX hF (by rw [fo_M_isRow_eq]; rfl)
set_option maxRecDepth 100000 in
set_option maxHeartbeats 4000000 in
theorem w_M_isText_e {X : zX} {G : zG} {v0 : Int} {μ : zM} {rv : Option zV} {ν : zM} (hX : zOk X G cX6_isText RX6 1 (some .boolean) 2) (hF : zFin X G rv ν) (h : zP (fun r : Int => (some (zI r), μ) = (rv, ν)) (fo_M_isText v0)) : zW X G 1 0 [some (zI v0)] [] μ := by
  refine zr_iload_n hX dX6_isText_0 rfl rfl ?_
  refine zr_i2l hX dX6_isText_1 ?_
  refine zr_lconst hX dX6_isText_2 (n := 0) rfl (zrlJ rfl) ?_
  refine zr_ldc2 hX dX6_isText_3 ww_960 rfl (zrlJ rfl) ?_
  refine zr_callS hX dX6_isText_6 (m_M_in) rfl (z4 ww_918 ww_919 ww_77 ww_920) hy_X6_in rfl (Nat.le_of_ble_eq_true rfl) (Nat.le_of_ble_eq_true rfl) (Nat.le_of_ble_eq_true rfl) ?_
  exact zr_bretc hX dX6_isText_9 hF (b_M_in _ _ _) h
set_option maxRecDepth 100000 in
theorem m_M_isText {l : Launch} {G : zG} {v0 : Int} {μ : zM} : zCT l G yX6_isText cX6_isText 1 (some .boolean) 2 [zI v0] μ (some (zI (f_M_isText v0))) μ := by
  refine zMet (lv := [some (zI v0)]) (k := 0) pl_X6 rfl (Nat.le_of_ble_eq_true rfl) (fun X hl hX hF _ _ => ?_)
  exact w_M_isText_e hX hF (by rw [fo_M_isText_eq]; rfl)
def k_M_row (X : zX) (G : zG) (v1 : Int) (v2 : Int) : (Int × zM) → Prop := fun s => zW X G 4 34 [some (zR 42), some (zI v1), some (zI v2), some (zI s.1)] [] s.2
theorem k_M_row_34 {X : zX} {G : zG} {v1 : Int} {v2 : Int} {F : (Int × zM) → Prop} {v3 : Int} {κ : zM} (h : zP (Sum.elim (k_M_row X G v1 v2) F) (some (.inl ((v3, κ))))) : zW X G 4 34 [some (zR 42), some (zI v1), some (zI v2), some (zI v3)] [] κ := h
set_option maxRecDepth 100000 in
set_option maxHeartbeats 4000000 in
theorem w_M_row_34 {X : zX} {G : zG} {v1 : Int} {v2 : Int} {μ : zM} {rv : Option zV} {ν : zM} (hX : zOk X G cX6_row RX6 4 (some .int) 3) (hF : zFin X G rv ν) {v3 : Int} (h : zP (Sum.elim (k_M_row X G v1 v2) (fun r : (Int × zM) => (some (zI r.1), r.2) = (rv, ν))) (b_M_row_34 v1 v2 v3 μ)) : zW X G 4 34 [some (zR 42), some (zI v1), some (zI v2), some (zI v3)] [] μ := by
  refine zr_iload_n hX dX6_row_34 rfl rfl ?_
  refine zr_bipush hX dX6_row_35 rfl ?_
  refine zr_icmpge (tgt := 58) hX dX6_row_37 rfl h (fun h => ?_) (fun h => ?_)
  · refine zr_iload_n hX dX6_row_58 rfl rfl ?_
    exact zr_iret hX dX6_row_59 hF h
  · refine zr_aload_n hX dX6_row_40 rfl rfl ?_
    refine zr_getr hX dX6_row_41 (k := 3) (q := 45) rfl rfl ww_854 rfl ?_
    refine zr_bipush hX dX6_row_44 rfl ?_
    refine zr_iload_n hX dX6_row_46 rfl rfl ?_
    refine zr_imul hX dX6_row_47 ?_
    refine zr_iload_n hX dX6_row_48 rfl rfl ?_
    refine zr_iadd hX dX6_row_49 ?_
    refine zr_iconst hX dX6_row_50 (zrl rfl) ?_
    refine zr_iast (N := 240) hX dX6_row_51 rfl rfl h (fun h => ?_)
    refine zr_iinc hX dX6_row_52 rfl (Nat.le_of_ble_eq_true rfl) ?_
    refine zr_goto hX dX6_row_55 (tgt := 34) rfl ?_
    exact zW_lf (k_M_row_34 h) (And.intro rfl (And.intro rfl (And.intro rfl (And.intro rfl trivial))))
set_option maxRecDepth 100000 in
set_option maxHeartbeats 4000000 in
theorem w_M_row_e {X : zX} {G : zG} {v1 : Int} {v2 : Int} {μ : zM} {rv : Option zV} {ν : zM} (hX : zOk X G cX6_row RX6 4 (some .int) 3) (hF : zFin X G rv ν) (h : zP (Sum.elim (k_M_row X G v1 v2) (fun r : (Int × zM) => (some (zI r.1), r.2) = (rv, ν))) (e_M_row v1 v2 μ)) : zW X G 4 0 [some (zR 42), some (zI v1), some (zI v2), none] [] μ := by
  refine zr_iload_n hX dX6_row_0 rfl rfl ?_
  refine zr_callS hX dX6_row_1 (m_M_isRow) rfl (z4 ww_914 ww_915 ww_77 ww_916) hy_X6_isRow rfl (Nat.le_of_ble_eq_true rfl) (Nat.le_of_ble_eq_true rfl) (Nat.le_of_ble_eq_true rfl) ?_
  refine zr_ifeq (tgt := 13) hX dX6_row_4 rfl h (fun h => ?_) (fun h => ?_)
  · refine zr_iconst hX dX6_row_13 (zrl rfl) ?_
    exact zr_iret hX dX6_row_14 hF h
  · refine zr_iload_n hX dX6_row_7 rfl rfl ?_
    refine zr_bipush hX dX6_row_8 rfl ?_
    refine zr_icmple (tgt := 15) hX dX6_row_10 rfl h (fun h => ?_) (fun h => ?_)
    · refine zr_iload_n hX dX6_row_15 rfl rfl ?_
      refine zr_ifge (tgt := 25) hX dX6_row_16 rfl h (fun h => ?_) (fun h => ?_)
      · refine zr_aload_n hX dX6_row_25 rfl rfl ?_
        refine zr_getr hX dX6_row_26 (k := 4) (q := 46) rfl rfl ww_855 rfl ?_
        refine zr_iload_n hX dX6_row_29 rfl rfl ?_
        refine zr_iload_n hX dX6_row_30 rfl rfl ?_
        refine zr_iast (N := 6) hX dX6_row_31 rfl rfl h (fun h => ?_)
        refine zr_iconst hX dX6_row_32 (zrl rfl) ?_
        refine zr_istore_n hX dX6_row_33 rfl (Nat.le_of_ble_eq_true rfl) ?_
        exact zW_lf (k_M_row_34 h) (And.intro rfl (And.intro rfl (And.intro rfl (And.intro rfl trivial))))
      · refine zr_aload_n hX dX6_row_19 rfl rfl ?_
        refine zr_iconst hX dX6_row_20 (zrl rfl) ?_
        refine zP_bind h (fun q1 hq1 h => ?_)
        refine zr_callV hX dX6_row_21 (m_M_found hq1) rfl rfl rfl (z5 ww_921 ww_923 ww_21 ww_77 ww_924) hy_X6_found rfl (Nat.le_of_ble_eq_true rfl) (Nat.le_of_ble_eq_true rfl) (Nat.le_of_ble_eq_true rfl) ?_
        exact zr_iret hX dX6_row_24 hF h
    · refine zr_iconst hX dX6_row_13 (zrl rfl) ?_
      exact zr_iret hX dX6_row_14 hF h
set_option maxRecDepth 100000 in
theorem m_M_row {l : Launch} {G : zG} {v1 : Int} {v2 : Int} {μ : zM} {q : Int × zM} (hq : f_M_row v1 v2 μ = some q) : zCT l G yX6_row cX6_row 4 (some .int) 3 [zR 42, zI v1, zI v2] μ (some (zI q.1)) q.2 := by
  refine zMet (lv := [some (zR 42), some (zI v1), some (zI v2), none]) (k := 1) pl_X6 rfl (Nat.le_of_ble_eq_true rfl) (fun X hl hX hF _ _ => ?_)
  refine w_M_row_e hX hF (zgo_K (r := q) (step := t_M_row v1 v2) (fun s h => ?_) rfl hq)
  exact w_M_row_34 hX hF h
set_option maxRecDepth 100000 in
set_option maxHeartbeats 4000000 in
theorem w_M_at_e {X : zX} {G : zG} {v1 : Int} {v2 : Int} {μ : zM} {rv : Option zV} {ν : zM} (hX : zOk X G cX6_at RX6 3 (some .int) 3) (hF : zFin X G rv ν) (h : zP (fun r : (Int × zM) => (some (zI r.1), r.2) = (rv, ν)) (f_M_at v1 v2 μ)) : zW X G 3 0 [some (zR 42), some (zI v1), some (zI v2)] [] μ := by
  refine zr_iload_n hX dX6_at_0 rfl rfl ?_
  refine zr_callS hX dX6_at_1 (m_M_isRow) rfl (z4 ww_914 ww_915 ww_77 ww_916) hy_X6_isRow rfl (Nat.le_of_ble_eq_true rfl) (Nat.le_of_ble_eq_true rfl) (Nat.le_of_ble_eq_true rfl) ?_
  refine zr_ifne (tgt := 9) hX dX6_at_4 rfl h (fun h => ?_) (fun h => ?_)
  · refine zr_aload_n hX dX6_at_9 rfl rfl ?_
    refine zr_getr hX dX6_at_10 (k := 4) (q := 46) rfl rfl ww_855 rfl ?_
    refine zr_iload_n hX dX6_at_13 rfl rfl ?_
    refine zr_iald (N := 6) hX dX6_at_14 rfl rfl h (fun h => ?_)
    refine zr_ifge (tgt := 24) hX dX6_at_15 rfl h (fun h => ?_) (fun h => ?_)
    · refine zr_iload_n hX dX6_at_24 rfl rfl ?_
      refine zr_i2l hX dX6_at_25 ?_
      refine zr_lconst hX dX6_at_26 (n := 0) rfl (zrlJ rfl) ?_
      refine zr_aload_n hX dX6_at_27 rfl rfl ?_
      refine zr_getr hX dX6_at_28 (k := 4) (q := 46) rfl rfl ww_855 rfl ?_
      refine zr_iload_n hX dX6_at_31 rfl rfl ?_
      refine zr_iald (N := 6) hX dX6_at_32 rfl rfl h (fun h => ?_)
      refine zr_iconst hX dX6_at_33 (zrl rfl) ?_
      refine zr_isub hX dX6_at_34 ?_
      refine zr_i2l hX dX6_at_35 ?_
      refine zr_callS hX dX6_at_36 (m_M_in) rfl (z4 ww_918 ww_919 ww_77 ww_920) hy_X6_in rfl (Nat.le_of_ble_eq_true rfl) (Nat.le_of_ble_eq_true rfl) (Nat.le_of_ble_eq_true rfl) ?_
      refine zr_ifeq (tgt := 61) hX dX6_at_39 rfl h (fun h => ?_) (fun h => ?_)
      · refine zr_aload_n hX dX6_at_61 rfl rfl ?_
        refine zr_iconst hX dX6_at_62 (zrl rfl) ?_
        refine zP_bind h (fun q1 hq1 h => ?_)
        refine zr_callV hX dX6_at_63 (m_M_found hq1) rfl rfl rfl (z5 ww_921 ww_923 ww_21 ww_77 ww_924) hy_X6_found rfl (Nat.le_of_ble_eq_true rfl) (Nat.le_of_ble_eq_true rfl) (Nat.le_of_ble_eq_true rfl) ?_
        exact zr_iret hX dX6_at_66 hF h
      · refine zr_aload_n hX dX6_at_42 rfl rfl ?_
        refine zr_aload_n hX dX6_at_43 rfl rfl ?_
        refine zr_getr hX dX6_at_44 (k := 3) (q := 45) rfl rfl ww_854 rfl ?_
        refine zr_bipush hX dX6_at_47 rfl ?_
        refine zr_iload_n hX dX6_at_49 rfl rfl ?_
        refine zr_imul hX dX6_at_50 ?_
        refine zr_iload_n hX dX6_at_51 rfl rfl ?_
        refine zr_iadd hX dX6_at_52 ?_
        refine zr_iald (N := 240) hX dX6_at_53 rfl rfl h (fun h => ?_)
        refine zr_iconst hX dX6_at_54 (zrl rfl) ?_
        refine zP_bind h (fun q2 hq2 h => ?_)
        refine zr_callV hX dX6_at_55 (m_M_tells hq2) rfl rfl rfl (z5 ww_933 ww_935 ww_22 ww_77 ww_936) hy_X6_tells rfl (Nat.le_of_ble_eq_true rfl) (Nat.le_of_ble_eq_true rfl) (Nat.le_of_ble_eq_true rfl) ?_
        refine zr_goto hX dX6_at_58 (tgt := 66) rfl ?_
        exact zr_iret hX dX6_at_66 hF h
    · refine zr_aload_n hX dX6_at_18 rfl rfl ?_
      refine zr_iconst hX dX6_at_19 (zrl rfl) ?_
      refine zP_bind h (fun q3 hq3 h => ?_)
      refine zr_callV hX dX6_at_20 (m_M_found hq3) rfl rfl rfl (z5 ww_921 ww_923 ww_21 ww_77 ww_924) hy_X6_found rfl (Nat.le_of_ble_eq_true rfl) (Nat.le_of_ble_eq_true rfl) (Nat.le_of_ble_eq_true rfl) ?_
      exact zr_iret hX dX6_at_23 hF h
  · refine zr_iconst hX dX6_at_7 (zrl rfl) ?_
    exact zr_iret hX dX6_at_8 hF h
set_option maxRecDepth 100000 in
theorem m_M_at {l : Launch} {G : zG} {v1 : Int} {v2 : Int} {μ : zM} {q : Int × zM} (hq : f_M_at v1 v2 μ = some q) : zCT l G yX6_at cX6_at 3 (some .int) 3 [zR 42, zI v1, zI v2] μ (some (zI q.1)) q.2 := by
  refine zMet (lv := [some (zR 42), some (zI v1), some (zI v2)]) (k := 0) pl_X6 rfl (Nat.le_of_ble_eq_true rfl) (fun X hl hX hF _ _ => ?_)
  exact w_M_at_e hX hF (zP_of hq rfl)
set_option maxRecDepth 100000 in
set_option maxHeartbeats 4000000 in
theorem w_M_lay_e {X : zX} {G : zG} {v1 : Int} {v2 : Int} {v3 : Int} {μ : zM} {rv : Option zV} {ν : zM} (hX : zOk X G cX6_lay RX6 5 (some .int) 4) (hF : zFin X G rv ν) (h : zP (fun r : (Int × zM) => (some (zI r.1), r.2) = (rv, ν)) (f_M_lay v1 v2 v3 μ)) : zW X G 5 0 [some (zR 42), some (zI v1), some (zI v2), some (zI v3), none] [] μ := by
  refine zr_aload_n hX dX6_lay_0 rfl rfl ?_
  refine zr_iload_n hX dX6_lay_1 rfl rfl ?_
  refine zr_iload_n hX dX6_lay_2 rfl rfl ?_
  refine zP_bind h (fun q1 hq1 h => ?_)
  refine zr_callV hX dX6_lay_3 (m_M_at hq1) rfl rfl rfl (z5 ww_929 ww_930 ww_931 ww_77 ww_932) hy_X6_at rfl (Nat.le_of_ble_eq_true rfl) (Nat.le_of_ble_eq_true rfl) (Nat.le_of_ble_eq_true rfl) ?_
  refine zr_istore hX dX6_lay_6 (Nat.le_of_ble_eq_true rfl) ?_
  refine zr_iload hX dX6_lay_8 rfl ?_
  refine zr_iconst hX dX6_lay_10 (zrl rfl) ?_
  refine zr_icmpne (tgt := 26) hX dX6_lay_11 rfl h (fun h => ?_) (fun h => ?_)
  · refine zr_iload hX dX6_lay_26 rfl ?_
    exact zr_iret hX dX6_lay_28 hF h
  · refine zr_aload_n hX dX6_lay_14 rfl rfl ?_
    refine zr_getr hX dX6_lay_15 (k := 3) (q := 45) rfl rfl ww_854 rfl ?_
    refine zr_bipush hX dX6_lay_18 rfl ?_
    refine zr_iload_n hX dX6_lay_20 rfl rfl ?_
    refine zr_imul hX dX6_lay_21 ?_
    refine zr_iload_n hX dX6_lay_22 rfl rfl ?_
    refine zr_iadd hX dX6_lay_23 ?_
    refine zr_iload_n hX dX6_lay_24 rfl rfl ?_
    refine zr_iast (N := 240) hX dX6_lay_25 rfl rfl h (fun h => ?_)
    refine zr_iload hX dX6_lay_26 rfl ?_
    exact zr_iret hX dX6_lay_28 hF h
set_option maxRecDepth 100000 in
theorem m_M_lay {l : Launch} {G : zG} {v1 : Int} {v2 : Int} {v3 : Int} {μ : zM} {q : Int × zM} (hq : f_M_lay v1 v2 v3 μ = some q) : zCT l G yX6_lay cX6_lay 5 (some .int) 4 [zR 42, zI v1, zI v2, zI v3] μ (some (zI q.1)) q.2 := by
  refine zMet (lv := [some (zR 42), some (zI v1), some (zI v2), some (zI v3), none]) (k := 1) pl_X6 rfl (Nat.le_of_ble_eq_true rfl) (fun X hl hX hF _ _ => ?_)
  exact w_M_lay_e hX hF (zP_of hq rfl)
set_option maxRecDepth 100000 in
set_option maxHeartbeats 4000000 in
theorem w_M_tear_e {X : zX} {G : zG} {v1 : Int} {μ : zM} {rv : Option zV} {ν : zM} (hX : zOk X G cX6_tear RX6 2 (some .int) 3) (hF : zFin X G rv ν) (h : zP (fun r : (Int × zM) => (some (zI r.1), r.2) = (rv, ν)) (f_M_tear v1 μ)) : zW X G 2 0 [some (zR 42), some (zI v1)] [] μ := by
  refine zr_iload_n hX dX6_tear_0 rfl rfl ?_
  refine zr_callS hX dX6_tear_1 (m_M_isRow) rfl (z4 ww_914 ww_915 ww_77 ww_916) hy_X6_isRow rfl (Nat.le_of_ble_eq_true rfl) (Nat.le_of_ble_eq_true rfl) (Nat.le_of_ble_eq_true rfl) ?_
  refine zr_ifne (tgt := 9) hX dX6_tear_4 rfl h (fun h => ?_) (fun h => ?_)
  · refine zr_aload_n hX dX6_tear_9 rfl rfl ?_
    refine zr_getr hX dX6_tear_10 (k := 4) (q := 46) rfl rfl ww_855 rfl ?_
    refine zr_iload_n hX dX6_tear_13 rfl rfl ?_
    refine zr_iald (N := 6) hX dX6_tear_14 rfl rfl h (fun h => ?_)
    refine zr_ifge (tgt := 24) hX dX6_tear_15 rfl h (fun h => ?_) (fun h => ?_)
    · refine zr_aload_n hX dX6_tear_24 rfl rfl ?_
      refine zr_getr hX dX6_tear_25 (k := 4) (q := 46) rfl rfl ww_855 rfl ?_
      refine zr_iload_n hX dX6_tear_28 rfl rfl ?_
      refine zr_iconst hX dX6_tear_29 (zrl rfl) ?_
      refine zr_iast (N := 6) hX dX6_tear_30 rfl rfl h (fun h => ?_)
      refine zr_iconst hX dX6_tear_31 (zrl rfl) ?_
      exact zr_iret hX dX6_tear_32 hF h
    · refine zr_aload_n hX dX6_tear_18 rfl rfl ?_
      refine zr_iconst hX dX6_tear_19 (zrl rfl) ?_
      refine zP_bind h (fun q1 hq1 h => ?_)
      refine zr_callV hX dX6_tear_20 (m_M_found hq1) rfl rfl rfl (z5 ww_921 ww_923 ww_21 ww_77 ww_924) hy_X6_found rfl (Nat.le_of_ble_eq_true rfl) (Nat.le_of_ble_eq_true rfl) (Nat.le_of_ble_eq_true rfl) ?_
      exact zr_iret hX dX6_tear_23 hF h
  · refine zr_iconst hX dX6_tear_7 (zrl rfl) ?_
    exact zr_iret hX dX6_tear_8 hF h
set_option maxRecDepth 100000 in
theorem m_M_tear {l : Launch} {G : zG} {v1 : Int} {μ : zM} {q : Int × zM} (hq : f_M_tear v1 μ = some q) : zCT l G yX6_tear cX6_tear 2 (some .int) 3 [zR 42, zI v1] μ (some (zI q.1)) q.2 := by
  refine zMet (lv := [some (zR 42), some (zI v1)]) (k := 0) pl_X6 rfl (Nat.le_of_ble_eq_true rfl) (fun X hl hX hF _ _ => ?_)
  exact w_M_tear_e hX hF (zP_of hq rfl)
set_option maxRecDepth 100000 in
set_option maxHeartbeats 4000000 in
theorem w_M_fits_e {X : zX} {G : zG} {v0 : Int} {v1 : Int} {v2 : Int} {μ : zM} {rv : Option zV} {ν : zM} (hX : zOk X G cX6_fits RX6 3 (some .boolean) 1) (hF : zFin X G rv ν) (h : zP (fun r : Int => (some (zI r), μ) = (rv, ν)) (fo_M_fits v0 v1 v2)) : zW X G 3 0 [some (zI v0), some (zI v1), some (zI v2)] [] μ := by
  refine zr_iload_n hX dX6_fits_0 rfl rfl ?_
  refine zr_iflt (tgt := 19) hX dX6_fits_1 rfl h (fun h => ?_) (fun h => ?_)
  · refine zr_iconst hX dX6_fits_19 (zrl rfl) ?_
    exact zr_bretc hX dX6_fits_20 hF (Or.inl rfl) h
  · refine zr_iload_n hX dX6_fits_4 rfl rfl ?_
    refine zr_i2l hX dX6_fits_5 ?_
    refine zr_iload_n hX dX6_fits_6 rfl rfl ?_
    refine zr_i2l hX dX6_fits_7 ?_
    refine zr_ladd hX dX6_fits_8 ?_
    refine zr_iload_n hX dX6_fits_9 rfl rfl ?_
    refine zr_i2l hX dX6_fits_10 ?_
    refine zr_lcmp hX dX6_fits_11 ?_
    refine zr_ifgt (tgt := 19) hX dX6_fits_12 rfl h (fun h => ?_) (fun h => ?_)
    · refine zr_iconst hX dX6_fits_19 (zrl rfl) ?_
      exact zr_bretc hX dX6_fits_20 hF (Or.inl rfl) h
    · refine zr_iconst hX dX6_fits_15 (zrl rfl) ?_
      refine zr_goto hX dX6_fits_16 (tgt := 20) rfl ?_
      exact zr_bretc hX dX6_fits_20 hF (Or.inr rfl) h
set_option maxRecDepth 100000 in
theorem m_M_fits {l : Launch} {G : zG} {v0 : Int} {v1 : Int} {v2 : Int} {μ : zM} : zCT l G yX6_fits cX6_fits 3 (some .boolean) 1 [zI v0, zI v1, zI v2] μ (some (zI (f_M_fits v0 v1 v2))) μ := by
  refine zMet (lv := [some (zI v0), some (zI v1), some (zI v2)]) (k := 0) pl_X6 rfl (Nat.le_of_ble_eq_true rfl) (fun X hl hX hF _ _ => ?_)
  exact w_M_fits_e hX hF (by rw [fo_M_fits_eq]; rfl)
def k_M_copy (X : zX) (G : zG) (v1 : Int) (v2 : Int) (v3 : Int) (v4 : Int) (v5 : Int) : ((Int × zM) ⊕ (Int × zM)) → Prop := fun s => match s with
  | .inl (s) => zW X G 7 91 [some (zR 42), some (zI v1), some (zI v2), some (zI v3), some (zI v4), some (zI v5), some (zI s.1)] [] s.2
  | .inr (s) => zW X G 7 128 [some (zR 42), none, none, some (zI v3), some (zI v4), some (zI v5), some (zI s.1)] [] s.2
theorem k_M_copy_91 {X : zX} {G : zG} {v1 : Int} {v2 : Int} {v3 : Int} {v4 : Int} {v5 : Int} {F : (Int × zM) → Prop} {v6 : Int} {κ : zM} (h : zP (Sum.elim (k_M_copy X G v1 v2 v3 v4 v5) F) (some (.inl (.inl ((v6, κ)))))) : zW X G 7 91 [some (zR 42), some (zI v1), some (zI v2), some (zI v3), some (zI v4), some (zI v5), some (zI v6)] [] κ := h
theorem k_M_copy_128 {X : zX} {G : zG} {v1 : Int} {v2 : Int} {v3 : Int} {v4 : Int} {v5 : Int} {F : (Int × zM) → Prop} {v6 : Int} {κ : zM} (h : zP (Sum.elim (k_M_copy X G v1 v2 v3 v4 v5) F) (some (.inl (.inr ((v6, κ)))))) : zW X G 7 128 [some (zR 42), none, none, some (zI v3), some (zI v4), some (zI v5), some (zI v6)] [] κ := h
set_option maxRecDepth 100000 in
set_option maxHeartbeats 4000000 in
theorem w_M_copy_91 {X : zX} {G : zG} {v1 : Int} {v2 : Int} {v3 : Int} {v4 : Int} {v5 : Int} {μ : zM} {rv : Option zV} {ν : zM} (hX : zOk X G cX6_copy RX6 7 (some .int) 3) (hF : zFin X G rv ν) {v6 : Int} (h : zP (Sum.elim (k_M_copy X G v1 v2 v3 v4 v5) (fun r : (Int × zM) => (some (zI r.1), r.2) = (rv, ν))) (b_M_copy_91 v1 v2 v3 v4 v5 v6 μ)) : zW X G 7 91 [some (zR 42), some (zI v1), some (zI v2), some (zI v3), some (zI v4), some (zI v5), some (zI v6)] [] μ := by
  refine zr_iload hX dX6_copy_91 rfl ?_
  refine zr_iload hX dX6_copy_93 rfl ?_
  refine zr_icmpge (tgt := 125) hX dX6_copy_95 rfl h (fun h => ?_) (fun h => ?_)
  · refine zr_iconst hX dX6_copy_125 (zrl rfl) ?_
    refine zr_istore hX dX6_copy_126 (Nat.le_of_ble_eq_true rfl) ?_
    exact zW_lf (k_M_copy_128 h) (And.intro rfl (And.intro rfl (And.intro rfl (And.intro rfl (And.intro rfl trivial)))))
  · refine zr_aload_n hX dX6_copy_98 rfl rfl ?_
    refine zr_getr hX dX6_copy_99 (k := 7) (q := 49) rfl rfl ww_858 rfl ?_
    refine zr_iload hX dX6_copy_102 rfl ?_
    refine zr_aload_n hX dX6_copy_104 rfl rfl ?_
    refine zr_getr hX dX6_copy_105 (k := 3) (q := 45) rfl rfl ww_854 rfl ?_
    refine zr_bipush hX dX6_copy_108 rfl ?_
    refine zr_iload_n hX dX6_copy_110 rfl rfl ?_
    refine zr_imul hX dX6_copy_111 ?_
    refine zr_iload_n hX dX6_copy_112 rfl rfl ?_
    refine zr_iadd hX dX6_copy_113 ?_
    refine zr_iload hX dX6_copy_114 rfl ?_
    refine zr_iadd hX dX6_copy_116 ?_
    refine zr_iald (N := 240) hX dX6_copy_117 rfl rfl h (fun h => ?_)
    refine zr_iast (N := 40) hX dX6_copy_118 rfl rfl h (fun h => ?_)
    refine zr_iinc hX dX6_copy_119 rfl (Nat.le_of_ble_eq_true rfl) ?_
    refine zr_goto hX dX6_copy_122 (tgt := 91) rfl ?_
    exact zW_lf (k_M_copy_91 h) (And.intro rfl (And.intro rfl (And.intro rfl (And.intro rfl (And.intro rfl (And.intro rfl (And.intro rfl trivial)))))))
set_option maxRecDepth 100000 in
set_option maxHeartbeats 4000000 in
theorem w_M_copy_128 {X : zX} {G : zG} {v1 : Int} {v2 : Int} {v3 : Int} {v4 : Int} {v5 : Int} {μ : zM} {rv : Option zV} {ν : zM} (hX : zOk X G cX6_copy RX6 7 (some .int) 3) (hF : zFin X G rv ν) {v6 : Int} (h : zP (Sum.elim (k_M_copy X G v1 v2 v3 v4 v5) (fun r : (Int × zM) => (some (zI r.1), r.2) = (rv, ν))) (b_M_copy_128 v1 v2 v3 v4 v5 v6 μ)) : zW X G 7 128 [some (zR 42), none, none, some (zI v3), some (zI v4), some (zI v5), some (zI v6)] [] μ := by
  refine zr_iload hX dX6_copy_128 rfl ?_
  refine zr_iload hX dX6_copy_130 rfl ?_
  refine zr_icmpge (tgt := 163) hX dX6_copy_132 rfl h (fun h => ?_) (fun h => ?_)
  · refine zr_iconst hX dX6_copy_163 (zrl rfl) ?_
    exact zr_iret hX dX6_copy_164 hF h
  · refine zr_aload_n hX dX6_copy_135 rfl rfl ?_
    refine zr_getr hX dX6_copy_136 (k := 3) (q := 45) rfl rfl ww_854 rfl ?_
    refine zr_bipush hX dX6_copy_139 rfl ?_
    refine zr_iload_n hX dX6_copy_141 rfl rfl ?_
    refine zr_imul hX dX6_copy_142 ?_
    refine zr_iload hX dX6_copy_143 rfl ?_
    refine zr_iadd hX dX6_copy_145 ?_
    refine zr_iload hX dX6_copy_146 rfl ?_
    refine zr_iadd hX dX6_copy_148 ?_
    refine zr_aload_n hX dX6_copy_149 rfl rfl ?_
    refine zr_getr hX dX6_copy_150 (k := 7) (q := 49) rfl rfl ww_858 rfl ?_
    refine zr_iload hX dX6_copy_153 rfl ?_
    refine zr_iald (N := 40) hX dX6_copy_155 rfl rfl h (fun h => ?_)
    refine zr_iast (N := 240) hX dX6_copy_156 rfl rfl h (fun h => ?_)
    refine zr_iinc hX dX6_copy_157 rfl (Nat.le_of_ble_eq_true rfl) ?_
    refine zr_goto hX dX6_copy_160 (tgt := 128) rfl ?_
    exact zW_lf (k_M_copy_128 h) (And.intro rfl (And.intro rfl (And.intro rfl (And.intro rfl (And.intro rfl trivial)))))
set_option maxRecDepth 100000 in
set_option maxHeartbeats 4000000 in
theorem w_M_copy_e {X : zX} {G : zG} {v1 : Int} {v2 : Int} {v3 : Int} {v4 : Int} {v5 : Int} {μ : zM} {rv : Option zV} {ν : zM} (hX : zOk X G cX6_copy RX6 7 (some .int) 3) (hF : zFin X G rv ν) (h : zP (Sum.elim (k_M_copy X G v1 v2 v3 v4 v5) (fun r : (Int × zM) => (some (zI r.1), r.2) = (rv, ν))) (e_M_copy v1 v2 v3 v4 v5 μ)) : zW X G 7 0 [some (zR 42), some (zI v1), some (zI v2), some (zI v3), some (zI v4), some (zI v5), none] [] μ := by
  refine zr_iload_n hX dX6_copy_0 rfl rfl ?_
  refine zr_callS hX dX6_copy_1 (m_M_isRow) rfl (z4 ww_914 ww_915 ww_77 ww_916) hy_X6_isRow rfl (Nat.le_of_ble_eq_true rfl) (Nat.le_of_ble_eq_true rfl) (Nat.le_of_ble_eq_true rfl) ?_
  refine zr_ifeq (tgt := 14) hX dX6_copy_4 rfl h (fun h => ?_) (fun h => ?_)
  · refine zr_iconst hX dX6_copy_14 (zrl rfl) ?_
    exact zr_iret hX dX6_copy_15 hF h
  · refine zr_iload_n hX dX6_copy_7 rfl rfl ?_
    refine zr_callS hX dX6_copy_8 (m_M_isRow) rfl (z4 ww_914 ww_915 ww_77 ww_916) hy_X6_isRow rfl (Nat.le_of_ble_eq_true rfl) (Nat.le_of_ble_eq_true rfl) (Nat.le_of_ble_eq_true rfl) ?_
    refine zr_ifne (tgt := 16) hX dX6_copy_11 rfl h (fun h => ?_) (fun h => ?_)
    · refine zr_iload hX dX6_copy_16 rfl ?_
      refine zr_ifge (tgt := 27) hX dX6_copy_18 rfl h (fun h => ?_) (fun h => ?_)
      · refine zr_aload_n hX dX6_copy_27 rfl rfl ?_
        refine zr_getr hX dX6_copy_28 (k := 4) (q := 46) rfl rfl ww_855 rfl ?_
        refine zr_iload_n hX dX6_copy_31 rfl rfl ?_
        refine zr_iald (N := 6) hX dX6_copy_32 rfl rfl h (fun h => ?_)
        refine zr_iflt (tgt := 45) hX dX6_copy_33 rfl h (fun h => ?_) (fun h => ?_)
        · refine zr_aload_n hX dX6_copy_45 rfl rfl ?_
          refine zr_iconst hX dX6_copy_46 (zrl rfl) ?_
          refine zP_bind h (fun q1 hq1 h => ?_)
          refine zr_callV hX dX6_copy_47 (m_M_found hq1) rfl rfl rfl (z5 ww_921 ww_923 ww_21 ww_77 ww_924) hy_X6_found rfl (Nat.le_of_ble_eq_true rfl) (Nat.le_of_ble_eq_true rfl) (Nat.le_of_ble_eq_true rfl) ?_
          exact zr_iret hX dX6_copy_50 hF h
        · refine zr_aload_n hX dX6_copy_36 rfl rfl ?_
          refine zr_getr hX dX6_copy_37 (k := 4) (q := 46) rfl rfl ww_855 rfl ?_
          refine zr_iload_n hX dX6_copy_40 rfl rfl ?_
          refine zr_iald (N := 6) hX dX6_copy_41 rfl rfl h (fun h => ?_)
          refine zr_ifge (tgt := 51) hX dX6_copy_42 rfl h (fun h => ?_) (fun h => ?_)
          · refine zr_iload_n hX dX6_copy_51 rfl rfl ?_
            refine zr_iload hX dX6_copy_52 rfl ?_
            refine zr_aload_n hX dX6_copy_54 rfl rfl ?_
            refine zr_getr hX dX6_copy_55 (k := 4) (q := 46) rfl rfl ww_855 rfl ?_
            refine zr_iload_n hX dX6_copy_58 rfl rfl ?_
            refine zr_iald (N := 6) hX dX6_copy_59 rfl rfl h (fun h => ?_)
            refine zr_callS hX dX6_copy_60 (m_M_fits) rfl (z4 ww_946 ww_947 ww_77 ww_948) hy_X6_fits rfl (Nat.le_of_ble_eq_true rfl) (Nat.le_of_ble_eq_true rfl) (Nat.le_of_ble_eq_true rfl) ?_
            refine zr_ifeq (tgt := 82) hX dX6_copy_63 rfl h (fun h => ?_) (fun h => ?_)
            · refine zr_aload_n hX dX6_copy_82 rfl rfl ?_
              refine zr_iconst hX dX6_copy_83 (zrl rfl) ?_
              refine zP_bind h (fun q2 hq2 h => ?_)
              refine zr_callV hX dX6_copy_84 (m_M_found hq2) rfl rfl rfl (z5 ww_921 ww_923 ww_21 ww_77 ww_924) hy_X6_found rfl (Nat.le_of_ble_eq_true rfl) (Nat.le_of_ble_eq_true rfl) (Nat.le_of_ble_eq_true rfl) ?_
              exact zr_iret hX dX6_copy_87 hF h
            · refine zr_iload hX dX6_copy_66 rfl ?_
              refine zr_iload hX dX6_copy_68 rfl ?_
              refine zr_aload_n hX dX6_copy_70 rfl rfl ?_
              refine zr_getr hX dX6_copy_71 (k := 4) (q := 46) rfl rfl ww_855 rfl ?_
              refine zr_iload_n hX dX6_copy_74 rfl rfl ?_
              refine zr_iald (N := 6) hX dX6_copy_75 rfl rfl h (fun h => ?_)
              refine zr_callS hX dX6_copy_76 (m_M_fits) rfl (z4 ww_946 ww_947 ww_77 ww_948) hy_X6_fits rfl (Nat.le_of_ble_eq_true rfl) (Nat.le_of_ble_eq_true rfl) (Nat.le_of_ble_eq_true rfl) ?_
              refine zr_ifne (tgt := 88) hX dX6_copy_79 rfl h (fun h => ?_) (fun h => ?_)
              · refine zr_iconst hX dX6_copy_88 (zrl rfl) ?_
                refine zr_istore hX dX6_copy_89 (Nat.le_of_ble_eq_true rfl) ?_
                exact zW_lf (k_M_copy_91 h) (And.intro rfl (And.intro rfl (And.intro rfl (And.intro rfl (And.intro rfl (And.intro rfl (And.intro rfl trivial)))))))
              · refine zr_aload_n hX dX6_copy_82 rfl rfl ?_
                refine zr_iconst hX dX6_copy_83 (zrl rfl) ?_
                refine zP_bind h (fun q3 hq3 h => ?_)
                refine zr_callV hX dX6_copy_84 (m_M_found hq3) rfl rfl rfl (z5 ww_921 ww_923 ww_21 ww_77 ww_924) hy_X6_found rfl (Nat.le_of_ble_eq_true rfl) (Nat.le_of_ble_eq_true rfl) (Nat.le_of_ble_eq_true rfl) ?_
                exact zr_iret hX dX6_copy_87 hF h
          · refine zr_aload_n hX dX6_copy_45 rfl rfl ?_
            refine zr_iconst hX dX6_copy_46 (zrl rfl) ?_
            refine zP_bind h (fun q4 hq4 h => ?_)
            refine zr_callV hX dX6_copy_47 (m_M_found hq4) rfl rfl rfl (z5 ww_921 ww_923 ww_21 ww_77 ww_924) hy_X6_found rfl (Nat.le_of_ble_eq_true rfl) (Nat.le_of_ble_eq_true rfl) (Nat.le_of_ble_eq_true rfl) ?_
            exact zr_iret hX dX6_copy_50 hF h
      · refine zr_aload_n hX dX6_copy_21 rfl rfl ?_
        refine zr_iconst hX dX6_copy_22 (zrl rfl) ?_
        refine zP_bind h (fun q5 hq5 h => ?_)
        refine zr_callV hX dX6_copy_23 (m_M_found hq5) rfl rfl rfl (z5 ww_921 ww_923 ww_21 ww_77 ww_924) hy_X6_found rfl (Nat.le_of_ble_eq_true rfl) (Nat.le_of_ble_eq_true rfl) (Nat.le_of_ble_eq_true rfl) ?_
        exact zr_iret hX dX6_copy_26 hF h
    · refine zr_iconst hX dX6_copy_14 (zrl rfl) ?_
      exact zr_iret hX dX6_copy_15 hF h
set_option maxRecDepth 100000 in
theorem m_M_copy {l : Launch} {G : zG} {v1 : Int} {v2 : Int} {v3 : Int} {v4 : Int} {v5 : Int} {μ : zM} {q : Int × zM} (hq : f_M_copy v1 v2 v3 v4 v5 μ = some q) : zCT l G yX6_copy cX6_copy 7 (some .int) 3 [zR 42, zI v1, zI v2, zI v3, zI v4, zI v5] μ (some (zI q.1)) q.2 := by
  refine zMet (lv := [some (zR 42), some (zI v1), some (zI v2), some (zI v3), some (zI v4), some (zI v5), none]) (k := 1) pl_X6 rfl (Nat.le_of_ble_eq_true rfl) (fun X hl hX hF _ _ => ?_)
  refine w_M_copy_e hX hF (zgo_K (r := q) (step := t_M_copy v1 v2 v3 v4 v5) (fun s h => ?_) rfl hq)
  cases s with
  | inl s => exact w_M_copy_91 hX hF h
  | inr s => exact w_M_copy_128 hX hF h
def k_M_mean (X : zX) (G : zG) (v1 : Int) : (Int × Int × zM) → Prop := fun s => zW X G 5 44 [some (zR 42), some (zI v1), some (zJ s.1), none, some (zI s.2.1)] [] s.2.2
theorem k_M_mean_44 {X : zX} {G : zG} {v1 : Int} {F : (Int × zM) → Prop} {v2 v4 : Int} {κ : zM} (h : zP (Sum.elim (k_M_mean X G v1) F) (some (.inl ((v2, v4, κ))))) : zW X G 5 44 [some (zR 42), some (zI v1), some (zJ v2), none, some (zI v4)] [] κ := h
set_option maxRecDepth 100000 in
set_option maxHeartbeats 4000000 in
theorem w_M_mean_44 {X : zX} {G : zG} {v1 : Int} {μ : zM} {rv : Option zV} {ν : zM} (hX : zOk X G cX6_mean RX6 5 (some .int) 3) (hF : zFin X G rv ν) {v2 v4 : Int} (h : zP (Sum.elim (k_M_mean X G v1) (fun r : (Int × zM) => (some (zI r.1), r.2) = (rv, ν))) (b_M_mean_44 v1 v2 v4 μ)) : zW X G 5 44 [some (zR 42), some (zI v1), some (zJ v2), none, some (zI v4)] [] μ := by
  refine zr_iload hX dX6_mean_44 rfl ?_
  refine zr_aload_n hX dX6_mean_46 rfl rfl ?_
  refine zr_getr hX dX6_mean_47 (k := 4) (q := 46) rfl rfl ww_855 rfl ?_
  refine zr_iload_n hX dX6_mean_50 rfl rfl ?_
  refine zr_iald (N := 6) hX dX6_mean_51 rfl rfl h (fun h => ?_)
  refine zr_icmpge (tgt := 77) hX dX6_mean_52 rfl h (fun h => ?_) (fun h => ?_)
  · refine zr_aload_n hX dX6_mean_77 rfl rfl ?_
    refine zr_lload_n hX dX6_mean_78 rfl rfl ?_
    refine zr_aload_n hX dX6_mean_79 rfl rfl ?_
    refine zr_getr hX dX6_mean_80 (k := 4) (q := 46) rfl rfl ww_855 rfl ?_
    refine zr_iload_n hX dX6_mean_83 rfl rfl ?_
    refine zr_iald (N := 6) hX dX6_mean_84 rfl rfl h (fun h => ?_)
    refine zr_i2l hX dX6_mean_85 ?_
    refine zr_ldiv hX dX6_mean_86 h (fun h => ?_)
    refine zr_l2i hX dX6_mean_87 ?_
    refine zr_iconst hX dX6_mean_88 (zrl rfl) ?_
    refine zP_bind h (fun q3 hq3 h => ?_)
    refine zr_callV hX dX6_mean_89 (m_M_tells hq3) rfl rfl rfl (z5 ww_933 ww_935 ww_22 ww_77 ww_936) hy_X6_tells rfl (Nat.le_of_ble_eq_true rfl) (Nat.le_of_ble_eq_true rfl) (Nat.le_of_ble_eq_true rfl) ?_
    exact zr_iret hX dX6_mean_92 hF h
  · refine zr_lload_n hX dX6_mean_55 rfl rfl ?_
    refine zr_aload_n hX dX6_mean_56 rfl rfl ?_
    refine zr_getr hX dX6_mean_57 (k := 3) (q := 45) rfl rfl ww_854 rfl ?_
    refine zr_bipush hX dX6_mean_60 rfl ?_
    refine zr_iload_n hX dX6_mean_62 rfl rfl ?_
    refine zr_imul hX dX6_mean_63 ?_
    refine zr_iload hX dX6_mean_64 rfl ?_
    refine zr_iadd hX dX6_mean_66 ?_
    refine zr_iald (N := 240) hX dX6_mean_67 rfl rfl h (fun h => ?_)
    refine zr_i2l hX dX6_mean_68 ?_
    refine zr_ladd hX dX6_mean_69 ?_
    refine zr_lstore_n hX dX6_mean_70 rfl (Nat.le_of_ble_eq_true rfl) ?_
    refine zr_iinc hX dX6_mean_71 rfl (Nat.le_of_ble_eq_true rfl) ?_
    refine zr_goto hX dX6_mean_74 (tgt := 44) rfl ?_
    exact zW_lf (k_M_mean_44 h) (And.intro rfl (And.intro rfl (And.intro rfl (And.intro rfl trivial))))
set_option maxRecDepth 100000 in
set_option maxHeartbeats 4000000 in
theorem w_M_mean_e {X : zX} {G : zG} {v1 : Int} {μ : zM} {rv : Option zV} {ν : zM} (hX : zOk X G cX6_mean RX6 5 (some .int) 3) (hF : zFin X G rv ν) (h : zP (Sum.elim (k_M_mean X G v1) (fun r : (Int × zM) => (some (zI r.1), r.2) = (rv, ν))) (e_M_mean v1 μ)) : zW X G 5 0 [some (zR 42), some (zI v1), none, none, none] [] μ := by
  refine zr_iload_n hX dX6_mean_0 rfl rfl ?_
  refine zr_callS hX dX6_mean_1 (m_M_isRow) rfl (z4 ww_914 ww_915 ww_77 ww_916) hy_X6_isRow rfl (Nat.le_of_ble_eq_true rfl) (Nat.le_of_ble_eq_true rfl) (Nat.le_of_ble_eq_true rfl) ?_
  refine zr_ifne (tgt := 9) hX dX6_mean_4 rfl h (fun h => ?_) (fun h => ?_)
  · refine zr_aload_n hX dX6_mean_9 rfl rfl ?_
    refine zr_getr hX dX6_mean_10 (k := 4) (q := 46) rfl rfl ww_855 rfl ?_
    refine zr_iload_n hX dX6_mean_13 rfl rfl ?_
    refine zr_iald (N := 6) hX dX6_mean_14 rfl rfl h (fun h => ?_)
    refine zr_ifge (tgt := 24) hX dX6_mean_15 rfl h (fun h => ?_) (fun h => ?_)
    · refine zr_aload_n hX dX6_mean_24 rfl rfl ?_
      refine zr_getr hX dX6_mean_25 (k := 4) (q := 46) rfl rfl ww_855 rfl ?_
      refine zr_iload_n hX dX6_mean_28 rfl rfl ?_
      refine zr_iald (N := 6) hX dX6_mean_29 rfl rfl h (fun h => ?_)
      refine zr_ifne (tgt := 39) hX dX6_mean_30 rfl h (fun h => ?_) (fun h => ?_)
      · refine zr_lconst hX dX6_mean_39 (n := 0) rfl (zrlJ rfl) ?_
        refine zr_lstore_n hX dX6_mean_40 rfl (Nat.le_of_ble_eq_true rfl) ?_
        refine zr_iconst hX dX6_mean_41 (zrl rfl) ?_
        refine zr_istore hX dX6_mean_42 (Nat.le_of_ble_eq_true rfl) ?_
        exact zW_lf (k_M_mean_44 h) (And.intro rfl (And.intro rfl (And.intro rfl (And.intro rfl trivial))))
      · refine zr_aload_n hX dX6_mean_33 rfl rfl ?_
        refine zr_iconst hX dX6_mean_34 (zrl rfl) ?_
        refine zP_bind h (fun q1 hq1 h => ?_)
        refine zr_callV hX dX6_mean_35 (m_M_found hq1) rfl rfl rfl (z5 ww_921 ww_923 ww_21 ww_77 ww_924) hy_X6_found rfl (Nat.le_of_ble_eq_true rfl) (Nat.le_of_ble_eq_true rfl) (Nat.le_of_ble_eq_true rfl) ?_
        exact zr_iret hX dX6_mean_38 hF h
    · refine zr_aload_n hX dX6_mean_18 rfl rfl ?_
      refine zr_iconst hX dX6_mean_19 (zrl rfl) ?_
      refine zP_bind h (fun q2 hq2 h => ?_)
      refine zr_callV hX dX6_mean_20 (m_M_found hq2) rfl rfl rfl (z5 ww_921 ww_923 ww_21 ww_77 ww_924) hy_X6_found rfl (Nat.le_of_ble_eq_true rfl) (Nat.le_of_ble_eq_true rfl) (Nat.le_of_ble_eq_true rfl) ?_
      exact zr_iret hX dX6_mean_23 hF h
  · refine zr_iconst hX dX6_mean_7 (zrl rfl) ?_
    exact zr_iret hX dX6_mean_8 hF h
set_option maxRecDepth 100000 in
theorem m_M_mean {l : Launch} {G : zG} {v1 : Int} {μ : zM} {q : Int × zM} (hq : f_M_mean v1 μ = some q) : zCT l G yX6_mean cX6_mean 5 (some .int) 3 [zR 42, zI v1] μ (some (zI q.1)) q.2 := by
  refine zMet (lv := [some (zR 42), some (zI v1), none, none, none]) (k := 3) pl_X6 rfl (Nat.le_of_ble_eq_true rfl) (fun X hl hX hF _ _ => ?_)
  refine w_M_mean_e hX hF (zgo_K (r := q) (step := t_M_mean v1) (fun s h => ?_) rfl hq)
  exact w_M_mean_44 hX hF h
def k_M_text (X : zX) (G : zG) (v1 : Int) (v2 : Int) : (Int × zM) → Prop := fun s => zW X G 4 34 [some (zR 42), some (zI v1), some (zI v2), some (zI s.1)] [] s.2
theorem k_M_text_34 {X : zX} {G : zG} {v1 : Int} {v2 : Int} {F : (Int × zM) → Prop} {v3 : Int} {κ : zM} (h : zP (Sum.elim (k_M_text X G v1 v2) F) (some (.inl ((v3, κ))))) : zW X G 4 34 [some (zR 42), some (zI v1), some (zI v2), some (zI v3)] [] κ := h
set_option maxRecDepth 100000 in
set_option maxHeartbeats 4000000 in
theorem w_M_text_34 {X : zX} {G : zG} {v1 : Int} {v2 : Int} {μ : zM} {rv : Option zV} {ν : zM} (hX : zOk X G cX6_text RX6 4 (some .int) 3) (hF : zFin X G rv ν) {v3 : Int} (h : zP (Sum.elim (k_M_text X G v1 v2) (fun r : (Int × zM) => (some (zI r.1), r.2) = (rv, ν))) (b_M_text_34 v1 v2 v3 μ)) : zW X G 4 34 [some (zR 42), some (zI v1), some (zI v2), some (zI v3)] [] μ := by
  refine zr_iload_n hX dX6_text_34 rfl rfl ?_
  refine zr_bipush hX dX6_text_35 rfl ?_
  refine zr_icmpge (tgt := 59) hX dX6_text_37 rfl h (fun h => ?_) (fun h => ?_)
  · refine zr_iload_n hX dX6_text_59 rfl rfl ?_
    exact zr_iret hX dX6_text_60 hF h
  · refine zr_aload_n hX dX6_text_40 rfl rfl ?_
    refine zr_getr hX dX6_text_41 (k := 5) (q := 47) rfl rfl ww_856 rfl ?_
    refine zr_bipush hX dX6_text_44 rfl ?_
    refine zr_iload_n hX dX6_text_46 rfl rfl ?_
    refine zr_imul hX dX6_text_47 ?_
    refine zr_iload_n hX dX6_text_48 rfl rfl ?_
    refine zr_iadd hX dX6_text_49 ?_
    refine zr_bipush hX dX6_text_50 rfl ?_
    refine zr_iast (N := 240) hX dX6_text_52 rfl rfl h (fun h => ?_)
    refine zr_iinc hX dX6_text_53 rfl (Nat.le_of_ble_eq_true rfl) ?_
    refine zr_goto hX dX6_text_56 (tgt := 34) rfl ?_
    exact zW_lf (k_M_text_34 h) (And.intro rfl (And.intro rfl (And.intro rfl (And.intro rfl trivial))))
set_option maxRecDepth 100000 in
set_option maxHeartbeats 4000000 in
theorem w_M_text_e {X : zX} {G : zG} {v1 : Int} {v2 : Int} {μ : zM} {rv : Option zV} {ν : zM} (hX : zOk X G cX6_text RX6 4 (some .int) 3) (hF : zFin X G rv ν) (h : zP (Sum.elim (k_M_text X G v1 v2) (fun r : (Int × zM) => (some (zI r.1), r.2) = (rv, ν))) (e_M_text v1 v2 μ)) : zW X G 4 0 [some (zR 42), some (zI v1), some (zI v2), none] [] μ := by
  refine zr_iload_n hX dX6_text_0 rfl rfl ?_
  refine zr_callS hX dX6_text_1 (m_M_isText) rfl (z4 ww_957 ww_958 ww_77 ww_959) hy_X6_isText rfl (Nat.le_of_ble_eq_true rfl) (Nat.le_of_ble_eq_true rfl) (Nat.le_of_ble_eq_true rfl) ?_
  refine zr_ifeq (tgt := 13) hX dX6_text_4 rfl h (fun h => ?_) (fun h => ?_)
  · refine zr_iconst hX dX6_text_13 (zrl rfl) ?_
    exact zr_iret hX dX6_text_14 hF h
  · refine zr_iload_n hX dX6_text_7 rfl rfl ?_
    refine zr_bipush hX dX6_text_8 rfl ?_
    refine zr_icmple (tgt := 15) hX dX6_text_10 rfl h (fun h => ?_) (fun h => ?_)
    · refine zr_iload_n hX dX6_text_15 rfl rfl ?_
      refine zr_ifge (tgt := 25) hX dX6_text_16 rfl h (fun h => ?_) (fun h => ?_)
      · refine zr_aload_n hX dX6_text_25 rfl rfl ?_
        refine zr_getr hX dX6_text_26 (k := 6) (q := 48) rfl rfl ww_857 rfl ?_
        refine zr_iload_n hX dX6_text_29 rfl rfl ?_
        refine zr_iload_n hX dX6_text_30 rfl rfl ?_
        refine zr_iast (N := 4) hX dX6_text_31 rfl rfl h (fun h => ?_)
        refine zr_iconst hX dX6_text_32 (zrl rfl) ?_
        refine zr_istore_n hX dX6_text_33 rfl (Nat.le_of_ble_eq_true rfl) ?_
        exact zW_lf (k_M_text_34 h) (And.intro rfl (And.intro rfl (And.intro rfl (And.intro rfl trivial))))
      · refine zr_aload_n hX dX6_text_19 rfl rfl ?_
        refine zr_iconst hX dX6_text_20 (zrl rfl) ?_
        refine zP_bind h (fun q1 hq1 h => ?_)
        refine zr_callV hX dX6_text_21 (m_M_found hq1) rfl rfl rfl (z5 ww_921 ww_923 ww_21 ww_77 ww_924) hy_X6_found rfl (Nat.le_of_ble_eq_true rfl) (Nat.le_of_ble_eq_true rfl) (Nat.le_of_ble_eq_true rfl) ?_
        exact zr_iret hX dX6_text_24 hF h
    · refine zr_iconst hX dX6_text_13 (zrl rfl) ?_
      exact zr_iret hX dX6_text_14 hF h
set_option maxRecDepth 100000 in
theorem m_M_text {l : Launch} {G : zG} {v1 : Int} {v2 : Int} {μ : zM} {q : Int × zM} (hq : f_M_text v1 v2 μ = some q) : zCT l G yX6_text cX6_text 4 (some .int) 3 [zR 42, zI v1, zI v2] μ (some (zI q.1)) q.2 := by
  refine zMet (lv := [some (zR 42), some (zI v1), some (zI v2), none]) (k := 1) pl_X6 rfl (Nat.le_of_ble_eq_true rfl) (fun X hl hX hF _ _ => ?_)
  refine w_M_text_e hX hF (zgo_K (r := q) (step := t_M_text v1 v2) (fun s h => ?_) rfl hq)
  exact w_M_text_34 hX hF h
set_option maxRecDepth 100000 in
set_option maxHeartbeats 4000000 in
theorem w_M_put_e {X : zX} {G : zG} {v1 : Int} {v2 : Int} {v3 : Int} {μ : zM} {rv : Option zV} {ν : zM} (hX : zOk X G cX6_put RX6 5 (some .int) 3) (hF : zFin X G rv ν) (h : zP (fun r : (Int × zM) => (some (zI r.1), r.2) = (rv, ν)) (f_M_put v1 v2 v3 μ)) : zW X G 5 0 [some (zR 42), some (zI v1), some (zI v2), some (zI v3), none] [] μ := by
  refine zr_iload_n hX dX6_put_0 rfl rfl ?_
  refine zr_callS hX dX6_put_1 (m_M_isText) rfl (z4 ww_957 ww_958 ww_77 ww_959) hy_X6_isText rfl (Nat.le_of_ble_eq_true rfl) (Nat.le_of_ble_eq_true rfl) (Nat.le_of_ble_eq_true rfl) ?_
  refine zr_ifne (tgt := 9) hX dX6_put_4 rfl h (fun h => ?_) (fun h => ?_)
  · refine zr_aload_n hX dX6_put_9 rfl rfl ?_
    refine zr_getr hX dX6_put_10 (k := 6) (q := 48) rfl rfl ww_857 rfl ?_
    refine zr_iload_n hX dX6_put_13 rfl rfl ?_
    refine zr_iald (N := 4) hX dX6_put_14 rfl rfl h (fun h => ?_)
    refine zr_ifge (tgt := 24) hX dX6_put_15 rfl h (fun h => ?_) (fun h => ?_)
    · refine zr_iload_n hX dX6_put_24 rfl rfl ?_
      refine zr_i2l hX dX6_put_25 ?_
      refine zr_lconst hX dX6_put_26 (n := 0) rfl (zrlJ rfl) ?_
      refine zr_aload_n hX dX6_put_27 rfl rfl ?_
      refine zr_getr hX dX6_put_28 (k := 6) (q := 48) rfl rfl ww_857 rfl ?_
      refine zr_iload_n hX dX6_put_31 rfl rfl ?_
      refine zr_iald (N := 4) hX dX6_put_32 rfl rfl h (fun h => ?_)
      refine zr_iconst hX dX6_put_33 (zrl rfl) ?_
      refine zr_isub hX dX6_put_34 ?_
      refine zr_i2l hX dX6_put_35 ?_
      refine zr_callS hX dX6_put_36 (m_M_in) rfl (z4 ww_918 ww_919 ww_77 ww_920) hy_X6_in rfl (Nat.le_of_ble_eq_true rfl) (Nat.le_of_ble_eq_true rfl) (Nat.le_of_ble_eq_true rfl) ?_
      refine zr_ifne (tgt := 48) hX dX6_put_39 rfl h (fun h => ?_) (fun h => ?_)
      · refine zr_aload_n hX dX6_put_48 rfl rfl ?_
        refine zr_getr hX dX6_put_49 (k := 5) (q := 47) rfl rfl ww_856 rfl ?_
        refine zr_bipush hX dX6_put_52 rfl ?_
        refine zr_iload_n hX dX6_put_54 rfl rfl ?_
        refine zr_imul hX dX6_put_55 ?_
        refine zr_iload_n hX dX6_put_56 rfl rfl ?_
        refine zr_iadd hX dX6_put_57 ?_
        refine zr_iald (N := 240) hX dX6_put_58 rfl rfl h (fun h => ?_)
        refine zr_istore hX dX6_put_59 (Nat.le_of_ble_eq_true rfl) ?_
        refine zr_aload_n hX dX6_put_61 rfl rfl ?_
        refine zr_getr hX dX6_put_62 (k := 5) (q := 47) rfl rfl ww_856 rfl ?_
        refine zr_bipush hX dX6_put_65 rfl ?_
        refine zr_iload_n hX dX6_put_67 rfl rfl ?_
        refine zr_imul hX dX6_put_68 ?_
        refine zr_iload_n hX dX6_put_69 rfl rfl ?_
        refine zr_iadd hX dX6_put_70 ?_
        refine zr_iload_n hX dX6_put_71 rfl rfl ?_
        refine zr_i2b hX dX6_put_72 ?_
        refine zr_iast (N := 240) hX dX6_put_73 rfl rfl h (fun h => ?_)
        refine zr_iload hX dX6_put_74 rfl ?_
        refine zr_sipush hX dX6_put_76 rfl ?_
        refine zr_iadd hX dX6_put_79 ?_
        exact zr_iret hX dX6_put_80 hF h
      · refine zr_aload_n hX dX6_put_42 rfl rfl ?_
        refine zr_iconst hX dX6_put_43 (zrl rfl) ?_
        refine zP_bind h (fun q1 hq1 h => ?_)
        refine zr_callV hX dX6_put_44 (m_M_found hq1) rfl rfl rfl (z5 ww_921 ww_923 ww_21 ww_77 ww_924) hy_X6_found rfl (Nat.le_of_ble_eq_true rfl) (Nat.le_of_ble_eq_true rfl) (Nat.le_of_ble_eq_true rfl) ?_
        exact zr_iret hX dX6_put_47 hF h
    · refine zr_aload_n hX dX6_put_18 rfl rfl ?_
      refine zr_iconst hX dX6_put_19 (zrl rfl) ?_
      refine zP_bind h (fun q2 hq2 h => ?_)
      refine zr_callV hX dX6_put_20 (m_M_found hq2) rfl rfl rfl (z5 ww_921 ww_923 ww_21 ww_77 ww_924) hy_X6_found rfl (Nat.le_of_ble_eq_true rfl) (Nat.le_of_ble_eq_true rfl) (Nat.le_of_ble_eq_true rfl) ?_
      exact zr_iret hX dX6_put_23 hF h
  · refine zr_iconst hX dX6_put_7 (zrl rfl) ?_
    exact zr_iret hX dX6_put_8 hF h
set_option maxRecDepth 100000 in
theorem m_M_put {l : Launch} {G : zG} {v1 : Int} {v2 : Int} {v3 : Int} {μ : zM} {q : Int × zM} (hq : f_M_put v1 v2 v3 μ = some q) : zCT l G yX6_put cX6_put 5 (some .int) 3 [zR 42, zI v1, zI v2, zI v3] μ (some (zI q.1)) q.2 := by
  refine zMet (lv := [some (zR 42), some (zI v1), some (zI v2), some (zI v3), none]) (k := 1) pl_X6 rfl (Nat.le_of_ble_eq_true rfl) (fun X hl hX hF _ _ => ?_)
  exact w_M_put_e hX hF (zP_of hq rfl)
set_option maxRecDepth 100000 in
set_option maxHeartbeats 4000000 in
theorem w_M_kindOf_e {X : zX} {G : zG} {v0 : Int} {μ : zM} {rv : Option zV} {ν : zM} (hX : zOk X G cX6_kindOf RX6 1 (some .int) 1) (hF : zFin X G rv ν) (h : zP (fun r : Int => (some (zI r), μ) = (rv, ν)) (fo_M_kindOf v0)) : zW X G 1 0 [some (zI v0)] [] μ := by
  refine zr_iload_n hX dX6_kindOf_0 rfl rfl ?_
  refine zr_bipush hX dX6_kindOf_1 rfl ?_
  refine zr_icmpne (tgt := 10) hX dX6_kindOf_3 rfl h (fun h => ?_) (fun h => ?_)
  · refine zr_iload_n hX dX6_kindOf_10 rfl rfl ?_
    refine zr_bipush hX dX6_kindOf_11 rfl ?_
    refine zr_icmpne (tgt := 20) hX dX6_kindOf_13 rfl h (fun h => ?_) (fun h => ?_)
    · refine zr_iload_n hX dX6_kindOf_20 rfl rfl ?_
      refine zr_bipush hX dX6_kindOf_21 rfl ?_
      refine zr_icmpne (tgt := 30) hX dX6_kindOf_23 rfl h (fun h => ?_) (fun h => ?_)
      · refine zr_iload_n hX dX6_kindOf_30 rfl rfl ?_
        refine zr_bipush hX dX6_kindOf_31 rfl ?_
        refine zr_icmpne (tgt := 40) hX dX6_kindOf_33 rfl h (fun h => ?_) (fun h => ?_)
        · refine zr_iload_n hX dX6_kindOf_40 rfl rfl ?_
          refine zr_bipush hX dX6_kindOf_41 rfl ?_
          refine zr_icmpne (tgt := 50) hX dX6_kindOf_43 rfl h (fun h => ?_) (fun h => ?_)
          · refine zr_iload_n hX dX6_kindOf_50 rfl rfl ?_
            refine zr_bipush hX dX6_kindOf_51 rfl ?_
            refine zr_icmpne (tgt := 60) hX dX6_kindOf_53 rfl h (fun h => ?_) (fun h => ?_)
            · refine zr_iconst hX dX6_kindOf_60 (zrl rfl) ?_
              exact zr_iret hX dX6_kindOf_61 hF h
            · refine zr_iconst hX dX6_kindOf_56 (zrl rfl) ?_
              refine zr_goto hX dX6_kindOf_57 (tgt := 61) rfl ?_
              exact zr_iret hX dX6_kindOf_61 hF h
          · refine zr_iconst hX dX6_kindOf_46 (zrl rfl) ?_
            refine zr_goto hX dX6_kindOf_47 (tgt := 61) rfl ?_
            exact zr_iret hX dX6_kindOf_61 hF h
        · refine zr_iconst hX dX6_kindOf_36 (zrl rfl) ?_
          refine zr_goto hX dX6_kindOf_37 (tgt := 61) rfl ?_
          exact zr_iret hX dX6_kindOf_61 hF h
      · refine zr_iconst hX dX6_kindOf_26 (zrl rfl) ?_
        refine zr_goto hX dX6_kindOf_27 (tgt := 61) rfl ?_
        exact zr_iret hX dX6_kindOf_61 hF h
    · refine zr_iconst hX dX6_kindOf_16 (zrl rfl) ?_
      refine zr_goto hX dX6_kindOf_17 (tgt := 61) rfl ?_
      exact zr_iret hX dX6_kindOf_61 hF h
  · refine zr_iconst hX dX6_kindOf_6 (zrl rfl) ?_
    refine zr_goto hX dX6_kindOf_7 (tgt := 61) rfl ?_
    exact zr_iret hX dX6_kindOf_61 hF h
set_option maxRecDepth 100000 in
theorem m_M_kindOf {l : Launch} {G : zG} {v0 : Int} {μ : zM} : zCT l G yX6_kindOf cX6_kindOf 1 (some .int) 1 [zI v0] μ (some (zI (f_M_kindOf v0))) μ := by
  refine zMet (lv := [some (zI v0)]) (k := 0) pl_X6 rfl (Nat.le_of_ble_eq_true rfl) (fun X hl hX hF _ _ => ?_)
  exact w_M_kindOf_e hX hF (by rw [fo_M_kindOf_eq]; rfl)
def k_M_housesOf (X : zX) (G : zG) (v1 : Int) (μ : zM) : (Int × Int) → Prop := fun s => zW X G 4 4 [some (zR 42), some (zI v1), some (zI s.1), some (zI s.2)] [] μ
theorem k_M_housesOf_4 {X : zX} {G : zG} {v1 : Int} {μ : zM} {F : Int → Prop} {v2 v3 : Int} (h : zP (Sum.elim (k_M_housesOf X G v1 μ) F) (some (.inl ((v2, v3))))) : zW X G 4 4 [some (zR 42), some (zI v1), some (zI v2), some (zI v3)] [] μ := h
set_option maxRecDepth 100000 in
set_option maxHeartbeats 4000000 in
theorem w_M_housesOf_4 {X : zX} {G : zG} {v1 : Int} {μ : zM} {rv : Option zV} {ν : zM} (hX : zOk X G cX6_housesOf RX6 4 (some .int) 1) (hF : zFin X G rv ν) {v2 v3 : Int} (h : zP (Sum.elim (k_M_housesOf X G v1 μ) (fun r : Int => (some (zI r), μ) = (rv, ν))) (b_M_housesOf_4 v1 v2 v3 μ)) : zW X G 4 4 [some (zR 42), some (zI v1), some (zI v2), some (zI v3)] [] μ := by
  refine zr_iload_n hX dX6_housesOf_4 rfl rfl ?_
  refine zr_aload_n hX dX6_housesOf_5 rfl rfl ?_
  refine zr_getr hX dX6_housesOf_6 (k := 0) (q := 43) rfl rfl ww_851 rfl ?_
  refine zr_iload_n hX dX6_housesOf_9 rfl rfl ?_
  refine zr_iconst hX dX6_housesOf_10 (zrl rfl) ?_
  refine zr_iadd hX dX6_housesOf_11 ?_
  refine zr_iald (N := 10956) hX dX6_housesOf_12 rfl rfl h (fun h => ?_)
  refine zr_icmpge (tgt := 35) hX dX6_housesOf_13 rfl h (fun h => ?_) (fun h => ?_)
  · refine zr_iload_n hX dX6_housesOf_35 rfl rfl ?_
    exact zr_iret hX dX6_housesOf_36 hF h
  · refine zr_iload_n hX dX6_housesOf_16 rfl rfl ?_
    refine zr_aload_n hX dX6_housesOf_17 rfl rfl ?_
    refine zr_getr hX dX6_housesOf_18 (k := 0) (q := 43) rfl rfl ww_851 rfl ?_
    refine zr_iload_n hX dX6_housesOf_21 rfl rfl ?_
    refine zr_iconst hX dX6_housesOf_22 (zrl rfl) ?_
    refine zr_iadd hX dX6_housesOf_23 ?_
    refine zr_iload_n hX dX6_housesOf_24 rfl rfl ?_
    refine zr_iadd hX dX6_housesOf_25 ?_
    refine zr_iald (N := 10956) hX dX6_housesOf_26 rfl rfl h (fun h => ?_)
    refine zr_iadd hX dX6_housesOf_27 ?_
    refine zr_istore_n hX dX6_housesOf_28 rfl (Nat.le_of_ble_eq_true rfl) ?_
    refine zr_iinc hX dX6_housesOf_29 rfl (Nat.le_of_ble_eq_true rfl) ?_
    refine zr_goto hX dX6_housesOf_32 (tgt := 4) rfl ?_
    exact zW_lf (k_M_housesOf_4 h) (And.intro rfl (And.intro rfl (And.intro rfl (And.intro rfl trivial))))
set_option maxRecDepth 100000 in
set_option maxHeartbeats 4000000 in
theorem w_M_housesOf_e {X : zX} {G : zG} {v1 : Int} {μ : zM} {rv : Option zV} {ν : zM} (hX : zOk X G cX6_housesOf RX6 4 (some .int) 1) (hF : zFin X G rv ν) (h : zP (Sum.elim (k_M_housesOf X G v1 μ) (fun r : Int => (some (zI r), μ) = (rv, ν))) (e_M_housesOf v1 μ)) : zW X G 4 0 [some (zR 42), some (zI v1), none, none] [] μ := by
  refine zr_iconst hX dX6_housesOf_0 (zrl rfl) ?_
  refine zr_istore_n hX dX6_housesOf_1 rfl (Nat.le_of_ble_eq_true rfl) ?_
  refine zr_iconst hX dX6_housesOf_2 (zrl rfl) ?_
  refine zr_istore_n hX dX6_housesOf_3 rfl (Nat.le_of_ble_eq_true rfl) ?_
  exact zW_lf (k_M_housesOf_4 h) (And.intro rfl (And.intro rfl (And.intro rfl (And.intro rfl trivial))))
set_option maxRecDepth 100000 in
theorem m_M_housesOf {l : Launch} {G : zG} {v1 : Int} {μ : zM} {q : Int} (hq : f_M_housesOf v1 μ = some q) : zCT l G yX6_housesOf cX6_housesOf 4 (some .int) 1 [zR 42, zI v1] μ (some (zI q)) μ := by
  refine zMet (lv := [some (zR 42), some (zI v1), none, none]) (k := 2) pl_X6 rfl (Nat.le_of_ble_eq_true rfl) (fun X hl hX hF _ _ => ?_)
  refine w_M_housesOf_e hX hF (zgo_K (r := q) (step := t_M_housesOf v1 μ) (fun s h => ?_) rfl hq)
  exact w_M_housesOf_4 hX hF h
set_option maxRecDepth 100000 in
set_option maxHeartbeats 4000000 in
theorem w_M_byteAt_e {X : zX} {G : zG} {v1 : Int} {v2 : Int} {μ : zM} {rv : Option zV} {ν : zM} (hX : zOk X G cX6_byteAt RX6 3 (some .int) 1) (hF : zFin X G rv ν) (h : zP (fun r : Int => (some (zI r), μ) = (rv, ν)) (f_M_byteAt v1 v2 μ)) : zW X G 3 0 [some (zR 42), some (zI v1), some (zI v2)] [] μ := by
  refine zr_iload_n hX dX6_byteAt_0 rfl rfl ?_
  refine zr_aload_n hX dX6_byteAt_1 rfl rfl ?_
  refine zr_getr hX dX6_byteAt_2 (k := 6) (q := 48) rfl rfl ww_857 rfl ?_
  refine zr_iload_n hX dX6_byteAt_5 rfl rfl ?_
  refine zr_iald (N := 4) hX dX6_byteAt_6 rfl rfl h (fun h => ?_)
  refine zr_icmpge (tgt := 24) hX dX6_byteAt_7 rfl h (fun h => ?_) (fun h => ?_)
  · refine zr_sipush hX dX6_byteAt_24 rfl ?_
    exact zr_iret hX dX6_byteAt_27 hF h
  · refine zr_aload_n hX dX6_byteAt_10 rfl rfl ?_
    refine zr_getr hX dX6_byteAt_11 (k := 5) (q := 47) rfl rfl ww_856 rfl ?_
    refine zr_bipush hX dX6_byteAt_14 rfl ?_
    refine zr_iload_n hX dX6_byteAt_16 rfl rfl ?_
    refine zr_imul hX dX6_byteAt_17 ?_
    refine zr_iload_n hX dX6_byteAt_18 rfl rfl ?_
    refine zr_iadd hX dX6_byteAt_19 ?_
    refine zr_iald (N := 240) hX dX6_byteAt_20 rfl rfl h (fun h => ?_)
    refine zr_goto hX dX6_byteAt_21 (tgt := 27) rfl ?_
    exact zr_iret hX dX6_byteAt_27 hF h
set_option maxRecDepth 100000 in
theorem m_M_byteAt {l : Launch} {G : zG} {v1 : Int} {v2 : Int} {μ : zM} {q : Int} (hq : f_M_byteAt v1 v2 μ = some q) : zCT l G yX6_byteAt cX6_byteAt 3 (some .int) 1 [zR 42, zI v1, zI v2] μ (some (zI q)) μ := by
  refine zMet (lv := [some (zR 42), some (zI v1), some (zI v2)]) (k := 0) pl_X6 rfl (Nat.le_of_ble_eq_true rfl) (fun X hl hX hF _ _ => ?_)
  exact w_M_byteAt_e hX hF (zP_of hq rfl)
set_option maxRecDepth 100000 in
set_option maxHeartbeats 4000000 in
theorem w_M_adds_e {X : zX} {G : zG} {v1 : Int} {v2 : Int} {v3 : Int} {v4 : Int} {μ : zM} {rv : Option zV} {ν : zM} (hX : zOk X G cX6_adds RX6 6 none 1) (hF : zFin X G rv ν) (h : zP (fun r : zM => ((none : Option zV), r) = (rv, ν)) (f_M_adds v1 v2 v3 v4 μ)) : zW X G 6 0 [some (zR 42), some (zI v1), some (zI v2), some (zI v3), some (zI v4), none] [] μ := by
  refine zr_aload_n hX dX6_adds_0 rfl rfl ?_
  refine zr_getr hX dX6_adds_1 (k := 0) (q := 43) rfl rfl ww_851 rfl ?_
  refine zr_iload_n hX dX6_adds_4 rfl rfl ?_
  refine zr_iconst hX dX6_adds_5 (zrl rfl) ?_
  refine zr_iadd hX dX6_adds_6 ?_
  refine zr_iload_n hX dX6_adds_7 rfl rfl ?_
  refine zr_iadd hX dX6_adds_8 ?_
  refine zr_iald (N := 10956) hX dX6_adds_9 rfl rfl h (fun h => ?_)
  refine zr_istore hX dX6_adds_10 (Nat.le_of_ble_eq_true rfl) ?_
  refine zr_aload_n hX dX6_adds_12 rfl rfl ?_
  refine zr_getr hX dX6_adds_13 (k := 0) (q := 43) rfl rfl ww_851 rfl ?_
  refine zr_iload_n hX dX6_adds_16 rfl rfl ?_
  refine zr_bipush hX dX6_adds_17 rfl ?_
  refine zr_iadd hX dX6_adds_19 ?_
  refine zr_bipush hX dX6_adds_20 rfl ?_
  refine zr_iload_n hX dX6_adds_22 rfl rfl ?_
  refine zr_imul hX dX6_adds_23 ?_
  refine zr_iadd hX dX6_adds_24 ?_
  refine zr_iload hX dX6_adds_25 rfl ?_
  refine zr_iadd hX dX6_adds_27 ?_
  refine zr_iload_n hX dX6_adds_28 rfl rfl ?_
  refine zr_iast (N := 10956) hX dX6_adds_29 rfl rfl h (fun h => ?_)
  refine zr_aload_n hX dX6_adds_30 rfl rfl ?_
  refine zr_getr hX dX6_adds_31 (k := 0) (q := 43) rfl rfl ww_851 rfl ?_
  refine zr_iload_n hX dX6_adds_34 rfl rfl ?_
  refine zr_bipush hX dX6_adds_35 rfl ?_
  refine zr_iadd hX dX6_adds_37 ?_
  refine zr_bipush hX dX6_adds_38 rfl ?_
  refine zr_iload_n hX dX6_adds_40 rfl rfl ?_
  refine zr_imul hX dX6_adds_41 ?_
  refine zr_iadd hX dX6_adds_42 ?_
  refine zr_iload hX dX6_adds_43 rfl ?_
  refine zr_iadd hX dX6_adds_45 ?_
  refine zr_iload hX dX6_adds_46 rfl ?_
  refine zr_iast (N := 10956) hX dX6_adds_48 rfl rfl h (fun h => ?_)
  refine zr_aload_n hX dX6_adds_49 rfl rfl ?_
  refine zr_getr hX dX6_adds_50 (k := 0) (q := 43) rfl rfl ww_851 rfl ?_
  refine zr_iload_n hX dX6_adds_53 rfl rfl ?_
  refine zr_iconst hX dX6_adds_54 (zrl rfl) ?_
  refine zr_iadd hX dX6_adds_55 ?_
  refine zr_iload_n hX dX6_adds_56 rfl rfl ?_
  refine zr_iadd hX dX6_adds_57 ?_
  refine zr_dup2 hX dX6_adds_58 rfl rfl ?_
  refine zr_iald (N := 10956) hX dX6_adds_59 rfl rfl h (fun h => ?_)
  refine zr_iconst hX dX6_adds_60 (zrl rfl) ?_
  refine zr_iadd hX dX6_adds_61 ?_
  refine zr_iast (N := 10956) hX dX6_adds_62 rfl rfl h (fun h => ?_)
  exact zr_vret hX dX6_adds_63 hF h
set_option maxRecDepth 100000 in
theorem m_M_adds {l : Launch} {G : zG} {v1 : Int} {v2 : Int} {v3 : Int} {v4 : Int} {μ : zM} {q : zM} (hq : f_M_adds v1 v2 v3 v4 μ = some q) : zCT l G yX6_adds cX6_adds 6 none 1 [zR 42, zI v1, zI v2, zI v3, zI v4] μ (none) q := by
  refine zMet (lv := [some (zR 42), some (zI v1), some (zI v2), some (zI v3), some (zI v4), none]) (k := 1) pl_X6 rfl (Nat.le_of_ble_eq_true rfl) (fun X hl hX hF _ _ => ?_)
  exact w_M_adds_e hX hF (zP_of hq rfl)
def k_M_faultOf (X : zX) (G : zG) (v1 : Int) : ((Int × zM) ⊕ (Int × zM)) → Prop := fun s => match s with
  | .inl (s) => zW X G 6 2 [some (zR 42), some (zI v1), some (zI s.1), none, none, none] [] s.2
  | .inr (s) => zW X G 6 27 [some (zR 42), some (zI v1), some (zI s.1), none, none, none] [] s.2
theorem k_M_faultOf_2 {X : zX} {G : zG} {v1 : Int} {F : (Int × zM) → Prop} {v2 : Int} {κ : zM} (h : zP (Sum.elim (k_M_faultOf X G v1) F) (some (.inl (.inl ((v2, κ)))))) : zW X G 6 2 [some (zR 42), some (zI v1), some (zI v2), none, none, none] [] κ := h
theorem k_M_faultOf_27 {X : zX} {G : zG} {v1 : Int} {F : (Int × zM) → Prop} {v2 : Int} {κ : zM} (h : zP (Sum.elim (k_M_faultOf X G v1) F) (some (.inl (.inr ((v2, κ)))))) : zW X G 6 27 [some (zR 42), some (zI v1), some (zI v2), none, none, none] [] κ := h
set_option maxRecDepth 100000 in
set_option maxHeartbeats 4000000 in
theorem w_M_faultOf_2 {X : zX} {G : zG} {v1 : Int} {μ : zM} {rv : Option zV} {ν : zM} (hX : zOk X G cX6_faultOf RX6 6 (some .int) 2) (hF : zFin X G rv ν) {v2 : Int} (h : zP (Sum.elim (k_M_faultOf X G v1) (fun r : (Int × zM) => (some (zI r.1), r.2) = (rv, ν))) (b_M_faultOf_2 v1 v2 μ)) : zW X G 6 2 [some (zR 42), some (zI v1), some (zI v2), none, none, none] [] μ := by
  refine zr_iload_n hX dX6_faultOf_2 rfl rfl ?_
  refine zr_bipush hX dX6_faultOf_3 rfl ?_
  refine zr_icmpge (tgt := 25) hX dX6_faultOf_5 rfl h (fun h => ?_) (fun h => ?_)
  · refine zr_iconst hX dX6_faultOf_25 (zrl rfl) ?_
    refine zr_istore_n hX dX6_faultOf_26 rfl (Nat.le_of_ble_eq_true rfl) ?_
    exact zW_lf (k_M_faultOf_27 h) (And.intro rfl (And.intro rfl (And.intro rfl trivial)))
  · refine zr_aload_n hX dX6_faultOf_8 rfl rfl ?_
    refine zr_getr hX dX6_faultOf_9 (k := 0) (q := 43) rfl rfl ww_851 rfl ?_
    refine zr_sipush hX dX6_faultOf_12 rfl ?_
    refine zr_iload_n hX dX6_faultOf_15 rfl rfl ?_
    refine zr_iadd hX dX6_faultOf_16 ?_
    refine zr_iconst hX dX6_faultOf_17 (zrl rfl) ?_
    refine zr_iast (N := 10956) hX dX6_faultOf_18 rfl rfl h (fun h => ?_)
    refine zr_iinc hX dX6_faultOf_19 rfl (Nat.le_of_ble_eq_true rfl) ?_
    refine zr_goto hX dX6_faultOf_22 (tgt := 2) rfl ?_
    exact zW_lf (k_M_faultOf_2 h) (And.intro rfl (And.intro rfl (And.intro rfl trivial)))
set_option maxRecDepth 100000 in
set_option maxHeartbeats 4000000 in
theorem w_M_faultOf_27 {X : zX} {G : zG} {v1 : Int} {μ : zM} {rv : Option zV} {ν : zM} (hX : zOk X G cX6_faultOf RX6 6 (some .int) 2) (hF : zFin X G rv ν) {v2 : Int} (h : zP (Sum.elim (k_M_faultOf X G v1) (fun r : (Int × zM) => (some (zI r.1), r.2) = (rv, ν))) (b_M_faultOf_27 v1 v2 μ)) : zW X G 6 27 [some (zR 42), some (zI v1), some (zI v2), none, none, none] [] μ := by
  refine zr_iload_n hX dX6_faultOf_27 rfl rfl ?_
  refine zr_aload_n hX dX6_faultOf_28 rfl rfl ?_
  refine zr_getr hX dX6_faultOf_29 (k := 6) (q := 48) rfl rfl ww_857 rfl ?_
  refine zr_iload_n hX dX6_faultOf_32 rfl rfl ?_
  refine zr_iald (N := 4) hX dX6_faultOf_33 rfl rfl h (fun h => ?_)
  refine zr_icmpge (tgt := 187) hX dX6_faultOf_34 rfl h (fun h => ?_) (fun h => ?_)
  · refine zr_aload_n hX dX6_faultOf_187 rfl rfl ?_
    refine zr_getr hX dX6_faultOf_188 (k := 0) (q := 43) rfl rfl ww_851 rfl ?_
    refine zr_sipush hX dX6_faultOf_191 rfl ?_
    refine zr_ialdc hX dX6_faultOf_194 (N := 10956) rfl rfl rfl ?_
    refine zr_ifne (tgt := 207) hX dX6_faultOf_195 rfl h (fun h => ?_) (fun h => ?_)
    · refine zr_bipush hX dX6_faultOf_207 rfl ?_
      exact zr_iret hX dX6_faultOf_209 hF h
    · refine zr_aload_n hX dX6_faultOf_198 rfl rfl ?_
      refine zr_getr hX dX6_faultOf_199 (k := 6) (q := 48) rfl rfl ww_857 rfl ?_
      refine zr_iload_n hX dX6_faultOf_202 rfl rfl ?_
      refine zr_iald (N := 4) hX dX6_faultOf_203 rfl rfl h (fun h => ?_)
      refine zr_goto hX dX6_faultOf_204 (tgt := 209) rfl ?_
      exact zr_iret hX dX6_faultOf_209 hF h
  · refine zr_aload_n hX dX6_faultOf_37 rfl rfl ?_
    refine zr_iload_n hX dX6_faultOf_38 rfl rfl ?_
    refine zr_iload_n hX dX6_faultOf_39 rfl rfl ?_
    refine zP_bind h (fun q1 hq1 h => ?_)
    refine zr_callV hX dX6_faultOf_40 (m_M_byteAt hq1) rfl rfl rfl (z5 ww_973 ww_975 ww_24 ww_77 ww_976) hy_X6_byteAt rfl (Nat.le_of_ble_eq_true rfl) (Nat.le_of_ble_eq_true rfl) (Nat.le_of_ble_eq_true rfl) ?_
    refine zr_istore_n hX dX6_faultOf_43 rfl (Nat.le_of_ble_eq_true rfl) ?_
    refine zr_iload_n hX dX6_faultOf_44 rfl rfl ?_
    refine zr_callS hX dX6_faultOf_45 (m_M_kindOf) rfl (z4 ww_977 ww_978 ww_77 ww_979) hy_X6_kindOf rfl (Nat.le_of_ble_eq_true rfl) (Nat.le_of_ble_eq_true rfl) (Nat.le_of_ble_eq_true rfl) ?_
    refine zr_istore hX dX6_faultOf_48 (Nat.le_of_ble_eq_true rfl) ?_
    refine zr_aload_n hX dX6_faultOf_50 rfl rfl ?_
    refine zr_getr hX dX6_faultOf_51 (k := 0) (q := 43) rfl rfl ww_851 rfl ?_
    refine zr_sipush hX dX6_faultOf_54 rfl ?_
    refine zr_ialdc hX dX6_faultOf_57 (N := 10956) rfl rfl rfl ?_
    refine zr_iconst hX dX6_faultOf_58 (zrl rfl) ?_
    refine zr_isub hX dX6_faultOf_59 ?_
    refine zr_istore hX dX6_faultOf_60 (Nat.le_of_ble_eq_true rfl) ?_
    refine zr_iload_n hX dX6_faultOf_62 rfl rfl ?_
    refine zr_bipush hX dX6_faultOf_63 rfl ?_
    refine zr_icmpne (tgt := 91) hX dX6_faultOf_65 rfl h (fun h => ?_) (fun h => ?_)
    · refine zr_iload_n hX dX6_faultOf_91 rfl rfl ?_
      refine zr_bipush hX dX6_faultOf_92 rfl ?_
      refine zr_icmpeq (tgt := 181) hX dX6_faultOf_94 rfl h (fun h => ?_) (fun h => ?_)
      · refine zr_iinc hX dX6_faultOf_181 rfl (Nat.le_of_ble_eq_true rfl) ?_
        refine zr_goto hX dX6_faultOf_184 (tgt := 27) rfl ?_
        exact zW_lf (k_M_faultOf_27 h) (And.intro rfl (And.intro rfl (And.intro rfl trivial)))
      · refine zr_iload hX dX6_faultOf_97 rfl ?_
        refine zr_iflt (tgt := 135) hX dX6_faultOf_99 rfl h (fun h => ?_) (fun h => ?_)
        · refine zr_iload_n hX dX6_faultOf_135 rfl rfl ?_
          exact zr_iret hX dX6_faultOf_136 hF h
        · refine zr_iload hX dX6_faultOf_102 rfl ?_
          refine zr_iflt (tgt := 135) hX dX6_faultOf_104 rfl h (fun h => ?_) (fun h => ?_)
          · refine zr_iload_n hX dX6_faultOf_135 rfl rfl ?_
            exact zr_iret hX dX6_faultOf_136 hF h
          · refine zr_aload_n hX dX6_faultOf_107 rfl rfl ?_
            refine zr_getr hX dX6_faultOf_108 (k := 0) (q := 43) rfl rfl ww_851 rfl ?_
            refine zr_sipush hX dX6_faultOf_111 rfl ?_
            refine zr_iload hX dX6_faultOf_114 rfl ?_
            refine zr_iadd hX dX6_faultOf_116 ?_
            refine zr_iald (N := 10956) hX dX6_faultOf_117 rfl rfl h (fun h => ?_)
            refine zr_bipush hX dX6_faultOf_118 rfl ?_
            refine zr_icmpeq (tgt := 135) hX dX6_faultOf_120 rfl h (fun h => ?_) (fun h => ?_)
            · refine zr_iload_n hX dX6_faultOf_135 rfl rfl ?_
              exact zr_iret hX dX6_faultOf_136 hF h
            · refine zr_aload_n hX dX6_faultOf_123 rfl rfl ?_
              refine zr_sipush hX dX6_faultOf_124 rfl ?_
              refine zP_bind h (fun q2 hq2 h => ?_)
              refine zr_callV hX dX6_faultOf_127 (m_M_housesOf hq2) rfl rfl rfl (z5 ww_980 ww_982 ww_25 ww_77 ww_983) hy_X6_housesOf rfl (Nat.le_of_ble_eq_true rfl) (Nat.le_of_ble_eq_true rfl) (Nat.le_of_ble_eq_true rfl) ?_
              refine zr_bipush hX dX6_faultOf_130 rfl ?_
              refine zr_icmpne (tgt := 137) hX dX6_faultOf_132 rfl h (fun h => ?_) (fun h => ?_)
              · refine zr_iinc hX dX6_faultOf_137 rfl (Nat.le_of_ble_eq_true rfl) ?_
                refine zr_aload_n hX dX6_faultOf_140 rfl rfl ?_
                refine zr_iload_n hX dX6_faultOf_141 rfl rfl ?_
                refine zr_iload_n hX dX6_faultOf_142 rfl rfl ?_
                refine zP_bind h (fun q3 hq3 h => ?_)
                refine zr_callV hX dX6_faultOf_143 (m_M_byteAt hq3) rfl rfl rfl (z5 ww_973 ww_975 ww_24 ww_77 ww_976) hy_X6_byteAt rfl (Nat.le_of_ble_eq_true rfl) (Nat.le_of_ble_eq_true rfl) (Nat.le_of_ble_eq_true rfl) ?_
                refine zr_i2l hX dX6_faultOf_146 ?_
                refine zr_ldc2 hX dX6_faultOf_147 ww_984 rfl (zrlJ rfl) ?_
                refine zr_ldc2 hX dX6_faultOf_150 ww_985 rfl (zrlJ rfl) ?_
                refine zr_callS hX dX6_faultOf_153 (m_M_in) rfl (z4 ww_918 ww_919 ww_77 ww_920) hy_X6_in rfl (Nat.le_of_ble_eq_true rfl) (Nat.le_of_ble_eq_true rfl) (Nat.le_of_ble_eq_true rfl) ?_
                refine zr_ifne (tgt := 161) hX dX6_faultOf_156 rfl h (fun h => ?_) (fun h => ?_)
                · refine zr_aload_n hX dX6_faultOf_161 rfl rfl ?_
                  refine zr_sipush hX dX6_faultOf_162 rfl ?_
                  refine zr_iload hX dX6_faultOf_165 rfl ?_
                  refine zr_iload hX dX6_faultOf_167 rfl ?_
                  refine zr_aload_n hX dX6_faultOf_169 rfl rfl ?_
                  refine zr_iload_n hX dX6_faultOf_170 rfl rfl ?_
                  refine zr_iload_n hX dX6_faultOf_171 rfl rfl ?_
                  refine zP_bind h (fun q4 hq4 h => ?_)
                  refine zr_callV hX dX6_faultOf_172 (m_M_byteAt hq4) rfl rfl rfl (z5 ww_973 ww_975 ww_24 ww_77 ww_976) hy_X6_byteAt rfl (Nat.le_of_ble_eq_true rfl) (Nat.le_of_ble_eq_true rfl) (Nat.le_of_ble_eq_true rfl) ?_
                  refine zr_bipush hX dX6_faultOf_175 rfl ?_
                  refine zr_isub hX dX6_faultOf_177 ?_
                  refine zP_bind h (fun q5 hq5 h => ?_)
                  refine zr_callV hX dX6_faultOf_178 (m_M_adds hq5) rfl rfl rfl (z5 ww_986 ww_988 ww_26 ww_77 ww_989) hy_X6_adds rfl (Nat.le_of_ble_eq_true rfl) (Nat.le_of_ble_eq_true rfl) (Nat.le_of_ble_eq_true rfl) ?_
                  refine zr_iinc hX dX6_faultOf_181 rfl (Nat.le_of_ble_eq_true rfl) ?_
                  refine zr_goto hX dX6_faultOf_184 (tgt := 27) rfl ?_
                  exact zW_lf (k_M_faultOf_27 h) (And.intro rfl (And.intro rfl (And.intro rfl trivial)))
                · refine zr_iload_n hX dX6_faultOf_159 rfl rfl ?_
                  exact zr_iret hX dX6_faultOf_160 hF h
              · refine zr_iload_n hX dX6_faultOf_135 rfl rfl ?_
                exact zr_iret hX dX6_faultOf_136 hF h
    · refine zr_iload hX dX6_faultOf_68 rfl ?_
      refine zr_iconst hX dX6_faultOf_70 (zrl rfl) ?_
      refine zr_icmpne (tgt := 76) hX dX6_faultOf_71 rfl h (fun h => ?_) (fun h => ?_)
      · refine zr_aload_n hX dX6_faultOf_76 rfl rfl ?_
        refine zr_getr hX dX6_faultOf_77 (k := 0) (q := 43) rfl rfl ww_851 rfl ?_
        refine zr_sipush hX dX6_faultOf_80 rfl ?_
        refine zr_dup2 hX dX6_faultOf_83 rfl rfl ?_
        refine zr_ialdc hX dX6_faultOf_84 (N := 10956) rfl rfl rfl ?_
        refine zr_iconst hX dX6_faultOf_85 (zrl rfl) ?_
        refine zr_iadd hX dX6_faultOf_86 ?_
        refine zr_iastc hX dX6_faultOf_87 (N := 10956) rfl rfl rfl ?_
        refine zr_goto hX dX6_faultOf_88 (tgt := 181) rfl ?_
        refine zr_iinc hX dX6_faultOf_181 rfl (Nat.le_of_ble_eq_true rfl) ?_
        refine zr_goto hX dX6_faultOf_184 (tgt := 27) rfl ?_
        exact zW_lf (k_M_faultOf_27 h) (And.intro rfl (And.intro rfl (And.intro rfl trivial)))
      · refine zr_iload_n hX dX6_faultOf_74 rfl rfl ?_
        exact zr_iret hX dX6_faultOf_75 hF h
set_option maxRecDepth 100000 in
set_option maxHeartbeats 4000000 in
theorem w_M_faultOf_e {X : zX} {G : zG} {v1 : Int} {μ : zM} {rv : Option zV} {ν : zM} (hX : zOk X G cX6_faultOf RX6 6 (some .int) 2) (hF : zFin X G rv ν) (h : zP (Sum.elim (k_M_faultOf X G v1) (fun r : (Int × zM) => (some (zI r.1), r.2) = (rv, ν))) (e_M_faultOf v1 μ)) : zW X G 6 0 [some (zR 42), some (zI v1), none, none, none, none] [] μ := by
  refine zr_iconst hX dX6_faultOf_0 (zrl rfl) ?_
  refine zr_istore_n hX dX6_faultOf_1 rfl (Nat.le_of_ble_eq_true rfl) ?_
  exact zW_lf (k_M_faultOf_2 h) (And.intro rfl (And.intro rfl (And.intro rfl trivial)))
set_option maxRecDepth 100000 in
theorem m_M_faultOf {l : Launch} {G : zG} {v1 : Int} {μ : zM} {q : Int × zM} (hq : f_M_faultOf v1 μ = some q) : zCT l G yX6_faultOf cX6_faultOf 6 (some .int) 2 [zR 42, zI v1] μ (some (zI q.1)) q.2 := by
  refine zMet (lv := [some (zR 42), some (zI v1), none, none, none, none]) (k := 4) pl_X6 rfl (Nat.le_of_ble_eq_true rfl) (fun X hl hX hF _ _ => ?_)
  refine w_M_faultOf_e hX hF (zgo_K (r := q) (step := t_M_faultOf v1) (fun s h => ?_) rfl hq)
  cases s with
  | inl s => exact w_M_faultOf_2 hX hF h
  | inr s => exact w_M_faultOf_27 hX hF h
