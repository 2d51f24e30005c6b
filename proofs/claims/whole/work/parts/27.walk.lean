def k_M_settle (X : zX) (G : zG) : ((Int × Int × zM) ⊕ (Int × Int × Int × zM)) → Prop := fun s => match s with
  | .inl (s) => zW X G 5 11 [some (zR 42), some (zI s.1), some (zI s.2.1), none, none] [] s.2.2
  | .inr (s) => zW X G 5 34 [some (zR 42), some (zI s.1), some (zI s.2.1), some (zI s.2.2.1), none] [] s.2.2.2
theorem k_M_settle_11 {X : zX} {G : zG} {F : (Int × zM) → Prop} {v1 v2 : Int} {κ : zM} (h : zP (Sum.elim (k_M_settle X G) F) (some (.inl (.inl ((v1, v2, κ)))))) : zW X G 5 11 [some (zR 42), some (zI v1), some (zI v2), none, none] [] κ := h
theorem k_M_settle_34 {X : zX} {G : zG} {F : (Int × zM) → Prop} {v1 v2 v3 : Int} {κ : zM} (h : zP (Sum.elim (k_M_settle X G) F) (some (.inl (.inr ((v1, v2, v3, κ)))))) : zW X G 5 34 [some (zR 42), some (zI v1), some (zI v2), some (zI v3), none] [] κ := h
set_option maxRecDepth 100000 in
set_option maxHeartbeats 4000000 in
theorem w_M_settle_11 {X : zX} {G : zG} {μ : zM} {rv : Option zV} {ν : zM} (hX : zOk X G cX6_settle RX6 5 (some .int) 4) (hF : zFin X G rv ν) {v1 v2 : Int} (h : zP (Sum.elim (k_M_settle X G) (fun r : (Int × zM) => (some (zI r.1), r.2) = (rv, ν))) (b_M_settle_11 v1 v2 μ)) : zW X G 5 11 [some (zR 42), some (zI v1), some (zI v2), none, none] [] μ := by
  refine zr_iload_n hX dX6_settle_11 rfl rfl ?_
  refine zr_iconst hX dX6_settle_12 (zrl rfl) ?_
  refine zr_iload_n hX dX6_settle_13 rfl rfl ?_
  refine zr_ishl hX dX6_settle_14 ?_
  refine zr_icmpge (tgt := 158) hX dX6_settle_15 rfl h (fun h => ?_) (fun h => ?_)
  · refine zr_iload_n hX dX6_settle_158 rfl rfl ?_
    refine zr_aload_n hX dX6_settle_159 rfl rfl ?_
    refine zr_getr hX dX6_settle_160 (k := 15) (q := 53) rfl rfl ww_866 rfl ?_
    refine zr_iconst hX dX6_settle_163 (zrl rfl) ?_
    refine zr_iload_n hX dX6_settle_164 rfl rfl ?_
    refine zr_ishl hX dX6_settle_165 ?_
    refine zr_iconst hX dX6_settle_166 (zrl rfl) ?_
    refine zr_isub hX dX6_settle_167 ?_
    refine zr_iald (N := 4096) hX dX6_settle_168 rfl rfl h (fun h => ?_)
    refine zr_isub hX dX6_settle_169 ?_
    exact zr_iret hX dX6_settle_170 hF h
  · refine zr_aload_n hX dX6_settle_18 rfl rfl ?_
    refine zr_getr hX dX6_settle_19 (k := 14) (q := 52) rfl rfl ww_865 rfl ?_
    refine zr_iload_n hX dX6_settle_22 rfl rfl ?_
    refine zr_iconst hX dX6_settle_23 (zrl rfl) ?_
    refine zr_iast (N := 4096) hX dX6_settle_24 rfl rfl h (fun h => ?_)
    refine zr_aload_n hX dX6_settle_25 rfl rfl ?_
    refine zr_getr hX dX6_settle_26 (k := 15) (q := 53) rfl rfl ww_866 rfl ?_
    refine zr_iload_n hX dX6_settle_29 rfl rfl ?_
    refine zr_iconst hX dX6_settle_30 (zrl rfl) ?_
    refine zr_iast (N := 4096) hX dX6_settle_31 rfl rfl h (fun h => ?_)
    refine zr_iconst hX dX6_settle_32 (zrl rfl) ?_
    refine zr_istore_n hX dX6_settle_33 rfl (Nat.le_of_ble_eq_true rfl) ?_
    exact zW_lf (k_M_settle_34 h) (And.intro rfl (And.intro rfl (And.intro rfl (And.intro rfl trivial))))
set_option maxRecDepth 100000 in
set_option maxHeartbeats 4000000 in
theorem w_M_settle_34 {X : zX} {G : zG} {μ : zM} {rv : Option zV} {ν : zM} (hX : zOk X G cX6_settle RX6 5 (some .int) 4) (hF : zFin X G rv ν) {v1 v2 v3 : Int} (h : zP (Sum.elim (k_M_settle X G) (fun r : (Int × zM) => (some (zI r.1), r.2) = (rv, ν))) (b_M_settle_34 v1 v2 v3 μ)) : zW X G 5 34 [some (zR 42), some (zI v1), some (zI v2), some (zI v3), none] [] μ := by
  refine zr_iload_n hX dX6_settle_34 rfl rfl ?_
  refine zr_iload_n hX dX6_settle_35 rfl rfl ?_
  refine zr_icmpge (tgt := 125) hX dX6_settle_36 rfl h (fun h => ?_) (fun h => ?_)
  · refine zr_aload_n hX dX6_settle_125 rfl rfl ?_
    refine zr_getr hX dX6_settle_126 (k := 15) (q := 53) rfl rfl ww_866 rfl ?_
    refine zr_iload_n hX dX6_settle_129 rfl rfl ?_
    refine zr_dup2 hX dX6_settle_130 rfl rfl ?_
    refine zr_iald (N := 4096) hX dX6_settle_131 rfl rfl h (fun h => ?_)
    refine zr_aload_n hX dX6_settle_132 rfl rfl ?_
    refine zr_getr hX dX6_settle_133 (k := 14) (q := 52) rfl rfl ww_865 rfl ?_
    refine zr_iload_n hX dX6_settle_136 rfl rfl ?_
    refine zr_iald (N := 4096) hX dX6_settle_137 rfl rfl h (fun h => ?_)
    refine zr_ifne (tgt := 149) hX dX6_settle_138 rfl h (fun h => ?_) (fun h => ?_)
    · refine zr_iconst hX dX6_settle_149 (zrl rfl) ?_
      refine zr_iadd hX dX6_settle_150 ?_
      refine zr_iast (N := 4096) hX dX6_settle_151 rfl rfl h (fun h => ?_)
      refine zr_iinc hX dX6_settle_152 rfl (Nat.le_of_ble_eq_true rfl) ?_
      refine zr_goto hX dX6_settle_155 (tgt := 11) rfl ?_
      exact zW_lf (k_M_settle_11 h) (And.intro rfl (And.intro rfl (And.intro rfl trivial)))
    · refine zr_iload_n hX dX6_settle_141 rfl rfl ?_
      refine zr_ifle (tgt := 149) hX dX6_settle_142 rfl h (fun h => ?_) (fun h => ?_)
      · refine zr_iconst hX dX6_settle_149 (zrl rfl) ?_
        refine zr_iadd hX dX6_settle_150 ?_
        refine zr_iast (N := 4096) hX dX6_settle_151 rfl rfl h (fun h => ?_)
        refine zr_iinc hX dX6_settle_152 rfl (Nat.le_of_ble_eq_true rfl) ?_
        refine zr_goto hX dX6_settle_155 (tgt := 11) rfl ?_
        exact zW_lf (k_M_settle_11 h) (And.intro rfl (And.intro rfl (And.intro rfl trivial)))
      · refine zr_iconst hX dX6_settle_145 (zrl rfl) ?_
        refine zr_goto hX dX6_settle_146 (tgt := 150) rfl ?_
        refine zr_iadd hX dX6_settle_150 ?_
        refine zr_iast (N := 4096) hX dX6_settle_151 rfl rfl h (fun h => ?_)
        refine zr_iinc hX dX6_settle_152 rfl (Nat.le_of_ble_eq_true rfl) ?_
        refine zr_goto hX dX6_settle_155 (tgt := 11) rfl ?_
        exact zW_lf (k_M_settle_11 h) (And.intro rfl (And.intro rfl (And.intro rfl trivial)))
  · refine zr_iload_n hX dX6_settle_39 rfl rfl ?_
    refine zr_iload_n hX dX6_settle_40 rfl rfl ?_
    refine zr_callS hX dX6_settle_41 (m_M_has) rfl (z4 ww_1214 ww_1215 ww_77 ww_1216) hy_X6_has rfl (Nat.le_of_ble_eq_true rfl) (Nat.le_of_ble_eq_true rfl) (Nat.le_of_ble_eq_true rfl) ?_
    refine zr_ifeq (tgt := 119) hX dX6_settle_44 rfl h (fun h => ?_) (fun h => ?_)
    · refine zr_iinc hX dX6_settle_119 rfl (Nat.le_of_ble_eq_true rfl) ?_
      refine zr_goto hX dX6_settle_122 (tgt := 34) rfl ?_
      exact zW_lf (k_M_settle_34 h) (And.intro rfl (And.intro rfl (And.intro rfl (And.intro rfl trivial))))
    · refine zr_iload_n hX dX6_settle_47 rfl rfl ?_
      refine zr_iconst hX dX6_settle_48 (zrl rfl) ?_
      refine zr_iload_n hX dX6_settle_49 rfl rfl ?_
      refine zr_ishl hX dX6_settle_50 ?_
      refine zr_iconst hX dX6_settle_51 (zrl rfl) ?_
      refine zr_ixor hX dX6_settle_52 ?_
      refine zr_iand hX dX6_settle_53 ?_
      refine zr_istore hX dX6_settle_54 (Nat.le_of_ble_eq_true rfl) ?_
      refine zr_aload_n hX dX6_settle_56 rfl rfl ?_
      refine zr_getr hX dX6_settle_57 (k := 14) (q := 52) rfl rfl ww_865 rfl ?_
      refine zr_iload_n hX dX6_settle_60 rfl rfl ?_
      refine zr_aload_n hX dX6_settle_61 rfl rfl ?_
      refine zr_getr hX dX6_settle_62 (k := 14) (q := 52) rfl rfl ww_865 rfl ?_
      refine zr_iload hX dX6_settle_65 rfl ?_
      refine zr_iald (N := 4096) hX dX6_settle_67 rfl rfl h (fun h => ?_)
      refine zr_aload_n hX dX6_settle_68 rfl rfl ?_
      refine zr_iload_n hX dX6_settle_69 rfl rfl ?_
      refine zP_bind h (fun q3 hq3 h => ?_)
      refine zr_callV hX dX6_settle_70 (m_M_owesAll hq3) rfl rfl rfl (z5 ww_1097 ww_1099 ww_46 ww_77 ww_1100) hy_X6_owesAll rfl (Nat.le_of_ble_eq_true rfl) (Nat.le_of_ble_eq_true rfl) (Nat.le_of_ble_eq_true rfl) ?_
      refine zr_iadd hX dX6_settle_73 ?_
      refine zr_aload_n hX dX6_settle_74 rfl rfl ?_
      refine zr_iload_n hX dX6_settle_75 rfl rfl ?_
      refine zP_bind h (fun q4 hq4 h => ?_)
      refine zr_callV hX dX6_settle_76 (m_M_owedAll hq4) rfl rfl rfl (z5 ww_1101 ww_1103 ww_47 ww_77 ww_1104) hy_X6_owedAll rfl (Nat.le_of_ble_eq_true rfl) (Nat.le_of_ble_eq_true rfl) (Nat.le_of_ble_eq_true rfl) ?_
      refine zr_isub hX dX6_settle_79 ?_
      refine zr_iast (N := 4096) hX dX6_settle_80 rfl rfl h (fun h => ?_)
      refine zr_aload_n hX dX6_settle_81 rfl rfl ?_
      refine zr_getr hX dX6_settle_82 (k := 15) (q := 53) rfl rfl ww_866 rfl ?_
      refine zr_iload_n hX dX6_settle_85 rfl rfl ?_
      refine zr_aload_n hX dX6_settle_86 rfl rfl ?_
      refine zr_getr hX dX6_settle_87 (k := 15) (q := 53) rfl rfl ww_866 rfl ?_
      refine zr_iload hX dX6_settle_90 rfl ?_
      refine zr_iald (N := 4096) hX dX6_settle_92 rfl rfl h (fun h => ?_)
      refine zr_aload_n hX dX6_settle_93 rfl rfl ?_
      refine zr_getr hX dX6_settle_94 (k := 15) (q := 53) rfl rfl ww_866 rfl ?_
      refine zr_iload_n hX dX6_settle_97 rfl rfl ?_
      refine zr_iald (N := 4096) hX dX6_settle_98 rfl rfl h (fun h => ?_)
      refine zr_icmple (tgt := 112) hX dX6_settle_99 rfl h (fun h => ?_) (fun h => ?_)
      · refine zr_aload_n hX dX6_settle_112 rfl rfl ?_
        refine zr_getr hX dX6_settle_113 (k := 15) (q := 53) rfl rfl ww_866 rfl ?_
        refine zr_iload_n hX dX6_settle_116 rfl rfl ?_
        refine zr_iald (N := 4096) hX dX6_settle_117 rfl rfl h (fun h => ?_)
        refine zr_iast (N := 4096) hX dX6_settle_118 rfl rfl h (fun h => ?_)
        refine zr_iinc hX dX6_settle_119 rfl (Nat.le_of_ble_eq_true rfl) ?_
        refine zr_goto hX dX6_settle_122 (tgt := 34) rfl ?_
        exact zW_lf (k_M_settle_34 h) (And.intro rfl (And.intro rfl (And.intro rfl (And.intro rfl trivial))))
      · refine zr_aload_n hX dX6_settle_102 rfl rfl ?_
        refine zr_getr hX dX6_settle_103 (k := 15) (q := 53) rfl rfl ww_866 rfl ?_
        refine zr_iload hX dX6_settle_106 rfl ?_
        refine zr_iald (N := 4096) hX dX6_settle_108 rfl rfl h (fun h => ?_)
        refine zr_goto hX dX6_settle_109 (tgt := 118) rfl ?_
        refine zr_iast (N := 4096) hX dX6_settle_118 rfl rfl h (fun h => ?_)
        refine zr_iinc hX dX6_settle_119 rfl (Nat.le_of_ble_eq_true rfl) ?_
        refine zr_goto hX dX6_settle_122 (tgt := 34) rfl ?_
        exact zW_lf (k_M_settle_34 h) (And.intro rfl (And.intro rfl (And.intro rfl (And.intro rfl trivial))))
set_option maxRecDepth 100000 in
set_option maxHeartbeats 4000000 in
theorem w_M_settle_e {X : zX} {G : zG} {μ : zM} {rv : Option zV} {ν : zM} (hX : zOk X G cX6_settle RX6 5 (some .int) 4) (hF : zFin X G rv ν) (h : zP (Sum.elim (k_M_settle X G) (fun r : (Int × zM) => (some (zI r.1), r.2) = (rv, ν))) (e_M_settle μ)) : zW X G 5 0 [some (zR 42), none, none, none, none] [] μ := by
  refine zr_aload_n hX dX6_settle_0 rfl rfl ?_
  refine zP_bind h (fun q1 hq1 h => ?_)
  refine zr_callV hX dX6_settle_1 (m_M_layLamps hq1) rfl rfl rfl (z5 ww_1019 ww_1021 ww_31 ww_77 ww_1022) hy_X6_layLamps rfl (Nat.le_of_ble_eq_true rfl) (Nat.le_of_ble_eq_true rfl) (Nat.le_of_ble_eq_true rfl) ?_
  refine zr_aload_n hX dX6_settle_4 rfl rfl ?_
  refine zP_bind h (fun q2 hq2 h => ?_)
  refine zr_callV hX dX6_settle_5 (m_M_houses hq2) rfl rfl rfl (z5 ww_1023 ww_1025 ww_32 ww_77 ww_1026) hy_X6_houses rfl (Nat.le_of_ble_eq_true rfl) (Nat.le_of_ble_eq_true rfl) (Nat.le_of_ble_eq_true rfl) ?_
  refine zr_istore_n hX dX6_settle_8 rfl (Nat.le_of_ble_eq_true rfl) ?_
  refine zr_iconst hX dX6_settle_9 (zrl rfl) ?_
  refine zr_istore_n hX dX6_settle_10 rfl (Nat.le_of_ble_eq_true rfl) ?_
  exact zW_lf (k_M_settle_11 h) (And.intro rfl (And.intro rfl (And.intro rfl trivial)))
set_option maxRecDepth 100000 in
theorem m_M_settle {l : Launch} {G : zG} {μ : zM} {q : Int × zM} (hq : f_M_settle μ = some q) : zCT l G yX6_settle cX6_settle 5 (some .int) 4 [zR 42] μ (some (zI q.1)) q.2 := by
  refine zMet (lv := [some (zR 42), none, none, none, none]) (k := 4) pl_X6 rfl (Nat.le_of_ble_eq_true rfl) (fun X hl hX hF _ _ => ?_)
  refine w_M_settle_e hX hF (zgo_K (r := q) (step := t_M_settle) (fun s h => ?_) rfl hq)
  cases s with
  | inl s => exact w_M_settle_11 hX hF h
  | inr s => exact w_M_settle_34 hX hF h
def k_M_rings (X : zX) (G : zG) : ((Int × Int × Int × zM) ⊕ (Int × Int × Int × zM) ⊕ (Int × Int × Int × Int × zM) ⊕ (Int × Int × Int × Int × zM) ⊕ (Int × Int × Int × Int × zM) ⊕ (Int × Int × Int × Int × Int × zM)) → Prop := fun s => match s with
  | .inl (s) => zW X G 6 13 [some (zR 42), some (zI s.1), some (zI s.2.1), some (zI s.2.2.1), none, none] [] s.2.2.2
  | .inr (.inl (s)) => zW X G 6 79 [some (zR 42), some (zI s.1), some (zI s.2.1), some (zI s.2.2.1), none, none] [] s.2.2.2
  | .inr (.inr (.inl (s))) => zW X G 6 21 [some (zR 42), some (zI s.1), some (zI s.2.1), some (zI s.2.2.1), some (zI s.2.2.2.1), none] [] s.2.2.2.2
  | .inr (.inr (.inr (.inl (s)))) => zW X G 6 192 [some (zR 42), some (zI s.1), some (zI s.2.1), some (zI s.2.2.1), some (zI s.2.2.2.1), none] [] s.2.2.2.2
  | .inr (.inr (.inr (.inr (.inl (s))))) => zW X G 6 87 [some (zR 42), some (zI s.1), some (zI s.2.1), some (zI s.2.2.1), some (zI s.2.2.2.1), none] [] s.2.2.2.2
  | .inr (.inr (.inr (.inr (.inr (s))))) => zW X G 6 96 [some (zR 42), some (zI s.1), some (zI s.2.1), some (zI s.2.2.1), some (zI s.2.2.2.1), some (zI s.2.2.2.2.1)] [] s.2.2.2.2.2
theorem k_M_rings_13 {X : zX} {G : zG} {F : (Int × zM) → Prop} {v1 v2 v3 : Int} {κ : zM} (h : zP (Sum.elim (k_M_rings X G) F) (some (.inl (.inl ((v1, v2, v3, κ)))))) : zW X G 6 13 [some (zR 42), some (zI v1), some (zI v2), some (zI v3), none, none] [] κ := h
theorem k_M_rings_79 {X : zX} {G : zG} {F : (Int × zM) → Prop} {v1 v2 v3 : Int} {κ : zM} (h : zP (Sum.elim (k_M_rings X G) F) (some (.inl (.inr (.inl ((v1, v2, v3, κ))))))) : zW X G 6 79 [some (zR 42), some (zI v1), some (zI v2), some (zI v3), none, none] [] κ := h
theorem k_M_rings_21 {X : zX} {G : zG} {F : (Int × zM) → Prop} {v1 v2 v3 v4 : Int} {κ : zM} (h : zP (Sum.elim (k_M_rings X G) F) (some (.inl (.inr (.inr (.inl ((v1, v2, v3, v4, κ)))))))) : zW X G 6 21 [some (zR 42), some (zI v1), some (zI v2), some (zI v3), some (zI v4), none] [] κ := h
theorem k_M_rings_192 {X : zX} {G : zG} {F : (Int × zM) → Prop} {v1 v2 v3 v4 : Int} {κ : zM} (h : zP (Sum.elim (k_M_rings X G) F) (some (.inl (.inr (.inr (.inr (.inl ((v1, v2, v3, v4, κ))))))))) : zW X G 6 192 [some (zR 42), some (zI v1), some (zI v2), some (zI v3), some (zI v4), none] [] κ := h
theorem k_M_rings_87 {X : zX} {G : zG} {F : (Int × zM) → Prop} {v1 v2 v3 v4 : Int} {κ : zM} (h : zP (Sum.elim (k_M_rings X G) F) (some (.inl (.inr (.inr (.inr (.inr (.inl ((v1, v2, v3, v4, κ)))))))))) : zW X G 6 87 [some (zR 42), some (zI v1), some (zI v2), some (zI v3), some (zI v4), none] [] κ := h
theorem k_M_rings_96 {X : zX} {G : zG} {F : (Int × zM) → Prop} {v1 v2 v3 v4 v5 : Int} {κ : zM} (h : zP (Sum.elim (k_M_rings X G) F) (some (.inl (.inr (.inr (.inr (.inr (.inr ((v1, v2, v3, v4, v5, κ)))))))))) : zW X G 6 96 [some (zR 42), some (zI v1), some (zI v2), some (zI v3), some (zI v4), some (zI v5)] [] κ := h
set_option maxRecDepth 100000 in
set_option maxHeartbeats 4000000 in
theorem w_M_rings_13 {X : zX} {G : zG} {μ : zM} {rv : Option zV} {ν : zM} (hX : zOk X G cX6_rings RX6 6 (some .int) 4) (hF : zFin X G rv ν) {v1 v2 v3 : Int} (h : zP (Sum.elim (k_M_rings X G) (fun r : (Int × zM) => (some (zI r.1), r.2) = (rv, ν))) (b_M_rings_13 v1 v2 v3 μ)) : zW X G 6 13 [some (zR 42), some (zI v1), some (zI v2), some (zI v3), none, none] [] μ := by
  refine zr_iload_n hX dX6_rings_13 rfl rfl ?_
  refine zr_iload_n hX dX6_rings_14 rfl rfl ?_
  refine zr_icmpge (tgt := 77) hX dX6_rings_15 rfl h (fun h => ?_) (fun h => ?_)
  · refine zr_iconst hX dX6_rings_77 (zrl rfl) ?_
    refine zr_istore_n hX dX6_rings_78 rfl (Nat.le_of_ble_eq_true rfl) ?_
    exact zW_lf (k_M_rings_79 h) (And.intro rfl (And.intro rfl (And.intro rfl (And.intro rfl trivial))))
  · refine zr_iconst hX dX6_rings_18 (zrl rfl) ?_
    refine zr_istore hX dX6_rings_19 (Nat.le_of_ble_eq_true rfl) ?_
    exact zW_lf (k_M_rings_21 h) (And.intro rfl (And.intro rfl (And.intro rfl (And.intro rfl (And.intro rfl trivial)))))
set_option maxRecDepth 100000 in
set_option maxHeartbeats 4000000 in
theorem w_M_rings_79 {X : zX} {G : zG} {μ : zM} {rv : Option zV} {ν : zM} (hX : zOk X G cX6_rings RX6 6 (some .int) 4) (hF : zFin X G rv ν) {v1 v2 v3 : Int} (h : zP (Sum.elim (k_M_rings X G) (fun r : (Int × zM) => (some (zI r.1), r.2) = (rv, ν))) (b_M_rings_79 v1 v2 v3 μ)) : zW X G 6 79 [some (zR 42), some (zI v1), some (zI v2), some (zI v3), none, none] [] μ := by
  refine zr_iload_n hX dX6_rings_79 rfl rfl ?_
  refine zr_iload_n hX dX6_rings_80 rfl rfl ?_
  refine zr_icmpge (tgt := 187) hX dX6_rings_81 rfl h (fun h => ?_) (fun h => ?_)
  · refine zr_iconst hX dX6_rings_187 (zrl rfl) ?_
    refine zr_istore_n hX dX6_rings_188 rfl (Nat.le_of_ble_eq_true rfl) ?_
    refine zr_iconst hX dX6_rings_189 (zrl rfl) ?_
    refine zr_istore hX dX6_rings_190 (Nat.le_of_ble_eq_true rfl) ?_
    exact zW_lf (k_M_rings_192 h) (And.intro rfl (And.intro rfl (And.intro rfl (And.intro rfl (And.intro rfl trivial)))))
  · refine zr_iconst hX dX6_rings_84 (zrl rfl) ?_
    refine zr_istore hX dX6_rings_85 (Nat.le_of_ble_eq_true rfl) ?_
    exact zW_lf (k_M_rings_87 h) (And.intro rfl (And.intro rfl (And.intro rfl (And.intro rfl (And.intro rfl trivial)))))
set_option maxRecDepth 100000 in
set_option maxHeartbeats 4000000 in
theorem w_M_rings_21 {X : zX} {G : zG} {μ : zM} {rv : Option zV} {ν : zM} (hX : zOk X G cX6_rings RX6 6 (some .int) 4) (hF : zFin X G rv ν) {v1 v2 v3 v4 : Int} (h : zP (Sum.elim (k_M_rings X G) (fun r : (Int × zM) => (some (zI r.1), r.2) = (rv, ν))) (b_M_rings_21 v1 v2 v3 v4 μ)) : zW X G 6 21 [some (zR 42), some (zI v1), some (zI v2), some (zI v3), some (zI v4), none] [] μ := by
  refine zr_iload hX dX6_rings_21 rfl ?_
  refine zr_iload_n hX dX6_rings_23 rfl rfl ?_
  refine zr_icmpge (tgt := 71) hX dX6_rings_24 rfl h (fun h => ?_) (fun h => ?_)
  · refine zr_iinc hX dX6_rings_71 rfl (Nat.le_of_ble_eq_true rfl) ?_
    refine zr_goto hX dX6_rings_74 (tgt := 13) rfl ?_
    exact zW_lf (k_M_rings_13 h) (And.intro rfl (And.intro rfl (And.intro rfl (And.intro rfl trivial))))
  · refine zr_iload_n hX dX6_rings_27 rfl rfl ?_
    refine zr_aload_n hX dX6_rings_28 rfl rfl ?_
    refine zr_getr hX dX6_rings_29 (k := 13) (q := 51) rfl rfl ww_864 rfl ?_
    refine zr_bipush hX dX6_rings_32 rfl ?_
    refine zr_iload_n hX dX6_rings_34 rfl rfl ?_
    refine zr_imul hX dX6_rings_35 ?_
    refine zr_iload hX dX6_rings_36 rfl ?_
    refine zr_iadd hX dX6_rings_38 ?_
    refine zr_iald (N := 144) hX dX6_rings_39 rfl rfl h (fun h => ?_)
    refine zr_ifle (tgt := 62) hX dX6_rings_40 rfl h (fun h => ?_) (fun h => ?_)
    · refine zr_iconst hX dX6_rings_62 (zrl rfl) ?_
      refine zr_iadd hX dX6_rings_63 ?_
      refine zr_istore_n hX dX6_rings_64 rfl (Nat.le_of_ble_eq_true rfl) ?_
      refine zr_iinc hX dX6_rings_65 rfl (Nat.le_of_ble_eq_true rfl) ?_
      refine zr_goto hX dX6_rings_68 (tgt := 21) rfl ?_
      exact zW_lf (k_M_rings_21 h) (And.intro rfl (And.intro rfl (And.intro rfl (And.intro rfl (And.intro rfl trivial)))))
    · refine zr_aload_n hX dX6_rings_43 rfl rfl ?_
      refine zr_getr hX dX6_rings_44 (k := 13) (q := 51) rfl rfl ww_864 rfl ?_
      refine zr_bipush hX dX6_rings_47 rfl ?_
      refine zr_iload hX dX6_rings_49 rfl ?_
      refine zr_imul hX dX6_rings_51 ?_
      refine zr_iload_n hX dX6_rings_52 rfl rfl ?_
      refine zr_iadd hX dX6_rings_53 ?_
      refine zr_iald (N := 144) hX dX6_rings_54 rfl rfl h (fun h => ?_)
      refine zr_ifle (tgt := 62) hX dX6_rings_55 rfl h (fun h => ?_) (fun h => ?_)
      · refine zr_iconst hX dX6_rings_62 (zrl rfl) ?_
        refine zr_iadd hX dX6_rings_63 ?_
        refine zr_istore_n hX dX6_rings_64 rfl (Nat.le_of_ble_eq_true rfl) ?_
        refine zr_iinc hX dX6_rings_65 rfl (Nat.le_of_ble_eq_true rfl) ?_
        refine zr_goto hX dX6_rings_68 (tgt := 21) rfl ?_
        exact zW_lf (k_M_rings_21 h) (And.intro rfl (And.intro rfl (And.intro rfl (And.intro rfl (And.intro rfl trivial)))))
      · refine zr_iconst hX dX6_rings_58 (zrl rfl) ?_
        refine zr_goto hX dX6_rings_59 (tgt := 63) rfl ?_
        refine zr_iadd hX dX6_rings_63 ?_
        refine zr_istore_n hX dX6_rings_64 rfl (Nat.le_of_ble_eq_true rfl) ?_
        refine zr_iinc hX dX6_rings_65 rfl (Nat.le_of_ble_eq_true rfl) ?_
        refine zr_goto hX dX6_rings_68 (tgt := 21) rfl ?_
        exact zW_lf (k_M_rings_21 h) (And.intro rfl (And.intro rfl (And.intro rfl (And.intro rfl (And.intro rfl trivial)))))
set_option maxRecDepth 100000 in
set_option maxHeartbeats 4000000 in
theorem w_M_rings_192 {X : zX} {G : zG} {μ : zM} {rv : Option zV} {ν : zM} (hX : zOk X G cX6_rings RX6 6 (some .int) 4) (hF : zFin X G rv ν) {v1 v2 v3 v4 : Int} (h : zP (Sum.elim (k_M_rings X G) (fun r : (Int × zM) => (some (zI r.1), r.2) = (rv, ν))) (b_M_rings_192 v1 v2 v3 v4 μ)) : zW X G 6 192 [some (zR 42), some (zI v1), some (zI v2), some (zI v3), some (zI v4), none] [] μ := by
  refine zr_iload hX dX6_rings_192 rfl ?_
  refine zr_iload_n hX dX6_rings_194 rfl rfl ?_
  refine zr_icmpge (tgt := 231) hX dX6_rings_195 rfl h (fun h => ?_) (fun h => ?_)
  · refine zr_aload_n hX dX6_rings_231 rfl rfl ?_
    refine zr_iload_n hX dX6_rings_232 rfl rfl ?_
    refine zr_iload_n hX dX6_rings_233 rfl rfl ?_
    refine zP_bind h (fun q3 hq3 h => ?_)
    refine zr_callV hX dX6_rings_234 (m_M_tells hq3) rfl rfl rfl (z5 ww_933 ww_935 ww_22 ww_77 ww_936) hy_X6_tells rfl (Nat.le_of_ble_eq_true rfl) (Nat.le_of_ble_eq_true rfl) (Nat.le_of_ble_eq_true rfl) ?_
    exact zr_iret hX dX6_rings_237 hF h
  · refine zr_iload_n hX dX6_rings_198 rfl rfl ?_
    refine zr_aload_n hX dX6_rings_199 rfl rfl ?_
    refine zr_getr hX dX6_rings_200 (k := 13) (q := 51) rfl rfl ww_864 rfl ?_
    refine zr_bipush hX dX6_rings_203 rfl ?_
    refine zr_iload hX dX6_rings_205 rfl ?_
    refine zr_imul hX dX6_rings_207 ?_
    refine zr_iload hX dX6_rings_208 rfl ?_
    refine zr_iadd hX dX6_rings_210 ?_
    refine zr_iald (N := 144) hX dX6_rings_211 rfl rfl h (fun h => ?_)
    refine zr_ifle (tgt := 222) hX dX6_rings_212 rfl h (fun h => ?_) (fun h => ?_)
    · refine zr_iconst hX dX6_rings_222 (zrl rfl) ?_
      refine zr_ior hX dX6_rings_223 ?_
      refine zr_istore_n hX dX6_rings_224 rfl (Nat.le_of_ble_eq_true rfl) ?_
      refine zr_iinc hX dX6_rings_225 rfl (Nat.le_of_ble_eq_true rfl) ?_
      refine zr_goto hX dX6_rings_228 (tgt := 192) rfl ?_
      exact zW_lf (k_M_rings_192 h) (And.intro rfl (And.intro rfl (And.intro rfl (And.intro rfl (And.intro rfl trivial)))))
    · refine zr_iconst hX dX6_rings_215 (zrl rfl) ?_
      refine zr_iload hX dX6_rings_216 rfl ?_
      refine zr_ishl hX dX6_rings_218 ?_
      refine zr_goto hX dX6_rings_219 (tgt := 223) rfl ?_
      refine zr_ior hX dX6_rings_223 ?_
      refine zr_istore_n hX dX6_rings_224 rfl (Nat.le_of_ble_eq_true rfl) ?_
      refine zr_iinc hX dX6_rings_225 rfl (Nat.le_of_ble_eq_true rfl) ?_
      refine zr_goto hX dX6_rings_228 (tgt := 192) rfl ?_
      exact zW_lf (k_M_rings_192 h) (And.intro rfl (And.intro rfl (And.intro rfl (And.intro rfl (And.intro rfl trivial)))))
set_option maxRecDepth 100000 in
set_option maxHeartbeats 4000000 in
theorem w_M_rings_87 {X : zX} {G : zG} {μ : zM} {rv : Option zV} {ν : zM} (hX : zOk X G cX6_rings RX6 6 (some .int) 4) (hF : zFin X G rv ν) {v1 v2 v3 v4 : Int} (h : zP (Sum.elim (k_M_rings X G) (fun r : (Int × zM) => (some (zI r.1), r.2) = (rv, ν))) (b_M_rings_87 v1 v2 v3 v4 μ)) : zW X G 6 87 [some (zR 42), some (zI v1), some (zI v2), some (zI v3), some (zI v4), none] [] μ := by
  refine zr_iload hX dX6_rings_87 rfl ?_
  refine zr_iload_n hX dX6_rings_89 rfl rfl ?_
  refine zr_icmpge (tgt := 181) hX dX6_rings_90 rfl h (fun h => ?_) (fun h => ?_)
  · refine zr_iinc hX dX6_rings_181 rfl (Nat.le_of_ble_eq_true rfl) ?_
    refine zr_goto hX dX6_rings_184 (tgt := 79) rfl ?_
    exact zW_lf (k_M_rings_79 h) (And.intro rfl (And.intro rfl (And.intro rfl (And.intro rfl trivial))))
  · refine zr_iconst hX dX6_rings_93 (zrl rfl) ?_
    refine zr_istore hX dX6_rings_94 (Nat.le_of_ble_eq_true rfl) ?_
    exact zW_lf (k_M_rings_96 h) (And.intro rfl (And.intro rfl (And.intro rfl (And.intro rfl (And.intro rfl (And.intro rfl trivial))))))
set_option maxRecDepth 100000 in
set_option maxHeartbeats 4000000 in
theorem w_M_rings_96 {X : zX} {G : zG} {μ : zM} {rv : Option zV} {ν : zM} (hX : zOk X G cX6_rings RX6 6 (some .int) 4) (hF : zFin X G rv ν) {v1 v2 v3 v4 v5 : Int} (h : zP (Sum.elim (k_M_rings X G) (fun r : (Int × zM) => (some (zI r.1), r.2) = (rv, ν))) (b_M_rings_96 v1 v2 v3 v4 v5 μ)) : zW X G 6 96 [some (zR 42), some (zI v1), some (zI v2), some (zI v3), some (zI v4), some (zI v5)] [] μ := by
  refine zr_iload hX dX6_rings_96 rfl ?_
  refine zr_iload_n hX dX6_rings_98 rfl rfl ?_
  refine zr_icmpge (tgt := 175) hX dX6_rings_99 rfl h (fun h => ?_) (fun h => ?_)
  · refine zr_iinc hX dX6_rings_175 rfl (Nat.le_of_ble_eq_true rfl) ?_
    refine zr_goto hX dX6_rings_178 (tgt := 87) rfl ?_
    exact zW_lf (k_M_rings_87 h) (And.intro rfl (And.intro rfl (And.intro rfl (And.intro rfl (And.intro rfl trivial)))))
  · refine zr_aload_n hX dX6_rings_102 rfl rfl ?_
    refine zr_getr hX dX6_rings_103 (k := 13) (q := 51) rfl rfl ww_864 rfl ?_
    refine zr_bipush hX dX6_rings_106 rfl ?_
    refine zr_iload hX dX6_rings_108 rfl ?_
    refine zr_imul hX dX6_rings_110 ?_
    refine zr_iload hX dX6_rings_111 rfl ?_
    refine zr_iadd hX dX6_rings_113 ?_
    refine zr_dup2 hX dX6_rings_114 rfl rfl ?_
    refine zr_iald (N := 144) hX dX6_rings_115 rfl rfl h (fun h => ?_)
    refine zr_aload_n hX dX6_rings_116 rfl rfl ?_
    refine zr_getr hX dX6_rings_117 (k := 13) (q := 51) rfl rfl ww_864 rfl ?_
    refine zr_bipush hX dX6_rings_120 rfl ?_
    refine zr_iload hX dX6_rings_122 rfl ?_
    refine zr_imul hX dX6_rings_124 ?_
    refine zr_iload hX dX6_rings_125 rfl ?_
    refine zr_iadd hX dX6_rings_127 ?_
    refine zr_iald (N := 144) hX dX6_rings_128 rfl rfl h (fun h => ?_)
    refine zr_ifne (tgt := 166) hX dX6_rings_129 rfl h (fun h => ?_) (fun h => ?_)
    · refine zr_iconst hX dX6_rings_166 (zrl rfl) ?_
      refine zr_iadd hX dX6_rings_167 ?_
      refine zr_iast (N := 144) hX dX6_rings_168 rfl rfl h (fun h => ?_)
      refine zr_iinc hX dX6_rings_169 rfl (Nat.le_of_ble_eq_true rfl) ?_
      refine zr_goto hX dX6_rings_172 (tgt := 96) rfl ?_
      exact zW_lf (k_M_rings_96 h) (And.intro rfl (And.intro rfl (And.intro rfl (And.intro rfl (And.intro rfl (And.intro rfl trivial))))))
    · refine zr_aload_n hX dX6_rings_132 rfl rfl ?_
      refine zr_getr hX dX6_rings_133 (k := 13) (q := 51) rfl rfl ww_864 rfl ?_
      refine zr_bipush hX dX6_rings_136 rfl ?_
      refine zr_iload hX dX6_rings_138 rfl ?_
      refine zr_imul hX dX6_rings_140 ?_
      refine zr_iload_n hX dX6_rings_141 rfl rfl ?_
      refine zr_iadd hX dX6_rings_142 ?_
      refine zr_iald (N := 144) hX dX6_rings_143 rfl rfl h (fun h => ?_)
      refine zr_ifle (tgt := 166) hX dX6_rings_144 rfl h (fun h => ?_) (fun h => ?_)
      · refine zr_iconst hX dX6_rings_166 (zrl rfl) ?_
        refine zr_iadd hX dX6_rings_167 ?_
        refine zr_iast (N := 144) hX dX6_rings_168 rfl rfl h (fun h => ?_)
        refine zr_iinc hX dX6_rings_169 rfl (Nat.le_of_ble_eq_true rfl) ?_
        refine zr_goto hX dX6_rings_172 (tgt := 96) rfl ?_
        exact zW_lf (k_M_rings_96 h) (And.intro rfl (And.intro rfl (And.intro rfl (And.intro rfl (And.intro rfl (And.intro rfl trivial))))))
      · refine zr_aload_n hX dX6_rings_147 rfl rfl ?_
        refine zr_getr hX dX6_rings_148 (k := 13) (q := 51) rfl rfl ww_864 rfl ?_
        refine zr_bipush hX dX6_rings_151 rfl ?_
        refine zr_iload_n hX dX6_rings_153 rfl rfl ?_
        refine zr_imul hX dX6_rings_154 ?_
        refine zr_iload hX dX6_rings_155 rfl ?_
        refine zr_iadd hX dX6_rings_157 ?_
        refine zr_iald (N := 144) hX dX6_rings_158 rfl rfl h (fun h => ?_)
        refine zr_ifle (tgt := 166) hX dX6_rings_159 rfl h (fun h => ?_) (fun h => ?_)
        · refine zr_iconst hX dX6_rings_166 (zrl rfl) ?_
          refine zr_iadd hX dX6_rings_167 ?_
          refine zr_iast (N := 144) hX dX6_rings_168 rfl rfl h (fun h => ?_)
          refine zr_iinc hX dX6_rings_169 rfl (Nat.le_of_ble_eq_true rfl) ?_
          refine zr_goto hX dX6_rings_172 (tgt := 96) rfl ?_
          exact zW_lf (k_M_rings_96 h) (And.intro rfl (And.intro rfl (And.intro rfl (And.intro rfl (And.intro rfl (And.intro rfl trivial))))))
        · refine zr_iconst hX dX6_rings_162 (zrl rfl) ?_
          refine zr_goto hX dX6_rings_163 (tgt := 167) rfl ?_
          refine zr_iadd hX dX6_rings_167 ?_
          refine zr_iast (N := 144) hX dX6_rings_168 rfl rfl h (fun h => ?_)
          refine zr_iinc hX dX6_rings_169 rfl (Nat.le_of_ble_eq_true rfl) ?_
          refine zr_goto hX dX6_rings_172 (tgt := 96) rfl ?_
          exact zW_lf (k_M_rings_96 h) (And.intro rfl (And.intro rfl (And.intro rfl (And.intro rfl (And.intro rfl (And.intro rfl trivial))))))
set_option maxRecDepth 100000 in
set_option maxHeartbeats 4000000 in
theorem w_M_rings_e {X : zX} {G : zG} {μ : zM} {rv : Option zV} {ν : zM} (hX : zOk X G cX6_rings RX6 6 (some .int) 4) (hF : zFin X G rv ν) (h : zP (Sum.elim (k_M_rings X G) (fun r : (Int × zM) => (some (zI r.1), r.2) = (rv, ν))) (e_M_rings μ)) : zW X G 6 0 [some (zR 42), none, none, none, none, none] [] μ := by
  refine zr_aload_n hX dX6_rings_0 rfl rfl ?_
  refine zP_bind h (fun q1 hq1 h => ?_)
  refine zr_callV hX dX6_rings_1 (m_M_layLamps hq1) rfl rfl rfl (z5 ww_1019 ww_1021 ww_31 ww_77 ww_1022) hy_X6_layLamps rfl (Nat.le_of_ble_eq_true rfl) (Nat.le_of_ble_eq_true rfl) (Nat.le_of_ble_eq_true rfl) ?_
  refine zr_aload_n hX dX6_rings_4 rfl rfl ?_
  refine zP_bind h (fun q2 hq2 h => ?_)
  refine zr_callV hX dX6_rings_5 (m_M_houses hq2) rfl rfl rfl (z5 ww_1023 ww_1025 ww_32 ww_77 ww_1026) hy_X6_houses rfl (Nat.le_of_ble_eq_true rfl) (Nat.le_of_ble_eq_true rfl) (Nat.le_of_ble_eq_true rfl) ?_
  refine zr_istore_n hX dX6_rings_8 rfl (Nat.le_of_ble_eq_true rfl) ?_
  refine zr_iconst hX dX6_rings_9 (zrl rfl) ?_
  refine zr_istore_n hX dX6_rings_10 rfl (Nat.le_of_ble_eq_true rfl) ?_
  refine zr_iconst hX dX6_rings_11 (zrl rfl) ?_
  refine zr_istore_n hX dX6_rings_12 rfl (Nat.le_of_ble_eq_true rfl) ?_
  exact zW_lf (k_M_rings_13 h) (And.intro rfl (And.intro rfl (And.intro rfl (And.intro rfl trivial))))
set_option maxRecDepth 100000 in
theorem m_M_rings {l : Launch} {G : zG} {μ : zM} {q : Int × zM} (hq : f_M_rings μ = some q) : zCT l G yX6_rings cX6_rings 6 (some .int) 4 [zR 42] μ (some (zI q.1)) q.2 := by
  refine zMet (lv := [some (zR 42), none, none, none, none, none]) (k := 5) pl_X6 rfl (Nat.le_of_ble_eq_true rfl) (fun X hl hX hF _ _ => ?_)
  refine w_M_rings_e hX hF (zgo_K (r := q) (step := t_M_rings) (fun s h => ?_) rfl hq)
  cases s with
  | inl s => exact w_M_rings_13 hX hF h
  | inr s =>
    cases s with
    | inl s => exact w_M_rings_79 hX hF h
    | inr s =>
      cases s with
      | inl s => exact w_M_rings_21 hX hF h
      | inr s =>
        cases s with
        | inl s => exact w_M_rings_192 hX hF h
        | inr s =>
          cases s with
          | inl s => exact w_M_rings_87 hX hF h
          | inr s => exact w_M_rings_96 hX hF h
set_option maxRecDepth 100000 in
set_option maxHeartbeats 4000000 in
theorem w_M_isBuilt_30 {X : zX} {G : zG} {v1 : Int} {v2 : Int} {μ : zM} {rv : Option zV} {ν : zM} (hX : zOk X G cX6_isBuilt RX6 4 (some .boolean) 5) (hF : zFin X G rv ν) {w0 : Int} (h : zP (fun r : (Int × zM) => (some (zI r.1), r.2) = (rv, ν)) (j_M_isBuilt_30 v1 v2 w0 μ)) : zW X G 4 30 [some (zR 42), some (zI v1), none, none] [zI w0] μ := by
  refine zr_istore_n hX dX6_isBuilt_30 rfl (Nat.le_of_ble_eq_true rfl) ?_
  refine zr_aload_n hX dX6_isBuilt_31 rfl rfl ?_
  refine zr_getr hX dX6_isBuilt_32 (k := 0) (q := 43) rfl rfl ww_851 rfl ?_
  refine zr_iconst hX dX6_isBuilt_35 (zrl rfl) ?_
  refine zr_iload_n hX dX6_isBuilt_36 rfl rfl ?_
  refine zr_iadd hX dX6_isBuilt_37 ?_
  refine zr_dup2 hX dX6_isBuilt_38 rfl rfl ?_
  refine zr_iald (N := 10956) hX dX6_isBuilt_39 rfl rfl h (fun h => ?_)
  refine zr_iload_n hX dX6_isBuilt_40 rfl rfl ?_
  refine zr_ifeq (tgt := 48) hX dX6_isBuilt_41 rfl h (fun h => ?_) (fun h => ?_)
  · refine zr_iconst hX dX6_isBuilt_48 (zrl rfl) ?_
    refine zr_isub hX dX6_isBuilt_49 ?_
    refine zr_iast (N := 10956) hX dX6_isBuilt_50 rfl rfl h (fun h => ?_)
    refine zr_iload_n hX dX6_isBuilt_51 rfl rfl ?_
    exact zr_bret hX dX6_isBuilt_52 hF h (fun h => h)
  · refine zr_iconst hX dX6_isBuilt_44 (zrl rfl) ?_
    refine zr_goto hX dX6_isBuilt_45 (tgt := 49) rfl ?_
    refine zr_isub hX dX6_isBuilt_49 ?_
    refine zr_iast (N := 10956) hX dX6_isBuilt_50 rfl rfl h (fun h => ?_)
    refine zr_iload_n hX dX6_isBuilt_51 rfl rfl ?_
    exact zr_bret hX dX6_isBuilt_52 hF h (fun h => h)
set_option maxRecDepth 100000 in
set_option maxHeartbeats 4000000 in
theorem w_M_isBuilt_e {X : zX} {G : zG} {v1 : Int} {v2 : Int} {μ : zM} {rv : Option zV} {ν : zM} (hX : zOk X G cX6_isBuilt RX6 4 (some .boolean) 5) (hF : zFin X G rv ν) (h : zP (fun r : (Int × zM) => (some (zI r.1), r.2) = (rv, ν)) (f_M_isBuilt v1 v2 μ)) : zW X G 4 0 [some (zR 42), some (zI v1), some (zI v2), none] [] μ := by
  refine zr_aload_n hX dX6_isBuilt_0 rfl rfl ?_
  refine zr_iload_n hX dX6_isBuilt_1 rfl rfl ?_
  refine zP_bind h (fun q1 hq1 h => ?_)
  refine zr_callV hX dX6_isBuilt_2 (m_M_hasRoom hq1) rfl rfl rfl (z5 ww_1132 ww_1134 ww_50 ww_77 ww_1135) hy_X6_hasRoom rfl (Nat.le_of_ble_eq_true rfl) (Nat.le_of_ble_eq_true rfl) (Nat.le_of_ble_eq_true rfl) ?_
  refine zr_istore_n hX dX6_isBuilt_5 rfl (Nat.le_of_ble_eq_true rfl) ?_
  refine zr_iload_n hX dX6_isBuilt_6 rfl rfl ?_
  refine zr_ifeq (tgt := 51) hX dX6_isBuilt_7 rfl h (fun h => ?_) (fun h => ?_)
  · refine zr_iload_n hX dX6_isBuilt_51 rfl rfl ?_
    exact zr_bret hX dX6_isBuilt_52 hF h (fun h => h)
  · refine zr_aload_n hX dX6_isBuilt_10 rfl rfl ?_
    refine zr_iconst hX dX6_isBuilt_11 (zrl rfl) ?_
    refine zr_iload_n hX dX6_isBuilt_12 rfl rfl ?_
    refine zr_iconst hX dX6_isBuilt_13 (zrl rfl) ?_
    refine zr_iload_n hX dX6_isBuilt_14 rfl rfl ?_
    refine zP_bind h (fun q2 hq2 h => ?_)
    refine zr_callV hX dX6_isBuilt_15 (m_M_adds hq2) rfl rfl rfl (z5 ww_986 ww_988 ww_26 ww_77 ww_989) hy_X6_adds rfl (Nat.le_of_ble_eq_true rfl) (Nat.le_of_ble_eq_true rfl) (Nat.le_of_ble_eq_true rfl) ?_
    refine zr_aload_n hX dX6_isBuilt_18 rfl rfl ?_
    refine zP_bind h (fun q3 hq3 h => ?_)
    refine zr_callV hX dX6_isBuilt_19 (m_M_swaying hq3) rfl rfl rfl (z5 ww_1206 ww_1208 ww_57 ww_77 ww_1209) hy_X6_swaying rfl (Nat.le_of_ble_eq_true rfl) (Nat.le_of_ble_eq_true rfl) (Nat.le_of_ble_eq_true rfl) ?_
    refine zr_ifne (tgt := 29) hX dX6_isBuilt_22 rfl h (fun h => ?_) (fun h => ?_)
    · refine zr_iconst hX dX6_isBuilt_29 (zrl rfl) ?_
      exact zW_lf (w_M_isBuilt_30 hX hF h) (And.intro rfl (And.intro rfl trivial))
    · refine zr_iconst hX dX6_isBuilt_25 (zrl rfl) ?_
      refine zr_goto hX dX6_isBuilt_26 (tgt := 30) rfl ?_
      exact zW_lf (w_M_isBuilt_30 hX hF h) (And.intro rfl (And.intro rfl trivial))
set_option maxRecDepth 100000 in
theorem m_M_isBuilt {l : Launch} {G : zG} {v1 : Int} {v2 : Int} {μ : zM} {q : Int × zM} (hq : f_M_isBuilt v1 v2 μ = some q) : zCT l G yX6_isBuilt cX6_isBuilt 4 (some .boolean) 5 [zR 42, zI v1, zI v2] μ (some (zI q.1)) q.2 := by
  refine zMet (lv := [some (zR 42), some (zI v1), some (zI v2), none]) (k := 1) pl_X6 rfl (Nat.le_of_ble_eq_true rfl) (fun X hl hX hF _ _ => ?_)
  exact w_M_isBuilt_e hX hF (zP_of hq rfl)
def k_M_winsBy (X : zX) (G : zG) (v1 : Int) (v2 : Int) : (Int × zM) → Prop := fun s => zW X G 6 16 [some (zR 42), some (zI v1), some (zI v2), some (zI s.1), none, none] [] s.2
theorem k_M_winsBy_16 {X : zX} {G : zG} {v1 : Int} {v2 : Int} {F : (Int × zM) → Prop} {v3 : Int} {κ : zM} (h : zP (Sum.elim (k_M_winsBy X G v1 v2) F) (some (.inl ((v3, κ))))) : zW X G 6 16 [some (zR 42), some (zI v1), some (zI v2), some (zI v3), none, none] [] κ := h
set_option maxRecDepth 100000 in
set_option maxHeartbeats 4000000 in
theorem w_M_winsBy_76 {X : zX} {G : zG} {v1 : Int} {v2 : Int} {μ : zM} {rv : Option zV} {ν : zM} (hX : zOk X G cX6_winsBy RX6 6 (some .boolean) 6) (hF : zFin X G rv ν) {v3 w0 : Int} (h : zP (Sum.elim (k_M_winsBy X G v1 v2) (fun r : (Int × zM) => (some (zI r.1), r.2) = (rv, ν))) (j_M_winsBy_76 v1 v2 v3 w0 μ)) : zW X G 6 76 [some (zR 42), some (zI v1), some (zI v2), some (zI v3), none, none] [zI w0] μ := by
  refine zr_istore hX dX6_winsBy_76 (Nat.le_of_ble_eq_true rfl) ?_
  refine zr_iload_n hX dX6_winsBy_78 rfl rfl ?_
  refine zr_ifne (tgt := 85) hX dX6_winsBy_79 rfl h (fun h => ?_) (fun h => ?_)
  · refine zr_iinc hX dX6_winsBy_85 rfl (Nat.le_of_ble_eq_true rfl) ?_
    refine zr_aload_n hX dX6_winsBy_88 rfl rfl ?_
    refine zr_getr hX dX6_winsBy_89 (k := 0) (q := 43) rfl rfl ww_851 rfl ?_
    refine zr_iconst hX dX6_winsBy_92 (zrl rfl) ?_
    refine zr_aload_n hX dX6_winsBy_93 rfl rfl ?_
    refine zr_getr hX dX6_winsBy_94 (k := 16) (q := 54) rfl rfl ww_867 rfl ?_
    refine zr_iload_n hX dX6_winsBy_97 rfl rfl ?_
    refine zr_iald (N := 5) hX dX6_winsBy_98 rfl rfl h (fun h => ?_)
    refine zr_iadd hX dX6_winsBy_99 ?_
    refine zr_dup2 hX dX6_winsBy_100 rfl rfl ?_
    refine zr_iald (N := 10956) hX dX6_winsBy_101 rfl rfl h (fun h => ?_)
    refine zr_iconst hX dX6_winsBy_102 (zrl rfl) ?_
    refine zr_isub hX dX6_winsBy_103 ?_
    refine zr_iast (N := 10956) hX dX6_winsBy_104 rfl rfl h (fun h => ?_)
    refine zr_aload_n hX dX6_winsBy_105 rfl rfl ?_
    refine zr_getr hX dX6_winsBy_106 (k := 17) (q := 55) rfl rfl ww_868 rfl ?_
    refine zr_iload_n hX dX6_winsBy_109 rfl rfl ?_
    refine zr_aload_n hX dX6_winsBy_110 rfl rfl ?_
    refine zr_getr hX dX6_winsBy_111 (k := 17) (q := 55) rfl rfl ww_868 rfl ?_
    refine zr_iload_n hX dX6_winsBy_114 rfl rfl ?_
    refine zr_bald (N := 5) hX dX6_winsBy_115 rfl rfl h (fun h => ?_)
    refine zr_ifne (tgt := 124) hX dX6_winsBy_116 rfl h (fun h => ?_) (fun h => ?_)
    · refine zr_iconst hX dX6_winsBy_124 (zrl rfl) ?_
      refine zr_goto hX dX6_winsBy_125 (tgt := 129) rfl ?_
      refine zr_bast (N := 5) hX dX6_winsBy_129 rfl rfl h (fun h => ?_)
      refine zr_aload_n hX dX6_winsBy_130 rfl rfl ?_
      refine zr_getr hX dX6_winsBy_131 (k := 16) (q := 54) rfl rfl ww_867 rfl ?_
      refine zr_iload_n hX dX6_winsBy_134 rfl rfl ?_
      refine zr_dup2 hX dX6_winsBy_135 rfl rfl ?_
      refine zr_iald (N := 5) hX dX6_winsBy_136 rfl rfl h (fun h => ?_)
      refine zr_iconst hX dX6_winsBy_137 (zrl rfl) ?_
      refine zr_iadd hX dX6_winsBy_138 ?_
      refine zr_iast (N := 5) hX dX6_winsBy_139 rfl rfl h (fun h => ?_)
      refine zr_goto hX dX6_winsBy_140 (tgt := 192) rfl ?_
      refine zr_goto hX dX6_winsBy_192 (tgt := 16) rfl ?_
      exact zW_lf (k_M_winsBy_16 h) (And.intro rfl (And.intro rfl (And.intro rfl (And.intro rfl trivial))))
    · refine zr_iload hX dX6_winsBy_119 rfl ?_
      refine zr_ifne (tgt := 128) hX dX6_winsBy_121 rfl h (fun h => ?_) (fun h => ?_)
      · refine zr_iconst hX dX6_winsBy_128 (zrl rfl) ?_
        refine zr_bast (N := 5) hX dX6_winsBy_129 rfl rfl h (fun h => ?_)
        refine zr_aload_n hX dX6_winsBy_130 rfl rfl ?_
        refine zr_getr hX dX6_winsBy_131 (k := 16) (q := 54) rfl rfl ww_867 rfl ?_
        refine zr_iload_n hX dX6_winsBy_134 rfl rfl ?_
        refine zr_dup2 hX dX6_winsBy_135 rfl rfl ?_
        refine zr_iald (N := 5) hX dX6_winsBy_136 rfl rfl h (fun h => ?_)
        refine zr_iconst hX dX6_winsBy_137 (zrl rfl) ?_
        refine zr_iadd hX dX6_winsBy_138 ?_
        refine zr_iast (N := 5) hX dX6_winsBy_139 rfl rfl h (fun h => ?_)
        refine zr_goto hX dX6_winsBy_140 (tgt := 192) rfl ?_
        refine zr_goto hX dX6_winsBy_192 (tgt := 16) rfl ?_
        exact zW_lf (k_M_winsBy_16 h) (And.intro rfl (And.intro rfl (And.intro rfl (And.intro rfl trivial))))
      · refine zr_iconst hX dX6_winsBy_124 (zrl rfl) ?_
        refine zr_goto hX dX6_winsBy_125 (tgt := 129) rfl ?_
        refine zr_bast (N := 5) hX dX6_winsBy_129 rfl rfl h (fun h => ?_)
        refine zr_aload_n hX dX6_winsBy_130 rfl rfl ?_
        refine zr_getr hX dX6_winsBy_131 (k := 16) (q := 54) rfl rfl ww_867 rfl ?_
        refine zr_iload_n hX dX6_winsBy_134 rfl rfl ?_
        refine zr_dup2 hX dX6_winsBy_135 rfl rfl ?_
        refine zr_iald (N := 5) hX dX6_winsBy_136 rfl rfl h (fun h => ?_)
        refine zr_iconst hX dX6_winsBy_137 (zrl rfl) ?_
        refine zr_iadd hX dX6_winsBy_138 ?_
        refine zr_iast (N := 5) hX dX6_winsBy_139 rfl rfl h (fun h => ?_)
        refine zr_goto hX dX6_winsBy_140 (tgt := 192) rfl ?_
        refine zr_goto hX dX6_winsBy_192 (tgt := 16) rfl ?_
        exact zW_lf (k_M_winsBy_16 h) (And.intro rfl (And.intro rfl (And.intro rfl (And.intro rfl trivial))))
  · refine zr_iload hX dX6_winsBy_82 rfl ?_
    exact zr_bret hX dX6_winsBy_84 hF h (fun h => h)
set_option maxRecDepth 100000 in
set_option maxHeartbeats 4000000 in
theorem w_M_winsBy_75 {X : zX} {G : zG} {v1 : Int} {v2 : Int} {μ : zM} {rv : Option zV} {ν : zM} (hX : zOk X G cX6_winsBy RX6 6 (some .boolean) 6) (hF : zFin X G rv ν) {v3 : Int} (h : zP (Sum.elim (k_M_winsBy X G v1 v2) (fun r : (Int × zM) => (some (zI r.1), r.2) = (rv, ν))) (j_M_winsBy_75 v1 v2 v3 μ)) : zW X G 6 75 [some (zR 42), some (zI v1), some (zI v2), some (zI v3), none, none] [] μ := by
  refine zr_iconst hX dX6_winsBy_75 (zrl rfl) ?_
  exact zW_lf (w_M_winsBy_76 hX hF h) (And.intro rfl (And.intro rfl (And.intro rfl (And.intro rfl trivial))))
set_option maxRecDepth 100000 in
set_option maxHeartbeats 4000000 in
theorem w_M_winsBy_50 {X : zX} {G : zG} {v1 : Int} {v2 : Int} {μ : zM} {rv : Option zV} {ν : zM} (hX : zOk X G cX6_winsBy RX6 6 (some .boolean) 6) (hF : zFin X G rv ν) {v3 w0 : Int} (h : zP (Sum.elim (k_M_winsBy X G v1 v2) (fun r : (Int × zM) => (some (zI r.1), r.2) = (rv, ν))) (j_M_winsBy_50 v1 v2 v3 w0 μ)) : zW X G 6 50 [some (zR 42), some (zI v1), some (zI v2), some (zI v3), none, none] [zI w0] μ := by
  refine zr_istore hX dX6_winsBy_50 (Nat.le_of_ble_eq_true rfl) ?_
  refine zr_iload hX dX6_winsBy_52 rfl ?_
  refine zr_ifeq (tgt := 143) hX dX6_winsBy_54 rfl h (fun h => ?_) (fun h => ?_)
  · refine zr_aload_n hX dX6_winsBy_143 rfl rfl ?_
    refine zr_aload_n hX dX6_winsBy_144 rfl rfl ?_
    refine zr_getr hX dX6_winsBy_145 (k := 16) (q := 54) rfl rfl ww_867 rfl ?_
    refine zr_iload_n hX dX6_winsBy_148 rfl rfl ?_
    refine zr_iald (N := 5) hX dX6_winsBy_149 rfl rfl h (fun h => ?_)
    refine zr_iload_n hX dX6_winsBy_150 rfl rfl ?_
    refine zP_bind h (fun q1 hq1 h => ?_)
    refine zr_callV hX dX6_winsBy_151 (m_M_isBuilt hq1) rfl rfl rfl (z5 ww_1274 ww_1276 ww_64 ww_77 ww_1277) hy_X6_isBuilt rfl (Nat.le_of_ble_eq_true rfl) (Nat.le_of_ble_eq_true rfl) (Nat.le_of_ble_eq_true rfl) ?_
    refine zr_ifeq (tgt := 182) hX dX6_winsBy_154 rfl h (fun h => ?_) (fun h => ?_)
    · refine zr_aload_n hX dX6_winsBy_182 rfl rfl ?_
      refine zr_getr hX dX6_winsBy_183 (k := 16) (q := 54) rfl rfl ww_867 rfl ?_
      refine zr_iload_n hX dX6_winsBy_186 rfl rfl ?_
      refine zr_dup2 hX dX6_winsBy_187 rfl rfl ?_
      refine zr_iald (N := 5) hX dX6_winsBy_188 rfl rfl h (fun h => ?_)
      refine zr_iconst hX dX6_winsBy_189 (zrl rfl) ?_
      refine zr_iadd hX dX6_winsBy_190 ?_
      refine zr_iast (N := 5) hX dX6_winsBy_191 rfl rfl h (fun h => ?_)
      refine zr_goto hX dX6_winsBy_192 (tgt := 16) rfl ?_
      exact zW_lf (k_M_winsBy_16 h) (And.intro rfl (And.intro rfl (And.intro rfl (And.intro rfl trivial))))
    · refine zr_iinc hX dX6_winsBy_157 rfl (Nat.le_of_ble_eq_true rfl) ?_
      refine zr_iload_n hX dX6_winsBy_160 rfl rfl ?_
      refine zr_iload_n hX dX6_winsBy_161 rfl rfl ?_
      refine zr_icmpge (tgt := 192) hX dX6_winsBy_162 rfl h (fun h => ?_) (fun h => ?_)
      · refine zr_goto hX dX6_winsBy_192 (tgt := 16) rfl ?_
        exact zW_lf (k_M_winsBy_16 h) (And.intro rfl (And.intro rfl (And.intro rfl (And.intro rfl trivial))))
      · refine zr_aload_n hX dX6_winsBy_165 rfl rfl ?_
        refine zr_getr hX dX6_winsBy_166 (k := 16) (q := 54) rfl rfl ww_867 rfl ?_
        refine zr_iload_n hX dX6_winsBy_169 rfl rfl ?_
        refine zr_iconst hX dX6_winsBy_170 (zrl rfl) ?_
        refine zr_iast (N := 5) hX dX6_winsBy_171 rfl rfl h (fun h => ?_)
        refine zr_aload_n hX dX6_winsBy_172 rfl rfl ?_
        refine zr_getr hX dX6_winsBy_173 (k := 17) (q := 55) rfl rfl ww_868 rfl ?_
        refine zr_iload_n hX dX6_winsBy_176 rfl rfl ?_
        refine zr_iconst hX dX6_winsBy_177 (zrl rfl) ?_
        refine zr_bast (N := 5) hX dX6_winsBy_178 rfl rfl h (fun h => ?_)
        refine zr_goto hX dX6_winsBy_179 (tgt := 192) rfl ?_
        refine zr_goto hX dX6_winsBy_192 (tgt := 16) rfl ?_
        exact zW_lf (k_M_winsBy_16 h) (And.intro rfl (And.intro rfl (And.intro rfl (And.intro rfl trivial))))
  · refine zr_iload_n hX dX6_winsBy_57 rfl rfl ?_
    refine zr_iload_n hX dX6_winsBy_58 rfl rfl ?_
    refine zr_icmpge (tgt := 75) hX dX6_winsBy_59 rfl h (fun h => ?_) (fun h => ?_)
    · exact zW_lf (w_M_winsBy_75 hX hF h) (And.intro rfl (And.intro rfl (And.intro rfl (And.intro rfl trivial))))
    · refine zr_aload_n hX dX6_winsBy_62 rfl rfl ?_
      refine zr_getr hX dX6_winsBy_63 (k := 17) (q := 55) rfl rfl ww_868 rfl ?_
      refine zr_iload_n hX dX6_winsBy_66 rfl rfl ?_
      refine zr_bald (N := 5) hX dX6_winsBy_67 rfl rfl h (fun h => ?_)
      refine zr_ifeq (tgt := 75) hX dX6_winsBy_68 rfl h (fun h => ?_) (fun h => ?_)
      · exact zW_lf (w_M_winsBy_75 hX hF h) (And.intro rfl (And.intro rfl (And.intro rfl (And.intro rfl trivial))))
      · refine zr_iconst hX dX6_winsBy_71 (zrl rfl) ?_
        refine zr_goto hX dX6_winsBy_72 (tgt := 76) rfl ?_
        exact zW_lf (w_M_winsBy_76 hX hF h) (And.intro rfl (And.intro rfl (And.intro rfl (And.intro rfl trivial))))
set_option maxRecDepth 100000 in
set_option maxHeartbeats 4000000 in
theorem w_M_winsBy_45 {X : zX} {G : zG} {v1 : Int} {v2 : Int} {μ : zM} {rv : Option zV} {ν : zM} (hX : zOk X G cX6_winsBy RX6 6 (some .boolean) 6) (hF : zFin X G rv ν) {v3 : Int} (h : zP (Sum.elim (k_M_winsBy X G v1 v2) (fun r : (Int × zM) => (some (zI r.1), r.2) = (rv, ν))) (j_M_winsBy_45 v1 v2 v3 μ)) : zW X G 6 45 [some (zR 42), some (zI v1), some (zI v2), some (zI v3), none, none] [] μ := by
  refine zr_iconst hX dX6_winsBy_45 (zrl rfl) ?_
  refine zr_goto hX dX6_winsBy_46 (tgt := 50) rfl ?_
  exact zW_lf (w_M_winsBy_50 hX hF h) (And.intro rfl (And.intro rfl (And.intro rfl (And.intro rfl trivial))))
set_option maxRecDepth 100000 in
set_option maxHeartbeats 4000000 in
theorem w_M_winsBy_16 {X : zX} {G : zG} {v1 : Int} {v2 : Int} {μ : zM} {rv : Option zV} {ν : zM} (hX : zOk X G cX6_winsBy RX6 6 (some .boolean) 6) (hF : zFin X G rv ν) {v3 : Int} (h : zP (Sum.elim (k_M_winsBy X G v1 v2) (fun r : (Int × zM) => (some (zI r.1), r.2) = (rv, ν))) (b_M_winsBy_16 v1 v2 v3 μ)) : zW X G 6 16 [some (zR 42), some (zI v1), some (zI v2), some (zI v3), none, none] [] μ := by
  refine zr_iload_n hX dX6_winsBy_16 rfl rfl ?_
  refine zr_iload_n hX dX6_winsBy_17 rfl rfl ?_
  refine zr_icmpeq (tgt := 45) hX dX6_winsBy_18 rfl h (fun h => ?_) (fun h => ?_)
  · exact zW_lf (w_M_winsBy_45 hX hF h) (And.intro rfl (And.intro rfl (And.intro rfl (And.intro rfl trivial))))
  · refine zr_aload_n hX dX6_winsBy_21 rfl rfl ?_
    refine zr_getr hX dX6_winsBy_22 (k := 17) (q := 55) rfl rfl ww_868 rfl ?_
    refine zr_iload_n hX dX6_winsBy_25 rfl rfl ?_
    refine zr_bald (N := 5) hX dX6_winsBy_26 rfl rfl h (fun h => ?_)
    refine zr_ifne (tgt := 45) hX dX6_winsBy_27 rfl h (fun h => ?_) (fun h => ?_)
    · exact zW_lf (w_M_winsBy_45 hX hF h) (And.intro rfl (And.intro rfl (And.intro rfl (And.intro rfl trivial))))
    · refine zr_aload_n hX dX6_winsBy_30 rfl rfl ?_
      refine zr_getr hX dX6_winsBy_31 (k := 16) (q := 54) rfl rfl ww_867 rfl ?_
      refine zr_iload_n hX dX6_winsBy_34 rfl rfl ?_
      refine zr_iald (N := 5) hX dX6_winsBy_35 rfl rfl h (fun h => ?_)
      refine zr_aload_n hX dX6_winsBy_36 rfl rfl ?_
      refine zr_getr hX dX6_winsBy_37 (k := 0) (q := 43) rfl rfl ww_851 rfl ?_
      refine zr_iconst hX dX6_winsBy_40 (zrl rfl) ?_
      refine zr_ialdc hX dX6_winsBy_41 (N := 10956) rfl rfl rfl ?_
      refine zr_icmpne (tgt := 49) hX dX6_winsBy_42 rfl h (fun h => ?_) (fun h => ?_)
      · refine zr_iconst hX dX6_winsBy_49 (zrl rfl) ?_
        exact zW_lf (w_M_winsBy_50 hX hF h) (And.intro rfl (And.intro rfl (And.intro rfl (And.intro rfl trivial))))
      · exact zW_lf (w_M_winsBy_45 hX hF h) (And.intro rfl (And.intro rfl (And.intro rfl (And.intro rfl trivial))))
set_option maxRecDepth 100000 in
set_option maxHeartbeats 4000000 in
theorem w_M_winsBy_e {X : zX} {G : zG} {v1 : Int} {v2 : Int} {μ : zM} {rv : Option zV} {ν : zM} (hX : zOk X G cX6_winsBy RX6 6 (some .boolean) 6) (hF : zFin X G rv ν) (h : zP (Sum.elim (k_M_winsBy X G v1 v2) (fun r : (Int × zM) => (some (zI r.1), r.2) = (rv, ν))) (e_M_winsBy v1 v2 μ)) : zW X G 6 0 [some (zR 42), some (zI v1), some (zI v2), none, none, none] [] μ := by
  refine zr_iconst hX dX6_winsBy_0 (zrl rfl) ?_
  refine zr_istore_n hX dX6_winsBy_1 rfl (Nat.le_of_ble_eq_true rfl) ?_
  refine zr_aload_n hX dX6_winsBy_2 rfl rfl ?_
  refine zr_getr hX dX6_winsBy_3 (k := 16) (q := 54) rfl rfl ww_867 rfl ?_
  refine zr_iconst hX dX6_winsBy_6 (zrl rfl) ?_
  refine zr_iconst hX dX6_winsBy_7 (zrl rfl) ?_
  refine zr_iastc hX dX6_winsBy_8 (N := 5) rfl rfl rfl ?_
  refine zr_aload_n hX dX6_winsBy_9 rfl rfl ?_
  refine zr_getr hX dX6_winsBy_10 (k := 17) (q := 55) rfl rfl ww_868 rfl ?_
  refine zr_iconst hX dX6_winsBy_13 (zrl rfl) ?_
  refine zr_iconst hX dX6_winsBy_14 (zrl rfl) ?_
  refine zr_bastc hX dX6_winsBy_15 (N := 5) rfl rfl rfl (Or.inl rfl) ?_
  exact zW_lf (k_M_winsBy_16 h) (And.intro rfl (And.intro rfl (And.intro rfl (And.intro rfl trivial))))
set_option maxRecDepth 100000 in
theorem m_M_winsBy {l : Launch} {G : zG} {v1 : Int} {v2 : Int} {μ : zM} {q : Int × zM} (hq : f_M_winsBy v1 v2 μ = some q) : zCT l G yX6_winsBy cX6_winsBy 6 (some .boolean) 6 [zR 42, zI v1, zI v2] μ (some (zI q.1)) q.2 := by
  refine zMet (lv := [some (zR 42), some (zI v1), some (zI v2), none, none, none]) (k := 3) pl_X6 rfl (Nat.le_of_ble_eq_true rfl) (fun X hl hX hF _ _ => ?_)
  refine w_M_winsBy_e hX hF (zgo_K (r := q) (step := t_M_winsBy v1 v2) (fun s h => ?_) rfl hq)
  exact w_M_winsBy_16 hX hF h
set_option maxRecDepth 100000 in
set_option maxHeartbeats 4000000 in
theorem w_M_isGame_e {X : zX} {G : zG} {v1 : Int} {v2 : Int} {μ : zM} {rv : Option zV} {ν : zM} (hX : zOk X G cX6_isGame RX6 3 (some .boolean) 2) (hF : zFin X G rv ν) (h : zP (fun r : Int => (some (zI r), μ) = (rv, ν)) (fo_M_isGame v1 v2)) : zW X G 3 0 [some (zR 42), some (zI v1), some (zI v2)] [] μ := by
  refine zr_iload_n hX dX6_isGame_0 rfl rfl ?_
  refine zr_i2l hX dX6_isGame_1 ?_
  refine zr_lconst hX dX6_isGame_2 (n := 0) rfl (zrlJ rfl) ?_
  refine zr_ldc2 hX dX6_isGame_3 ww_1127 rfl (zrlJ rfl) ?_
  refine zr_callS hX dX6_isGame_6 (m_M_in) rfl (z4 ww_918 ww_919 ww_77 ww_920) hy_X6_in rfl (Nat.le_of_ble_eq_true rfl) (Nat.le_of_ble_eq_true rfl) (Nat.le_of_ble_eq_true rfl) ?_
  refine zr_ifeq (tgt := 28) hX dX6_isGame_9 rfl h (fun h => ?_) (fun h => ?_)
  · refine zr_iconst hX dX6_isGame_28 (zrl rfl) ?_
    exact zr_bretc hX dX6_isGame_29 hF (Or.inl rfl) h
  · refine zr_iload_n hX dX6_isGame_12 rfl rfl ?_
    refine zr_i2l hX dX6_isGame_13 ?_
    refine zr_lconst hX dX6_isGame_14 (n := 0) rfl (zrlJ rfl) ?_
    refine zr_ldc2 hX dX6_isGame_15 ww_1169 rfl (zrlJ rfl) ?_
    refine zr_callS hX dX6_isGame_18 (m_M_in) rfl (z4 ww_918 ww_919 ww_77 ww_920) hy_X6_in rfl (Nat.le_of_ble_eq_true rfl) (Nat.le_of_ble_eq_true rfl) (Nat.le_of_ble_eq_true rfl) ?_
    refine zr_ifeq (tgt := 28) hX dX6_isGame_21 rfl h (fun h => ?_) (fun h => ?_)
    · refine zr_iconst hX dX6_isGame_28 (zrl rfl) ?_
      exact zr_bretc hX dX6_isGame_29 hF (Or.inl rfl) h
    · refine zr_iconst hX dX6_isGame_24 (zrl rfl) ?_
      refine zr_goto hX dX6_isGame_25 (tgt := 29) rfl ?_
      exact zr_bretc hX dX6_isGame_29 hF (Or.inr rfl) h
set_option maxRecDepth 100000 in
theorem m_M_isGame {l : Launch} {G : zG} {v1 : Int} {v2 : Int} {μ : zM} : zCT l G yX6_isGame cX6_isGame 3 (some .boolean) 2 [zR 42, zI v1, zI v2] μ (some (zI (f_M_isGame v1 v2))) μ := by
  refine zMet (lv := [some (zR 42), some (zI v1), some (zI v2)]) (k := 0) pl_X6 rfl (Nat.le_of_ble_eq_true rfl) (fun X hl hX hF _ _ => ?_)
  exact w_M_isGame_e hX hF (by rw [fo_M_isGame_eq]; rfl)
set_option maxRecDepth 100000 in
set_option maxHeartbeats 4000000 in
theorem w_M_game_e {X : zX} {G : zG} {v1 : Int} {v2 : Int} {μ : zM} {rv : Option zV} {ν : zM} (hX : zOk X G cX6_game RX6 3 (some .int) 7) (hF : zFin X G rv ν) (h : zP (fun r : (Int × zM) => (some (zI r.1), r.2) = (rv, ν)) (f_M_game v1 v2 μ)) : zW X G 3 0 [some (zR 42), some (zI v1), some (zI v2)] [] μ := by
  refine zr_aload_n hX dX6_game_0 rfl rfl ?_
  refine zr_iload_n hX dX6_game_1 rfl rfl ?_
  refine zr_iload_n hX dX6_game_2 rfl rfl ?_
  refine zr_callV hX dX6_game_3 (m_M_isGame) rfl rfl rfl (z5 ww_1266 ww_1268 ww_62 ww_77 ww_1269) hy_X6_isGame rfl (Nat.le_of_ble_eq_true rfl) (Nat.le_of_ble_eq_true rfl) (Nat.le_of_ble_eq_true rfl) ?_
  refine zr_ifne (tgt := 11) hX dX6_game_6 rfl h (fun h => ?_) (fun h => ?_)
  · refine zr_aload_n hX dX6_game_11 rfl rfl ?_
    refine zr_callV hX dX6_game_12 (m_M_isNone) rfl rfl rfl (z5 ww_1157 ww_1159 ww_53 ww_77 ww_1160) hy_X6_isNone rfl (Nat.le_of_ble_eq_true rfl) (Nat.le_of_ble_eq_true rfl) (Nat.le_of_ble_eq_true rfl) ?_
    refine zr_ifeq (tgt := 23) hX dX6_game_15 rfl h (fun h => ?_) (fun h => ?_)
    · refine zr_aload_n hX dX6_game_23 rfl rfl ?_
      refine zr_iload_n hX dX6_game_24 rfl rfl ?_
      refine zr_iload_n hX dX6_game_25 rfl rfl ?_
      refine zP_bind h (fun q1 hq1 h => ?_)
      refine zr_callV hX dX6_game_26 (m_M_winsBy hq1) rfl rfl rfl (z5 ww_1270 ww_1272 ww_63 ww_77 ww_1273) hy_X6_winsBy rfl (Nat.le_of_ble_eq_true rfl) (Nat.le_of_ble_eq_true rfl) (Nat.le_of_ble_eq_true rfl) ?_
      refine zr_ifeq (tgt := 36) hX dX6_game_29 rfl h (fun h => ?_) (fun h => ?_)
      · refine zr_iconst hX dX6_game_36 (zrl rfl) ?_
        exact zr_iret hX dX6_game_37 hF h
      · refine zr_iconst hX dX6_game_32 (zrl rfl) ?_
        refine zr_goto hX dX6_game_33 (tgt := 37) rfl ?_
        exact zr_iret hX dX6_game_37 hF h
    · refine zr_bipush hX dX6_game_18 rfl ?_
      refine zr_goto hX dX6_game_20 (tgt := 37) rfl ?_
      exact zr_iret hX dX6_game_37 hF h
  · refine zr_iconst hX dX6_game_9 (zrl rfl) ?_
    exact zr_iret hX dX6_game_10 hF h
set_option maxRecDepth 100000 in
theorem m_M_game {l : Launch} {G : zG} {v1 : Int} {v2 : Int} {μ : zM} {q : Int × zM} (hq : f_M_game v1 v2 μ = some q) : zCT l G yX6_game cX6_game 3 (some .int) 7 [zR 42, zI v1, zI v2] μ (some (zI q.1)) q.2 := by
  refine zMet (lv := [some (zR 42), some (zI v1), some (zI v2)]) (k := 0) pl_X6 rfl (Nat.le_of_ble_eq_true rfl) (fun X hl hX hF _ _ => ?_)
  exact w_M_game_e hX hF (zP_of hq rfl)
def k_M_begin (X : zX) (G : zG) (v1 : Int) (v2 : Int) : (Int × zM) → Prop := fun s => zW X G 5 23 [some (zR 42), some (zI v1), some (zI v2), some (zI s.1), none] [] s.2
theorem k_M_begin_23 {X : zX} {G : zG} {v1 : Int} {v2 : Int} {F : (Int × zM) → Prop} {v3 : Int} {κ : zM} (h : zP (Sum.elim (k_M_begin X G v1 v2) F) (some (.inl ((v3, κ))))) : zW X G 5 23 [some (zR 42), some (zI v1), some (zI v2), some (zI v3), none] [] κ := h
set_option maxRecDepth 100000 in
set_option maxHeartbeats 4000000 in
theorem w_M_begin_62 {X : zX} {G : zG} {v1 : Int} {v2 : Int} {μ : zM} {rv : Option zV} {ν : zM} (hX : zOk X G cX6_begin RX6 5 (some .int) 7) (hF : zFin X G rv ν) {v3 w0 : Int} (h : zP (Sum.elim (k_M_begin X G v1 v2) (fun r : (Int × zM) => (some (zI r.1), r.2) = (rv, ν))) (j_M_begin_62 v1 v2 v3 w0 μ)) : zW X G 5 62 [some (zR 42), some (zI v1), some (zI v2), some (zI v3), none] [zI w0] μ := by
  refine zr_istore hX dX6_begin_62 (Nat.le_of_ble_eq_true rfl) ?_
  refine zr_aload_n hX dX6_begin_64 rfl rfl ?_
  refine zr_getr hX dX6_begin_65 (k := 0) (q := 43) rfl rfl ww_851 rfl ?_
  refine zr_iconst hX dX6_begin_68 (zrl rfl) ?_
  refine zr_iload_n hX dX6_begin_69 rfl rfl ?_
  refine zr_iadd hX dX6_begin_70 ?_
  refine zr_dup2 hX dX6_begin_71 rfl rfl ?_
  refine zr_iald (N := 10956) hX dX6_begin_72 rfl rfl h (fun h => ?_)
  refine zr_iconst hX dX6_begin_73 (zrl rfl) ?_
  refine zr_isub hX dX6_begin_74 ?_
  refine zr_iast (N := 10956) hX dX6_begin_75 rfl rfl h (fun h => ?_)
  refine zr_iload hX dX6_begin_76 rfl ?_
  refine zr_ifeq (tgt := 83) hX dX6_begin_78 rfl h (fun h => ?_) (fun h => ?_)
  · refine zr_iinc hX dX6_begin_83 rfl (Nat.le_of_ble_eq_true rfl) ?_
    refine zr_goto hX dX6_begin_86 (tgt := 23) rfl ?_
    exact zW_lf (k_M_begin_23 h) (And.intro rfl (And.intro rfl (And.intro rfl (And.intro rfl trivial))))
  · refine zr_iload_n hX dX6_begin_81 rfl rfl ?_
    exact zr_iret hX dX6_begin_82 hF h
set_option maxRecDepth 100000 in
set_option maxHeartbeats 4000000 in
theorem w_M_begin_23 {X : zX} {G : zG} {v1 : Int} {v2 : Int} {μ : zM} {rv : Option zV} {ν : zM} (hX : zOk X G cX6_begin RX6 5 (some .int) 7) (hF : zFin X G rv ν) {v3 : Int} (h : zP (Sum.elim (k_M_begin X G v1 v2) (fun r : (Int × zM) => (some (zI r.1), r.2) = (rv, ν))) (b_M_begin_23 v1 v2 v3 μ)) : zW X G 5 23 [some (zR 42), some (zI v1), some (zI v2), some (zI v3), none] [] μ := by
  refine zr_iload_n hX dX6_begin_23 rfl rfl ?_
  refine zr_aload_n hX dX6_begin_24 rfl rfl ?_
  refine zr_getr hX dX6_begin_25 (k := 0) (q := 43) rfl rfl ww_851 rfl ?_
  refine zr_iconst hX dX6_begin_28 (zrl rfl) ?_
  refine zr_ialdc hX dX6_begin_29 (N := 10956) rfl rfl rfl ?_
  refine zr_icmpge (tgt := 89) hX dX6_begin_30 rfl h (fun h => ?_) (fun h => ?_)
  · refine zr_bipush hX dX6_begin_89 rfl ?_
    exact zr_iret hX dX6_begin_91 hF h
  · refine zr_iload_n hX dX6_begin_33 rfl rfl ?_
    refine zr_ifle (tgt := 89) hX dX6_begin_34 rfl h (fun h => ?_) (fun h => ?_)
    · refine zr_bipush hX dX6_begin_89 rfl ?_
      exact zr_iret hX dX6_begin_91 hF h
    · refine zr_aload_n hX dX6_begin_37 rfl rfl ?_
      refine zr_iload_n hX dX6_begin_38 rfl rfl ?_
      refine zr_iload_n hX dX6_begin_39 rfl rfl ?_
      refine zP_bind h (fun q1 hq1 h => ?_)
      refine zr_callV hX dX6_begin_40 (m_M_isBuilt hq1) rfl rfl rfl (z5 ww_1274 ww_1276 ww_64 ww_77 ww_1277) hy_X6_isBuilt rfl (Nat.le_of_ble_eq_true rfl) (Nat.le_of_ble_eq_true rfl) (Nat.le_of_ble_eq_true rfl) ?_
      refine zr_ifeq (tgt := 83) hX dX6_begin_43 rfl h (fun h => ?_) (fun h => ?_)
      · refine zr_iinc hX dX6_begin_83 rfl (Nat.le_of_ble_eq_true rfl) ?_
        refine zr_goto hX dX6_begin_86 (tgt := 23) rfl ?_
        exact zW_lf (k_M_begin_23 h) (And.intro rfl (And.intro rfl (And.intro rfl (And.intro rfl trivial))))
      · refine zr_aload_n hX dX6_begin_46 rfl rfl ?_
        refine zr_iload_n hX dX6_begin_47 rfl rfl ?_
        refine zr_iload_n hX dX6_begin_48 rfl rfl ?_
        refine zr_iconst hX dX6_begin_49 (zrl rfl) ?_
        refine zr_isub hX dX6_begin_50 ?_
        refine zP_bind h (fun q2 hq2 h => ?_)
        refine zr_callV hX dX6_begin_51 (m_M_winsBy hq2) rfl rfl rfl (z5 ww_1270 ww_1272 ww_63 ww_77 ww_1273) hy_X6_winsBy rfl (Nat.le_of_ble_eq_true rfl) (Nat.le_of_ble_eq_true rfl) (Nat.le_of_ble_eq_true rfl) ?_
        refine zr_ifne (tgt := 61) hX dX6_begin_54 rfl h (fun h => ?_) (fun h => ?_)
        · refine zr_iconst hX dX6_begin_61 (zrl rfl) ?_
          exact zW_lf (w_M_begin_62 hX hF h) (And.intro rfl (And.intro rfl (And.intro rfl (And.intro rfl trivial))))
        · refine zr_iconst hX dX6_begin_57 (zrl rfl) ?_
          refine zr_goto hX dX6_begin_58 (tgt := 62) rfl ?_
          exact zW_lf (w_M_begin_62 hX hF h) (And.intro rfl (And.intro rfl (And.intro rfl (And.intro rfl trivial))))
set_option maxRecDepth 100000 in
set_option maxHeartbeats 4000000 in
theorem w_M_begin_e {X : zX} {G : zG} {v1 : Int} {v2 : Int} {μ : zM} {rv : Option zV} {ν : zM} (hX : zOk X G cX6_begin RX6 5 (some .int) 7) (hF : zFin X G rv ν) (h : zP (Sum.elim (k_M_begin X G v1 v2) (fun r : (Int × zM) => (some (zI r.1), r.2) = (rv, ν))) (e_M_begin v1 v2 μ)) : zW X G 5 0 [some (zR 42), some (zI v1), some (zI v2), none, none] [] μ := by
  refine zr_aload_n hX dX6_begin_0 rfl rfl ?_
  refine zr_iload_n hX dX6_begin_1 rfl rfl ?_
  refine zr_iload_n hX dX6_begin_2 rfl rfl ?_
  refine zr_callV hX dX6_begin_3 (m_M_isGame) rfl rfl rfl (z5 ww_1266 ww_1268 ww_62 ww_77 ww_1269) hy_X6_isGame rfl (Nat.le_of_ble_eq_true rfl) (Nat.le_of_ble_eq_true rfl) (Nat.le_of_ble_eq_true rfl) ?_
  refine zr_ifne (tgt := 11) hX dX6_begin_6 rfl h (fun h => ?_) (fun h => ?_)
  · refine zr_aload_n hX dX6_begin_11 rfl rfl ?_
    refine zr_callV hX dX6_begin_12 (m_M_isNone) rfl rfl rfl (z5 ww_1157 ww_1159 ww_53 ww_77 ww_1160) hy_X6_isNone rfl (Nat.le_of_ble_eq_true rfl) (Nat.le_of_ble_eq_true rfl) (Nat.le_of_ble_eq_true rfl) ?_
    refine zr_ifeq (tgt := 21) hX dX6_begin_15 rfl h (fun h => ?_) (fun h => ?_)
    · refine zr_iconst hX dX6_begin_21 (zrl rfl) ?_
      refine zr_istore_n hX dX6_begin_22 rfl (Nat.le_of_ble_eq_true rfl) ?_
      exact zW_lf (k_M_begin_23 h) (And.intro rfl (And.intro rfl (And.intro rfl (And.intro rfl trivial))))
    · refine zr_bipush hX dX6_begin_18 rfl ?_
      exact zr_iret hX dX6_begin_20 hF h
  · refine zr_iconst hX dX6_begin_9 (zrl rfl) ?_
    exact zr_iret hX dX6_begin_10 hF h
set_option maxRecDepth 100000 in
theorem m_M_begin {l : Launch} {G : zG} {v1 : Int} {v2 : Int} {μ : zM} {q : Int × zM} (hq : f_M_begin v1 v2 μ = some q) : zCT l G yX6_begin cX6_begin 5 (some .int) 7 [zR 42, zI v1, zI v2] μ (some (zI q.1)) q.2 := by
  refine zMet (lv := [some (zR 42), some (zI v1), some (zI v2), none, none]) (k := 2) pl_X6 rfl (Nat.le_of_ble_eq_true rfl) (fun X hl hX hF _ _ => ?_)
  refine w_M_begin_e hX hF (zgo_K (r := q) (step := t_M_begin v1 v2) (fun s h => ?_) rfl hq)
  exact w_M_begin_23 hX hF h
def k_M_isSeen (X : zX) (G : zG) (v1 : Int) (v2 : Int) (μ : zM) : (Int × Int) → Prop := fun s => zW X G 5 5 [some (zR 42), some (zI v1), some (zI v2), some (zI s.1), some (zI s.2)] [] μ
theorem k_M_isSeen_5 {X : zX} {G : zG} {v1 : Int} {v2 : Int} {μ : zM} {F : Int → Prop} {v3 v4 : Int} (h : zP (Sum.elim (k_M_isSeen X G v1 v2 μ) F) (some (.inl ((v3, v4))))) : zW X G 5 5 [some (zR 42), some (zI v1), some (zI v2), some (zI v3), some (zI v4)] [] μ := h
set_option maxRecDepth 100000 in
set_option maxHeartbeats 4000000 in
theorem w_M_isSeen_5 {X : zX} {G : zG} {v1 : Int} {v2 : Int} {μ : zM} {rv : Option zV} {ν : zM} (hX : zOk X G cX6_isSeen RX6 5 (some .boolean) 5) (hF : zFin X G rv ν) {v3 v4 : Int} (h : zP (Sum.elim (k_M_isSeen X G v1 v2 μ) (fun r : Int => (some (zI r), μ) = (rv, ν))) (b_M_isSeen_5 v1 v2 v3 v4 μ)) : zW X G 5 5 [some (zR 42), some (zI v1), some (zI v2), some (zI v3), some (zI v4)] [] μ := by
  refine zr_iload hX dX6_isSeen_5 rfl ?_
  refine zr_aload_n hX dX6_isSeen_7 rfl rfl ?_
  refine zP_bind h (fun q1 hq1 h => ?_)
  refine zr_callV hX dX6_isSeen_8 (m_M_houses hq1) rfl rfl rfl (z5 ww_1023 ww_1025 ww_32 ww_77 ww_1026) hy_X6_houses rfl (Nat.le_of_ble_eq_true rfl) (Nat.le_of_ble_eq_true rfl) (Nat.le_of_ble_eq_true rfl) ?_
  refine zr_icmpge (tgt := 62) hX dX6_isSeen_11 rfl h (fun h => ?_) (fun h => ?_)
  · refine zr_iload_n hX dX6_isSeen_62 rfl rfl ?_
    exact zr_bret hX dX6_isSeen_63 hF h (fun h => h)
  · refine zr_iload_n hX dX6_isSeen_14 rfl rfl ?_
    refine zr_ifeq (tgt := 54) hX dX6_isSeen_15 rfl h (fun h => ?_) (fun h => ?_)
    · refine zr_iconst hX dX6_isSeen_54 (zrl rfl) ?_
      refine zr_istore_n hX dX6_isSeen_55 rfl (Nat.le_of_ble_eq_true rfl) ?_
      refine zr_iinc hX dX6_isSeen_56 rfl (Nat.le_of_ble_eq_true rfl) ?_
      refine zr_goto hX dX6_isSeen_59 (tgt := 5) rfl ?_
      exact zW_lf (k_M_isSeen_5 h) (And.intro rfl (And.intro rfl (And.intro rfl (And.intro rfl (And.intro rfl trivial)))))
    · refine zr_aload_n hX dX6_isSeen_18 rfl rfl ?_
      refine zr_aload_n hX dX6_isSeen_19 rfl rfl ?_
      refine zr_iload hX dX6_isSeen_20 rfl ?_
      refine zP_bind h (fun q2 hq2 h => ?_)
      refine zr_callV hX dX6_isSeen_22 (m_M_towerOf hq2) rfl rfl rfl (z5 ww_1027 ww_1029 ww_33 ww_77 ww_1030) hy_X6_towerOf rfl (Nat.le_of_ble_eq_true rfl) (Nat.le_of_ble_eq_true rfl) (Nat.le_of_ble_eq_true rfl) ?_
      refine zr_aload_n hX dX6_isSeen_25 rfl rfl ?_
      refine zr_iload hX dX6_isSeen_26 rfl ?_
      refine zP_bind h (fun q3 hq3 h => ?_)
      refine zr_callV hX dX6_isSeen_28 (m_M_storeyOf hq3) rfl rfl rfl (z5 ww_1031 ww_1033 ww_34 ww_77 ww_1034) hy_X6_storeyOf rfl (Nat.le_of_ble_eq_true rfl) (Nat.le_of_ble_eq_true rfl) (Nat.le_of_ble_eq_true rfl) ?_
      refine zr_iload_n hX dX6_isSeen_31 rfl rfl ?_
      refine zP_bind h (fun q4 hq4 h => ?_)
      refine zr_callV hX dX6_isSeen_32 (m_M_lightBy hq4) rfl rfl rfl (z5 ww_1079 ww_1081 ww_43 ww_77 ww_1082) hy_X6_lightBy rfl (Nat.le_of_ble_eq_true rfl) (Nat.le_of_ble_eq_true rfl) (Nat.le_of_ble_eq_true rfl) ?_
      refine zr_aload_n hX dX6_isSeen_35 rfl rfl ?_
      refine zr_getr hX dX6_isSeen_36 (k := 3) (q := 45) rfl rfl ww_854 rfl ?_
      refine zr_bipush hX dX6_isSeen_39 rfl ?_
      refine zr_iload_n hX dX6_isSeen_41 rfl rfl ?_
      refine zr_imul hX dX6_isSeen_42 ?_
      refine zr_iload hX dX6_isSeen_43 rfl ?_
      refine zr_iadd hX dX6_isSeen_45 ?_
      refine zr_iald (N := 240) hX dX6_isSeen_46 rfl rfl h (fun h => ?_)
      refine zr_icmpne (tgt := 54) hX dX6_isSeen_47 rfl h (fun h => ?_) (fun h => ?_)
      · refine zr_iconst hX dX6_isSeen_54 (zrl rfl) ?_
        refine zr_istore_n hX dX6_isSeen_55 rfl (Nat.le_of_ble_eq_true rfl) ?_
        refine zr_iinc hX dX6_isSeen_56 rfl (Nat.le_of_ble_eq_true rfl) ?_
        refine zr_goto hX dX6_isSeen_59 (tgt := 5) rfl ?_
        exact zW_lf (k_M_isSeen_5 h) (And.intro rfl (And.intro rfl (And.intro rfl (And.intro rfl (And.intro rfl trivial)))))
      · refine zr_iconst hX dX6_isSeen_50 (zrl rfl) ?_
        refine zr_goto hX dX6_isSeen_51 (tgt := 55) rfl ?_
        refine zr_istore_n hX dX6_isSeen_55 rfl (Nat.le_of_ble_eq_true rfl) ?_
        refine zr_iinc hX dX6_isSeen_56 rfl (Nat.le_of_ble_eq_true rfl) ?_
        refine zr_goto hX dX6_isSeen_59 (tgt := 5) rfl ?_
        exact zW_lf (k_M_isSeen_5 h) (And.intro rfl (And.intro rfl (And.intro rfl (And.intro rfl (And.intro rfl trivial)))))
set_option maxRecDepth 100000 in
set_option maxHeartbeats 4000000 in
theorem w_M_isSeen_e {X : zX} {G : zG} {v1 : Int} {v2 : Int} {μ : zM} {rv : Option zV} {ν : zM} (hX : zOk X G cX6_isSeen RX6 5 (some .boolean) 5) (hF : zFin X G rv ν) (h : zP (Sum.elim (k_M_isSeen X G v1 v2 μ) (fun r : Int => (some (zI r), μ) = (rv, ν))) (e_M_isSeen v1 v2 μ)) : zW X G 5 0 [some (zR 42), some (zI v1), some (zI v2), none, none] [] μ := by
  refine zr_iconst hX dX6_isSeen_0 (zrl rfl) ?_
  refine zr_istore_n hX dX6_isSeen_1 rfl (Nat.le_of_ble_eq_true rfl) ?_
  refine zr_iconst hX dX6_isSeen_2 (zrl rfl) ?_
  refine zr_istore hX dX6_isSeen_3 (Nat.le_of_ble_eq_true rfl) ?_
  exact zW_lf (k_M_isSeen_5 h) (And.intro rfl (And.intro rfl (And.intro rfl (And.intro rfl (And.intro rfl trivial)))))
set_option maxRecDepth 100000 in
theorem m_M_isSeen {l : Launch} {G : zG} {v1 : Int} {v2 : Int} {μ : zM} {q : Int} (hq : f_M_isSeen v1 v2 μ = some q) : zCT l G yX6_isSeen cX6_isSeen 5 (some .boolean) 5 [zR 42, zI v1, zI v2] μ (some (zI q)) μ := by
  refine zMet (lv := [some (zR 42), some (zI v1), some (zI v2), none, none]) (k := 2) pl_X6 rfl (Nat.le_of_ble_eq_true rfl) (fun X hl hX hF _ _ => ?_)
  refine w_M_isSeen_e hX hF (zgo_K (r := q) (step := t_M_isSeen v1 v2 μ) (fun s h => ?_) rfl hq)
  exact w_M_isSeen_5 hX hF h
def k_M_fog (X : zX) (G : zG) (v1 : Int) : (Int × Int × Int × zM) → Prop := fun s => zW X G 6 51 [some (zR 42), some (zI v1), some (zI s.1), some (zI s.2.1), some (zI s.2.2.1), none] [] s.2.2.2
theorem k_M_fog_51 {X : zX} {G : zG} {v1 : Int} {F : (Int × zM) → Prop} {v2 v3 v4 : Int} {κ : zM} (h : zP (Sum.elim (k_M_fog X G v1) F) (some (.inl ((v2, v3, v4, κ))))) : zW X G 6 51 [some (zR 42), some (zI v1), some (zI v2), some (zI v3), some (zI v4), none] [] κ := h
set_option maxRecDepth 100000 in
set_option maxHeartbeats 4000000 in
theorem w_M_fog_82 {X : zX} {G : zG} {v1 : Int} {μ : zM} {rv : Option zV} {ν : zM} (hX : zOk X G cX6_fog RX6 6 (some .int) 6) (hF : zFin X G rv ν) {v2 v4 v5 w0 : Int} (h : zP (Sum.elim (k_M_fog X G v1) (fun r : (Int × zM) => (some (zI r.1), r.2) = (rv, ν))) (j_M_fog_82 v1 v2 v4 v5 w0 μ)) : zW X G 6 82 [some (zR 42), some (zI v1), some (zI v2), none, some (zI v4), some (zI v5)] [zI w0] μ := by
  refine zr_istore_n hX dX6_fog_82 rfl (Nat.le_of_ble_eq_true rfl) ?_
  refine zr_iload_n hX dX6_fog_83 rfl rfl ?_
  refine zr_iload hX dX6_fog_84 rfl ?_
  refine zr_ifeq (tgt := 93) hX dX6_fog_86 rfl h (fun h => ?_) (fun h => ?_)
  · refine zr_iconst hX dX6_fog_93 (zrl rfl) ?_
    refine zr_iadd hX dX6_fog_94 ?_
    refine zr_istore_n hX dX6_fog_95 rfl (Nat.le_of_ble_eq_true rfl) ?_
    refine zr_iinc hX dX6_fog_96 rfl (Nat.le_of_ble_eq_true rfl) ?_
    refine zr_goto hX dX6_fog_99 (tgt := 51) rfl ?_
    exact zW_lf (k_M_fog_51 h) (And.intro rfl (And.intro rfl (And.intro rfl (And.intro rfl (And.intro rfl trivial)))))
  · refine zr_iconst hX dX6_fog_89 (zrl rfl) ?_
    refine zr_goto hX dX6_fog_90 (tgt := 94) rfl ?_
    refine zr_iadd hX dX6_fog_94 ?_
    refine zr_istore_n hX dX6_fog_95 rfl (Nat.le_of_ble_eq_true rfl) ?_
    refine zr_iinc hX dX6_fog_96 rfl (Nat.le_of_ble_eq_true rfl) ?_
    refine zr_goto hX dX6_fog_99 (tgt := 51) rfl ?_
    exact zW_lf (k_M_fog_51 h) (And.intro rfl (And.intro rfl (And.intro rfl (And.intro rfl (And.intro rfl trivial)))))
set_option maxRecDepth 100000 in
set_option maxHeartbeats 4000000 in
theorem w_M_fog_81 {X : zX} {G : zG} {v1 : Int} {μ : zM} {rv : Option zV} {ν : zM} (hX : zOk X G cX6_fog RX6 6 (some .int) 6) (hF : zFin X G rv ν) {v2 v3 v4 v5 : Int} (h : zP (Sum.elim (k_M_fog X G v1) (fun r : (Int × zM) => (some (zI r.1), r.2) = (rv, ν))) (j_M_fog_81 v1 v2 v3 v4 v5 μ)) : zW X G 6 81 [some (zR 42), some (zI v1), some (zI v2), some (zI v3), some (zI v4), some (zI v5)] [] μ := by
  refine zr_iload_n hX dX6_fog_81 rfl rfl ?_
  exact zW_lf (w_M_fog_82 hX hF h) (And.intro rfl (And.intro rfl (And.intro rfl (And.intro rfl (And.intro rfl trivial)))))
set_option maxRecDepth 100000 in
set_option maxHeartbeats 4000000 in
theorem w_M_fog_51 {X : zX} {G : zG} {v1 : Int} {μ : zM} {rv : Option zV} {ν : zM} (hX : zOk X G cX6_fog RX6 6 (some .int) 6) (hF : zFin X G rv ν) {v2 v3 v4 : Int} (h : zP (Sum.elim (k_M_fog X G v1) (fun r : (Int × zM) => (some (zI r.1), r.2) = (rv, ν))) (b_M_fog_51 v1 v2 v3 v4 μ)) : zW X G 6 51 [some (zR 42), some (zI v1), some (zI v2), some (zI v3), some (zI v4), none] [] μ := by
  refine zr_iload hX dX6_fog_51 rfl ?_
  refine zr_bipush hX dX6_fog_53 rfl ?_
  refine zr_icmpge (tgt := 102) hX dX6_fog_55 rfl h (fun h => ?_) (fun h => ?_)
  · refine zr_aload_n hX dX6_fog_102 rfl rfl ?_
    refine zr_iload_n hX dX6_fog_103 rfl rfl ?_
    refine zr_iload_n hX dX6_fog_104 rfl rfl ?_
    refine zP_bind h (fun q4 hq4 h => ?_)
    refine zr_callV hX dX6_fog_105 (m_M_tells hq4) rfl rfl rfl (z5 ww_933 ww_935 ww_22 ww_77 ww_936) hy_X6_tells rfl (Nat.le_of_ble_eq_true rfl) (Nat.le_of_ble_eq_true rfl) (Nat.le_of_ble_eq_true rfl) ?_
    exact zr_iret hX dX6_fog_108 hF h
  · refine zr_aload_n hX dX6_fog_58 rfl rfl ?_
    refine zr_iload_n hX dX6_fog_59 rfl rfl ?_
    refine zr_iload hX dX6_fog_60 rfl ?_
    refine zP_bind h (fun q5 hq5 h => ?_)
    refine zr_callV hX dX6_fog_62 (m_M_isSeen hq5) rfl rfl rfl (z5 ww_1286 ww_1288 ww_65 ww_77 ww_1289) hy_X6_isSeen rfl (Nat.le_of_ble_eq_true rfl) (Nat.le_of_ble_eq_true rfl) (Nat.le_of_ble_eq_true rfl) ?_
    refine zr_istore hX dX6_fog_65 (Nat.le_of_ble_eq_true rfl) ?_
    refine zr_iload hX dX6_fog_67 rfl ?_
    refine zr_ifeq (tgt := 81) hX dX6_fog_69 rfl h (fun h => ?_) (fun h => ?_)
    · exact zW_lf (w_M_fog_81 hX hF h) (And.intro rfl (And.intro rfl (And.intro rfl (And.intro rfl (And.intro rfl (And.intro rfl trivial))))))
    · refine zr_iload_n hX dX6_fog_72 rfl rfl ?_
      refine zr_ifne (tgt := 81) hX dX6_fog_73 rfl h (fun h => ?_) (fun h => ?_)
      · exact zW_lf (w_M_fog_81 hX hF h) (And.intro rfl (And.intro rfl (And.intro rfl (And.intro rfl (And.intro rfl (And.intro rfl trivial))))))
      · refine zr_iload hX dX6_fog_76 rfl ?_
        refine zr_goto hX dX6_fog_78 (tgt := 82) rfl ?_
        exact zW_lf (w_M_fog_82 hX hF h) (And.intro rfl (And.intro rfl (And.intro rfl (And.intro rfl (And.intro rfl trivial)))))
set_option maxRecDepth 100000 in
set_option maxHeartbeats 4000000 in
theorem w_M_fog_e {X : zX} {G : zG} {v1 : Int} {μ : zM} {rv : Option zV} {ν : zM} (hX : zOk X G cX6_fog RX6 6 (some .int) 6) (hF : zFin X G rv ν) (h : zP (Sum.elim (k_M_fog X G v1) (fun r : (Int × zM) => (some (zI r.1), r.2) = (rv, ν))) (e_M_fog v1 μ)) : zW X G 6 0 [some (zR 42), some (zI v1), none, none, none, none] [] μ := by
  refine zr_iload_n hX dX6_fog_0 rfl rfl ?_
  refine zr_callS hX dX6_fog_1 (m_M_isRow) rfl (z4 ww_914 ww_915 ww_77 ww_916) hy_X6_isRow rfl (Nat.le_of_ble_eq_true rfl) (Nat.le_of_ble_eq_true rfl) (Nat.le_of_ble_eq_true rfl) ?_
  refine zr_ifne (tgt := 9) hX dX6_fog_4 rfl h (fun h => ?_) (fun h => ?_)
  · refine zr_aload_n hX dX6_fog_9 rfl rfl ?_
    refine zr_getr hX dX6_fog_10 (k := 4) (q := 46) rfl rfl ww_855 rfl ?_
    refine zr_iload_n hX dX6_fog_13 rfl rfl ?_
    refine zr_iald (N := 6) hX dX6_fog_14 rfl rfl h (fun h => ?_)
    refine zr_ifge (tgt := 24) hX dX6_fog_15 rfl h (fun h => ?_) (fun h => ?_)
    · refine zr_aload_n hX dX6_fog_24 rfl rfl ?_
      refine zr_getr hX dX6_fog_25 (k := 4) (q := 46) rfl rfl ww_855 rfl ?_
      refine zr_iload_n hX dX6_fog_28 rfl rfl ?_
      refine zr_iald (N := 6) hX dX6_fog_29 rfl rfl h (fun h => ?_)
      refine zr_aload_n hX dX6_fog_30 rfl rfl ?_
      refine zP_bind h (fun q1 hq1 h => ?_)
      refine zr_callV hX dX6_fog_31 (m_M_houses hq1) rfl rfl rfl (z5 ww_1023 ww_1025 ww_32 ww_77 ww_1026) hy_X6_houses rfl (Nat.le_of_ble_eq_true rfl) (Nat.le_of_ble_eq_true rfl) (Nat.le_of_ble_eq_true rfl) ?_
      refine zr_icmpeq (tgt := 43) hX dX6_fog_34 rfl h (fun h => ?_) (fun h => ?_)
      · refine zr_iconst hX dX6_fog_43 (zrl rfl) ?_
        refine zr_istore_n hX dX6_fog_44 rfl (Nat.le_of_ble_eq_true rfl) ?_
        refine zr_bipush hX dX6_fog_45 rfl ?_
        refine zr_istore_n hX dX6_fog_47 rfl (Nat.le_of_ble_eq_true rfl) ?_
        refine zr_iconst hX dX6_fog_48 (zrl rfl) ?_
        refine zr_istore hX dX6_fog_49 (Nat.le_of_ble_eq_true rfl) ?_
        exact zW_lf (k_M_fog_51 h) (And.intro rfl (And.intro rfl (And.intro rfl (And.intro rfl (And.intro rfl trivial)))))
      · refine zr_aload_n hX dX6_fog_37 rfl rfl ?_
        refine zr_iconst hX dX6_fog_38 (zrl rfl) ?_
        refine zP_bind h (fun q2 hq2 h => ?_)
        refine zr_callV hX dX6_fog_39 (m_M_found hq2) rfl rfl rfl (z5 ww_921 ww_923 ww_21 ww_77 ww_924) hy_X6_found rfl (Nat.le_of_ble_eq_true rfl) (Nat.le_of_ble_eq_true rfl) (Nat.le_of_ble_eq_true rfl) ?_
        exact zr_iret hX dX6_fog_42 hF h
    · refine zr_aload_n hX dX6_fog_18 rfl rfl ?_
      refine zr_iconst hX dX6_fog_19 (zrl rfl) ?_
      refine zP_bind h (fun q3 hq3 h => ?_)
      refine zr_callV hX dX6_fog_20 (m_M_found hq3) rfl rfl rfl (z5 ww_921 ww_923 ww_21 ww_77 ww_924) hy_X6_found rfl (Nat.le_of_ble_eq_true rfl) (Nat.le_of_ble_eq_true rfl) (Nat.le_of_ble_eq_true rfl) ?_
      exact zr_iret hX dX6_fog_23 hF h
  · refine zr_iconst hX dX6_fog_7 (zrl rfl) ?_
    exact zr_iret hX dX6_fog_8 hF h
set_option maxRecDepth 100000 in
theorem m_M_fog {l : Launch} {G : zG} {v1 : Int} {μ : zM} {q : Int × zM} (hq : f_M_fog v1 μ = some q) : zCT l G yX6_fog cX6_fog 6 (some .int) 6 [zR 42, zI v1] μ (some (zI q.1)) q.2 := by
  refine zMet (lv := [some (zR 42), some (zI v1), none, none, none, none]) (k := 4) pl_X6 rfl (Nat.le_of_ble_eq_true rfl) (fun X hl hX hF _ _ => ?_)
  refine w_M_fog_e hX hF (zgo_K (r := q) (step := t_M_fog v1) (fun s h => ?_) rfl hq)
  exact w_M_fog_51 hX hF h
def k_M_kinds (X : zX) (G : zG) (v1 : Int) (v2 : Int) (v3 : Int) : (Int × Int × Int × zM) → Prop := fun s => zW X G 7 81 [some (zR 42), some (zI v1), some (zI v2), some (zI v3), some (zI s.1), some (zI s.2.1), some (zI s.2.2.1)] [] s.2.2.2
theorem k_M_kinds_81 {X : zX} {G : zG} {v1 : Int} {v2 : Int} {v3 : Int} {F : (Int × zM) → Prop} {v4 v5 v6 : Int} {κ : zM} (h : zP (Sum.elim (k_M_kinds X G v1 v2 v3) F) (some (.inl ((v4, v5, v6, κ))))) : zW X G 7 81 [some (zR 42), some (zI v1), some (zI v2), some (zI v3), some (zI v4), some (zI v5), some (zI v6)] [] κ := h
set_option maxRecDepth 100000 in
set_option maxHeartbeats 4000000 in
theorem w_M_kinds_81 {X : zX} {G : zG} {v1 : Int} {v2 : Int} {v3 : Int} {μ : zM} {rv : Option zV} {ν : zM} (hX : zOk X G cX6_kinds RX6 7 (some .int) 6) (hF : zFin X G rv ν) {v4 v5 v6 : Int} (h : zP (Sum.elim (k_M_kinds X G v1 v2 v3) (fun r : (Int × zM) => (some (zI r.1), r.2) = (rv, ν))) (b_M_kinds_81 v1 v2 v3 v4 v5 v6 μ)) : zW X G 7 81 [some (zR 42), some (zI v1), some (zI v2), some (zI v3), some (zI v4), some (zI v5), some (zI v6)] [] μ := by
  refine zr_iload hX dX6_kinds_81 rfl ?_
  refine zr_bipush hX dX6_kinds_83 rfl ?_
  refine zr_icmpge (tgt := 132) hX dX6_kinds_85 rfl h (fun h => ?_) (fun h => ?_)
  · refine zr_aload_n hX dX6_kinds_132 rfl rfl ?_
    refine zr_getr hX dX6_kinds_133 (k := 0) (q := 43) rfl rfl ww_851 rfl ?_
    refine zr_bipush hX dX6_kinds_136 rfl ?_
    refine zr_bipush hX dX6_kinds_138 rfl ?_
    refine zr_iload_n hX dX6_kinds_140 rfl rfl ?_
    refine zr_imul hX dX6_kinds_141 ?_
    refine zr_iadd hX dX6_kinds_142 ?_
    refine zr_iload_n hX dX6_kinds_143 rfl rfl ?_
    refine zr_iadd hX dX6_kinds_144 ?_
    refine zr_iload hX dX6_kinds_145 rfl ?_
    refine zr_iast (N := 10956) hX dX6_kinds_147 rfl rfl h (fun h => ?_)
    refine zr_iload hX dX6_kinds_148 rfl ?_
    exact zr_iret hX dX6_kinds_150 hF h
  · refine zr_aload_n hX dX6_kinds_88 rfl rfl ?_
    refine zr_getr hX dX6_kinds_89 (k := 0) (q := 43) rfl rfl ww_851 rfl ?_
    refine zr_bipush hX dX6_kinds_92 rfl ?_
    refine zr_bipush hX dX6_kinds_94 rfl ?_
    refine zr_iload_n hX dX6_kinds_96 rfl rfl ?_
    refine zr_imul hX dX6_kinds_97 ?_
    refine zr_iadd hX dX6_kinds_98 ?_
    refine zr_iload_n hX dX6_kinds_99 rfl rfl ?_
    refine zr_iadd hX dX6_kinds_100 ?_
    refine zr_iload hX dX6_kinds_101 rfl ?_
    refine zr_iast (N := 10956) hX dX6_kinds_103 rfl rfl h (fun h => ?_)
    refine zr_iload hX dX6_kinds_104 rfl ?_
    refine zr_aload_n hX dX6_kinds_106 rfl rfl ?_
    refine zr_iload_n hX dX6_kinds_107 rfl rfl ?_
    refine zr_iconst hX dX6_kinds_108 (zrl rfl) ?_
    refine zP_bind h (fun q7 hq7 h => ?_)
    refine zr_callV hX dX6_kinds_109 (m_M_isSeen hq7) rfl rfl rfl (z5 ww_1286 ww_1288 ww_65 ww_77 ww_1289) hy_X6_isSeen rfl (Nat.le_of_ble_eq_true rfl) (Nat.le_of_ble_eq_true rfl) (Nat.le_of_ble_eq_true rfl) ?_
    refine zr_ifeq (tgt := 122) hX dX6_kinds_112 rfl h (fun h => ?_) (fun h => ?_)
    · refine zr_iconst hX dX6_kinds_122 (zrl rfl) ?_
      refine zr_ior hX dX6_kinds_123 ?_
      refine zr_istore hX dX6_kinds_124 (Nat.le_of_ble_eq_true rfl) ?_
      refine zr_iinc hX dX6_kinds_126 rfl (Nat.le_of_ble_eq_true rfl) ?_
      refine zr_goto hX dX6_kinds_129 (tgt := 81) rfl ?_
      exact zW_lf (k_M_kinds_81 h) (And.intro rfl (And.intro rfl (And.intro rfl (And.intro rfl (And.intro rfl (And.intro rfl (And.intro rfl trivial)))))))
    · refine zr_iconst hX dX6_kinds_115 (zrl rfl) ?_
      refine zr_iload hX dX6_kinds_116 rfl ?_
      refine zr_ishl hX dX6_kinds_118 ?_
      refine zr_goto hX dX6_kinds_119 (tgt := 123) rfl ?_
      refine zr_ior hX dX6_kinds_123 ?_
      refine zr_istore hX dX6_kinds_124 (Nat.le_of_ble_eq_true rfl) ?_
      refine zr_iinc hX dX6_kinds_126 rfl (Nat.le_of_ble_eq_true rfl) ?_
      refine zr_goto hX dX6_kinds_129 (tgt := 81) rfl ?_
      exact zW_lf (k_M_kinds_81 h) (And.intro rfl (And.intro rfl (And.intro rfl (And.intro rfl (And.intro rfl (And.intro rfl (And.intro rfl trivial)))))))
set_option maxRecDepth 100000 in
set_option maxHeartbeats 4000000 in
theorem w_M_kinds_e {X : zX} {G : zG} {v1 : Int} {v2 : Int} {v3 : Int} {μ : zM} {rv : Option zV} {ν : zM} (hX : zOk X G cX6_kinds RX6 7 (some .int) 6) (hF : zFin X G rv ν) (h : zP (Sum.elim (k_M_kinds X G v1 v2 v3) (fun r : (Int × zM) => (some (zI r.1), r.2) = (rv, ν))) (e_M_kinds v1 v2 v3 μ)) : zW X G 7 0 [some (zR 42), some (zI v1), some (zI v2), some (zI v3), none, none, none] [] μ := by
  refine zr_aload_n hX dX6_kinds_0 rfl rfl ?_
  refine zr_iload_n hX dX6_kinds_1 rfl rfl ?_
  refine zr_iload_n hX dX6_kinds_2 rfl rfl ?_
  refine zr_callV hX dX6_kinds_3 (m_M_isTold) rfl rfl rfl (z5 ww_1010 ww_1012 ww_29 ww_77 ww_1013) hy_X6_isTold rfl (Nat.le_of_ble_eq_true rfl) (Nat.le_of_ble_eq_true rfl) (Nat.le_of_ble_eq_true rfl) ?_
  refine zr_ifeq (tgt := 16) hX dX6_kinds_6 rfl h (fun h => ?_) (fun h => ?_)
  · refine zr_iconst hX dX6_kinds_16 (zrl rfl) ?_
    exact zr_iret hX dX6_kinds_17 hF h
  · refine zr_iload_n hX dX6_kinds_9 rfl rfl ?_
    refine zr_callS hX dX6_kinds_10 (m_M_isRow) rfl (z4 ww_914 ww_915 ww_77 ww_916) hy_X6_isRow rfl (Nat.le_of_ble_eq_true rfl) (Nat.le_of_ble_eq_true rfl) (Nat.le_of_ble_eq_true rfl) ?_
    refine zr_ifne (tgt := 18) hX dX6_kinds_13 rfl h (fun h => ?_) (fun h => ?_)
    · refine zr_aload_n hX dX6_kinds_18 rfl rfl ?_
      refine zr_iload_n hX dX6_kinds_19 rfl rfl ?_
      refine zr_iload_n hX dX6_kinds_20 rfl rfl ?_
      refine zP_bind h (fun q1 hq1 h => ?_)
      refine zr_callV hX dX6_kinds_21 (m_M_isThere hq1) rfl rfl rfl (z5 ww_1015 ww_1017 ww_30 ww_77 ww_1018) hy_X6_isThere rfl (Nat.le_of_ble_eq_true rfl) (Nat.le_of_ble_eq_true rfl) (Nat.le_of_ble_eq_true rfl) ?_
      refine zr_ifne (tgt := 33) hX dX6_kinds_24 rfl h (fun h => ?_) (fun h => ?_)
      · refine zr_aload_n hX dX6_kinds_33 rfl rfl ?_
        refine zr_getr hX dX6_kinds_34 (k := 4) (q := 46) rfl rfl ww_855 rfl ?_
        refine zr_iload_n hX dX6_kinds_37 rfl rfl ?_
        refine zr_iald (N := 6) hX dX6_kinds_38 rfl rfl h (fun h => ?_)
        refine zr_ifge (tgt := 48) hX dX6_kinds_39 rfl h (fun h => ?_) (fun h => ?_)
        · refine zr_aload_n hX dX6_kinds_48 rfl rfl ?_
          refine zr_getr hX dX6_kinds_49 (k := 4) (q := 46) rfl rfl ww_855 rfl ?_
          refine zr_iload_n hX dX6_kinds_52 rfl rfl ?_
          refine zr_iald (N := 6) hX dX6_kinds_53 rfl rfl h (fun h => ?_)
          refine zr_aload_n hX dX6_kinds_54 rfl rfl ?_
          refine zP_bind h (fun q2 hq2 h => ?_)
          refine zr_callV hX dX6_kinds_55 (m_M_houses hq2) rfl rfl rfl (z5 ww_1023 ww_1025 ww_32 ww_77 ww_1026) hy_X6_houses rfl (Nat.le_of_ble_eq_true rfl) (Nat.le_of_ble_eq_true rfl) (Nat.le_of_ble_eq_true rfl) ?_
          refine zr_icmpeq (tgt := 67) hX dX6_kinds_58 rfl h (fun h => ?_) (fun h => ?_)
          · refine zr_aload_n hX dX6_kinds_67 rfl rfl ?_
            refine zr_iload_n hX dX6_kinds_68 rfl rfl ?_
            refine zr_iload_n hX dX6_kinds_69 rfl rfl ?_
            refine zP_bind h (fun q3 hq3 h => ?_)
            refine zr_callV hX dX6_kinds_70 (m_M_kindAt hq3) rfl rfl rfl (z5 ww_1039 ww_1041 ww_36 ww_77 ww_1042) hy_X6_kindAt rfl (Nat.le_of_ble_eq_true rfl) (Nat.le_of_ble_eq_true rfl) (Nat.le_of_ble_eq_true rfl) ?_
            refine zr_istore hX dX6_kinds_73 (Nat.le_of_ble_eq_true rfl) ?_
            refine zr_iconst hX dX6_kinds_75 (zrl rfl) ?_
            refine zr_istore hX dX6_kinds_76 (Nat.le_of_ble_eq_true rfl) ?_
            refine zr_iconst hX dX6_kinds_78 (zrl rfl) ?_
            refine zr_istore hX dX6_kinds_79 (Nat.le_of_ble_eq_true rfl) ?_
            exact zW_lf (k_M_kinds_81 h) (And.intro rfl (And.intro rfl (And.intro rfl (And.intro rfl (And.intro rfl (And.intro rfl (And.intro rfl trivial)))))))
          · refine zr_aload_n hX dX6_kinds_61 rfl rfl ?_
            refine zr_iconst hX dX6_kinds_62 (zrl rfl) ?_
            refine zP_bind h (fun q4 hq4 h => ?_)
            refine zr_callV hX dX6_kinds_63 (m_M_found hq4) rfl rfl rfl (z5 ww_921 ww_923 ww_21 ww_77 ww_924) hy_X6_found rfl (Nat.le_of_ble_eq_true rfl) (Nat.le_of_ble_eq_true rfl) (Nat.le_of_ble_eq_true rfl) ?_
            exact zr_iret hX dX6_kinds_66 hF h
        · refine zr_aload_n hX dX6_kinds_42 rfl rfl ?_
          refine zr_iconst hX dX6_kinds_43 (zrl rfl) ?_
          refine zP_bind h (fun q5 hq5 h => ?_)
          refine zr_callV hX dX6_kinds_44 (m_M_found hq5) rfl rfl rfl (z5 ww_921 ww_923 ww_21 ww_77 ww_924) hy_X6_found rfl (Nat.le_of_ble_eq_true rfl) (Nat.le_of_ble_eq_true rfl) (Nat.le_of_ble_eq_true rfl) ?_
          exact zr_iret hX dX6_kinds_47 hF h
      · refine zr_aload_n hX dX6_kinds_27 rfl rfl ?_
        refine zr_iconst hX dX6_kinds_28 (zrl rfl) ?_
        refine zP_bind h (fun q6 hq6 h => ?_)
        refine zr_callV hX dX6_kinds_29 (m_M_found hq6) rfl rfl rfl (z5 ww_921 ww_923 ww_21 ww_77 ww_924) hy_X6_found rfl (Nat.le_of_ble_eq_true rfl) (Nat.le_of_ble_eq_true rfl) (Nat.le_of_ble_eq_true rfl) ?_
        exact zr_iret hX dX6_kinds_32 hF h
    · refine zr_iconst hX dX6_kinds_16 (zrl rfl) ?_
      exact zr_iret hX dX6_kinds_17 hF h
set_option maxRecDepth 100000 in
theorem m_M_kinds {l : Launch} {G : zG} {v1 : Int} {v2 : Int} {v3 : Int} {μ : zM} {q : Int × zM} (hq : f_M_kinds v1 v2 v3 μ = some q) : zCT l G yX6_kinds cX6_kinds 7 (some .int) 6 [zR 42, zI v1, zI v2, zI v3] μ (some (zI q.1)) q.2 := by
  refine zMet (lv := [some (zR 42), some (zI v1), some (zI v2), some (zI v3), none, none, none]) (k := 3) pl_X6 rfl (Nat.le_of_ble_eq_true rfl) (fun X hl hX hF _ _ => ?_)
  refine w_M_kinds_e hX hF (zgo_K (r := q) (step := t_M_kinds v1 v2 v3) (fun s h => ?_) rfl hq)
  exact w_M_kinds_81 hX hF h
set_option maxRecDepth 100000 in
set_option maxHeartbeats 4000000 in
theorem w_M_odds_48 {X : zX} {G : zG} {v1 : Int} {v2 : Int} {μ : zM} {rv : Option zV} {ν : zM} (hX : zOk X G cX6_odds RX6 4 (some .int) 4) (hF : zFin X G rv ν) {v3 w1 : Int} (h : zP (fun r : (Int × zM) => (some (zI r.1), r.2) = (rv, ν)) (j_M_odds_48 v1 v2 v3 w1 μ)) : zW X G 4 48 [some (zR 42), none, none, some (zI v3)] [zJ w1, zR 42] μ := by
  refine zr_putj hX dX6_odds_48 (k := 11) rfl rfl ww_862 rfl (by decide +kernel) ?_
  refine zr_aload_n hX dX6_odds_51 rfl rfl ?_
  refine zr_iload_n hX dX6_odds_52 rfl rfl ?_
  refine zr_iconst hX dX6_odds_53 (zrl rfl) ?_
  refine zr_icmpeq (tgt := 61) hX dX6_odds_54 rfl h (fun h => ?_) (fun h => ?_)
  · refine zr_lconst hX dX6_odds_61 (n := 1) rfl (zrlJ rfl) ?_
    refine zr_goto hX dX6_odds_62 (tgt := 68) rfl ?_
    refine zr_putj hX dX6_odds_68 (k := 12) rfl rfl ww_863 rfl (by decide +kernel) ?_
    refine zr_iconst hX dX6_odds_71 (zrl rfl) ?_
    exact zr_iret hX dX6_odds_72 hF h
  · refine zr_iload_n hX dX6_odds_57 rfl rfl ?_
    refine zr_ifne (tgt := 65) hX dX6_odds_58 rfl h (fun h => ?_) (fun h => ?_)
    · refine zr_ldc2 hX dX6_odds_65 ww_917 rfl (zrlJ rfl) ?_
      refine zr_putj hX dX6_odds_68 (k := 12) rfl rfl ww_863 rfl (by decide +kernel) ?_
      refine zr_iconst hX dX6_odds_71 (zrl rfl) ?_
      exact zr_iret hX dX6_odds_72 hF h
    · refine zr_lconst hX dX6_odds_61 (n := 1) rfl (zrlJ rfl) ?_
      refine zr_goto hX dX6_odds_62 (tgt := 68) rfl ?_
      refine zr_putj hX dX6_odds_68 (k := 12) rfl rfl ww_863 rfl (by decide +kernel) ?_
      refine zr_iconst hX dX6_odds_71 (zrl rfl) ?_
      exact zr_iret hX dX6_odds_72 hF h
set_option maxRecDepth 100000 in
set_option maxHeartbeats 4000000 in
theorem w_M_odds_e {X : zX} {G : zG} {v1 : Int} {v2 : Int} {μ : zM} {rv : Option zV} {ν : zM} (hX : zOk X G cX6_odds RX6 4 (some .int) 4) (hF : zFin X G rv ν) (h : zP (fun r : (Int × zM) => (some (zI r.1), r.2) = (rv, ν)) (f_M_odds v1 v2 μ)) : zW X G 4 0 [some (zR 42), some (zI v1), some (zI v2), none] [] μ := by
  refine zr_aload_n hX dX6_odds_0 rfl rfl ?_
  refine zr_iload_n hX dX6_odds_1 rfl rfl ?_
  refine zr_iload_n hX dX6_odds_2 rfl rfl ?_
  refine zr_callV hX dX6_odds_3 (m_M_isTold) rfl rfl rfl (z5 ww_1010 ww_1012 ww_29 ww_77 ww_1013) hy_X6_isTold rfl (Nat.le_of_ble_eq_true rfl) (Nat.le_of_ble_eq_true rfl) (Nat.le_of_ble_eq_true rfl) ?_
  refine zr_ifne (tgt := 11) hX dX6_odds_6 rfl h (fun h => ?_) (fun h => ?_)
  · refine zr_aload_n hX dX6_odds_11 rfl rfl ?_
    refine zr_iload_n hX dX6_odds_12 rfl rfl ?_
    refine zr_iload_n hX dX6_odds_13 rfl rfl ?_
    refine zP_bind h (fun q1 hq1 h => ?_)
    refine zr_callV hX dX6_odds_14 (m_M_isThere hq1) rfl rfl rfl (z5 ww_1015 ww_1017 ww_30 ww_77 ww_1018) hy_X6_isThere rfl (Nat.le_of_ble_eq_true rfl) (Nat.le_of_ble_eq_true rfl) (Nat.le_of_ble_eq_true rfl) ?_
    refine zr_ifne (tgt := 26) hX dX6_odds_17 rfl h (fun h => ?_) (fun h => ?_)
    · refine zr_aload_n hX dX6_odds_26 rfl rfl ?_
      refine zr_iload_n hX dX6_odds_27 rfl rfl ?_
      refine zr_iload_n hX dX6_odds_28 rfl rfl ?_
      refine zP_bind h (fun q2 hq2 h => ?_)
      refine zr_callV hX dX6_odds_29 (m_M_hoursOf hq2) rfl rfl rfl (z5 ww_1083 ww_1085 ww_44 ww_77 ww_1086) hy_X6_hoursOf rfl (Nat.le_of_ble_eq_true rfl) (Nat.le_of_ble_eq_true rfl) (Nat.le_of_ble_eq_true rfl) ?_
      refine zP_bind h (fun q3 hq3 h => ?_)
      refine zr_callS hX dX6_odds_32 (m_M_ones hq3) rfl (z4 ww_1087 ww_1088 ww_77 ww_1089) hy_X6_ones rfl (Nat.le_of_ble_eq_true rfl) (Nat.le_of_ble_eq_true rfl) (Nat.le_of_ble_eq_true rfl) ?_
      refine zr_istore_n hX dX6_odds_35 rfl (Nat.le_of_ble_eq_true rfl) ?_
      refine zr_aload_n hX dX6_odds_36 rfl rfl ?_
      refine zr_iload_n hX dX6_odds_37 rfl rfl ?_
      refine zr_iconst hX dX6_odds_38 (zrl rfl) ?_
      refine zr_icmpne (tgt := 46) hX dX6_odds_39 rfl h (fun h => ?_) (fun h => ?_)
      · refine zr_iload_n hX dX6_odds_46 rfl rfl ?_
        refine zr_i2l hX dX6_odds_47 ?_
        exact zW_lf (w_M_odds_48 hX hF h) (And.intro rfl (And.intro rfl trivial))
      · refine zr_lconst hX dX6_odds_42 (n := 1) rfl (zrlJ rfl) ?_
        refine zr_goto hX dX6_odds_43 (tgt := 48) rfl ?_
        exact zW_lf (w_M_odds_48 hX hF h) (And.intro rfl (And.intro rfl trivial))
    · refine zr_aload_n hX dX6_odds_20 rfl rfl ?_
      refine zr_iconst hX dX6_odds_21 (zrl rfl) ?_
      refine zP_bind h (fun q4 hq4 h => ?_)
      refine zr_callV hX dX6_odds_22 (m_M_found hq4) rfl rfl rfl (z5 ww_921 ww_923 ww_21 ww_77 ww_924) hy_X6_found rfl (Nat.le_of_ble_eq_true rfl) (Nat.le_of_ble_eq_true rfl) (Nat.le_of_ble_eq_true rfl) ?_
      exact zr_iret hX dX6_odds_25 hF h
  · refine zr_iconst hX dX6_odds_9 (zrl rfl) ?_
    exact zr_iret hX dX6_odds_10 hF h
set_option maxRecDepth 100000 in
theorem m_M_odds {l : Launch} {G : zG} {v1 : Int} {v2 : Int} {μ : zM} {q : Int × zM} (hq : f_M_odds v1 v2 μ = some q) : zCT l G yX6_odds cX6_odds 4 (some .int) 4 [zR 42, zI v1, zI v2] μ (some (zI q.1)) q.2 := by
  refine zMet (lv := [some (zR 42), some (zI v1), some (zI v2), none]) (k := 1) pl_X6 rfl (Nat.le_of_ble_eq_true rfl) (fun X hl hX hF _ _ => ?_)
  exact w_M_odds_e hX hF (zP_of hq rfl)
def k_M_lots (X : zX) (G : zG) (v1 : Int) (v2 : Int) : (Int × Int × Int × zM) → Prop := fun s => zW X G 8 59 [some (zR 42), some (zI v1), none, some (zJ s.1), none, some (zI s.2.1), some (zI s.2.2.1), none] [] s.2.2.2
theorem k_M_lots_59 {X : zX} {G : zG} {v1 : Int} {v2 : Int} {F : (Int × zM) → Prop} {v3 v5 v6 : Int} {κ : zM} (h : zP (Sum.elim (k_M_lots X G v1 v2) F) (some (.inl ((v3, v5, v6, κ))))) : zW X G 8 59 [some (zR 42), some (zI v1), none, some (zJ v3), none, some (zI v5), some (zI v6), none] [] κ := h
set_option maxRecDepth 100000 in
set_option maxHeartbeats 4000000 in
theorem w_M_lots_59 {X : zX} {G : zG} {v1 : Int} {v2 : Int} {μ : zM} {rv : Option zV} {ν : zM} (hX : zOk X G cX6_lots RX6 8 (some .int) 4) (hF : zFin X G rv ν) {v3 v5 v6 : Int} (h : zP (Sum.elim (k_M_lots X G v1 v2) (fun r : (Int × zM) => (some (zI r.1), r.2) = (rv, ν))) (b_M_lots_59 v1 v2 v3 v5 v6 μ)) : zW X G 8 59 [some (zR 42), some (zI v1), none, some (zJ v3), none, some (zI v5), some (zI v6), none] [] μ := by
  refine zr_iload hX dX6_lots_59 rfl ?_
  refine zr_iload_n hX dX6_lots_61 rfl rfl ?_
  refine zr_icmpge (tgt := 136) hX dX6_lots_62 rfl h (fun h => ?_) (fun h => ?_)
  · refine zr_iload hX dX6_lots_136 rfl ?_
    exact zr_iret hX dX6_lots_138 hF h
  · refine zr_lload_n hX dX6_lots_65 rfl rfl ?_
    refine zr_ldc2 hX dX6_lots_66 ww_1304 rfl (zrlJ rfl) ?_
    refine zr_lmul hX dX6_lots_69 ?_
    refine zr_ldc2 hX dX6_lots_70 ww_1305 rfl (zrlJ rfl) ?_
    refine zr_lremc hX dX6_lots_73 (by decide) ?_
    refine zr_lstore_n hX dX6_lots_74 rfl (Nat.le_of_ble_eq_true rfl) ?_
    refine zr_lload_n hX dX6_lots_75 rfl rfl ?_
    refine zr_aload_n hX dX6_lots_76 rfl rfl ?_
    refine zr_getr hX dX6_lots_77 (k := 0) (q := 43) rfl rfl ww_851 rfl ?_
    refine zr_iconst hX dX6_lots_80 (zrl rfl) ?_
    refine zr_ialdc hX dX6_lots_81 (N := 10956) rfl rfl rfl ?_
    refine zr_i2l hX dX6_lots_82 ?_
    refine zr_lrem hX dX6_lots_83 h (fun h => ?_)
    refine zr_l2i hX dX6_lots_84 ?_
    refine zr_istore hX dX6_lots_85 (Nat.le_of_ble_eq_true rfl) ?_
    refine zr_aload_n hX dX6_lots_87 rfl rfl ?_
    refine zr_iload hX dX6_lots_88 rfl ?_
    refine zP_bind h (fun q1 hq1 h => ?_)
    refine zr_callV hX dX6_lots_90 (m_M_hasRoom hq1) rfl rfl rfl (z5 ww_1132 ww_1134 ww_50 ww_77 ww_1135) hy_X6_hasRoom rfl (Nat.le_of_ble_eq_true rfl) (Nat.le_of_ble_eq_true rfl) (Nat.le_of_ble_eq_true rfl) ?_
    refine zr_ifeq (tgt := 130) hX dX6_lots_93 rfl h (fun h => ?_) (fun h => ?_)
    · refine zr_iinc hX dX6_lots_130 rfl (Nat.le_of_ble_eq_true rfl) ?_
      refine zr_goto hX dX6_lots_133 (tgt := 59) rfl ?_
      exact zW_lf (k_M_lots_59 h) (And.intro rfl (And.intro rfl (And.intro rfl (And.intro rfl (And.intro rfl trivial)))))
    · refine zr_aload_n hX dX6_lots_96 rfl rfl ?_
      refine zP_bind h (fun q2 hq2 h => ?_)
      refine zr_callV hX dX6_lots_97 (m_M_minds hq2) rfl rfl rfl (z5 ww_1136 ww_1138 ww_51 ww_77 ww_1139) hy_X6_minds rfl (Nat.le_of_ble_eq_true rfl) (Nat.le_of_ble_eq_true rfl) (Nat.le_of_ble_eq_true rfl) ?_
      refine zr_aload_n hX dX6_lots_100 rfl rfl ?_
      refine zr_iconst hX dX6_lots_101 (zrl rfl) ?_
      refine zr_iload hX dX6_lots_102 rfl ?_
      refine zr_lload_n hX dX6_lots_104 rfl rfl ?_
      refine zr_ldc2 hX dX6_lots_105 ww_1306 rfl (zrlJ rfl) ?_
      refine zr_ldivc hX dX6_lots_108 (by decide) ?_
      refine zr_ldc2 hX dX6_lots_109 ww_1014 rfl (zrlJ rfl) ?_
      refine zr_lremc hX dX6_lots_112 (by decide) ?_
      refine zr_l2i hX dX6_lots_113 ?_
      refine zr_lload_n hX dX6_lots_114 rfl rfl ?_
      refine zr_ldc2 hX dX6_lots_115 ww_1307 rfl (zrlJ rfl) ?_
      refine zr_ldivc hX dX6_lots_118 (by decide) ?_
      refine zr_ldc2 hX dX6_lots_119 ww_1308 rfl (zrlJ rfl) ?_
      refine zr_lremc hX dX6_lots_122 (by decide) ?_
      refine zr_l2i hX dX6_lots_123 ?_
      refine zP_bind h (fun q3 hq3 h => ?_)
      refine zr_callV hX dX6_lots_124 (m_M_adds hq3) rfl rfl rfl (z5 ww_986 ww_988 ww_26 ww_77 ww_989) hy_X6_adds rfl (Nat.le_of_ble_eq_true rfl) (Nat.le_of_ble_eq_true rfl) (Nat.le_of_ble_eq_true rfl) ?_
      refine zr_iinc hX dX6_lots_127 rfl (Nat.le_of_ble_eq_true rfl) ?_
      refine zr_iinc hX dX6_lots_130 rfl (Nat.le_of_ble_eq_true rfl) ?_
      refine zr_goto hX dX6_lots_133 (tgt := 59) rfl ?_
      exact zW_lf (k_M_lots_59 h) (And.intro rfl (And.intro rfl (And.intro rfl (And.intro rfl (And.intro rfl trivial)))))
set_option maxRecDepth 100000 in
set_option maxHeartbeats 4000000 in
theorem w_M_lots_e {X : zX} {G : zG} {v1 : Int} {v2 : Int} {μ : zM} {rv : Option zV} {ν : zM} (hX : zOk X G cX6_lots RX6 8 (some .int) 4) (hF : zFin X G rv ν) (h : zP (Sum.elim (k_M_lots X G v1 v2) (fun r : (Int × zM) => (some (zI r.1), r.2) = (rv, ν))) (e_M_lots v1 v2 μ)) : zW X G 8 0 [some (zR 42), some (zI v1), some (zI v2), none, none, none, none, none] [] μ := by
  refine zr_iload_n hX dX6_lots_0 rfl rfl ?_
  refine zr_i2l hX dX6_lots_1 ?_
  refine zr_lconst hX dX6_lots_2 (n := 1) rfl (zrlJ rfl) ?_
  refine zr_ldc2 hX dX6_lots_3 ww_1302 rfl (zrlJ rfl) ?_
  refine zr_callS hX dX6_lots_6 (m_M_in) rfl (z4 ww_918 ww_919 ww_77 ww_920) hy_X6_in rfl (Nat.le_of_ble_eq_true rfl) (Nat.le_of_ble_eq_true rfl) (Nat.le_of_ble_eq_true rfl) ?_
  refine zr_ifeq (tgt := 24) hX dX6_lots_9 rfl h (fun h => ?_) (fun h => ?_)
  · refine zr_iconst hX dX6_lots_24 (zrl rfl) ?_
    exact zr_iret hX dX6_lots_25 hF h
  · refine zr_iload_n hX dX6_lots_12 rfl rfl ?_
    refine zr_i2l hX dX6_lots_13 ?_
    refine zr_lconst hX dX6_lots_14 (n := 1) rfl (zrlJ rfl) ?_
    refine zr_ldc2 hX dX6_lots_15 ww_1303 rfl (zrlJ rfl) ?_
    refine zr_callS hX dX6_lots_18 (m_M_in) rfl (z4 ww_918 ww_919 ww_77 ww_920) hy_X6_in rfl (Nat.le_of_ble_eq_true rfl) (Nat.le_of_ble_eq_true rfl) (Nat.le_of_ble_eq_true rfl) ?_
    refine zr_ifne (tgt := 26) hX dX6_lots_21 rfl h (fun h => ?_) (fun h => ?_)
    · refine zr_aload_n hX dX6_lots_26 rfl rfl ?_
      refine zr_callV hX dX6_lots_27 (m_M_isNone) rfl rfl rfl (z5 ww_1157 ww_1159 ww_53 ww_77 ww_1160) hy_X6_isNone rfl (Nat.le_of_ble_eq_true rfl) (Nat.le_of_ble_eq_true rfl) (Nat.le_of_ble_eq_true rfl) ?_
      refine zr_ifeq (tgt := 36) hX dX6_lots_30 rfl h (fun h => ?_) (fun h => ?_)
      · refine zr_aload_n hX dX6_lots_36 rfl rfl ?_
        refine zr_geti hX dX6_lots_37 (k := 1) rfl rfl ww_852 ?_
        refine zr_iload_n hX dX6_lots_40 rfl rfl ?_
        refine zr_iadd hX dX6_lots_41 ?_
        refine zr_bipush hX dX6_lots_42 rfl ?_
        refine zr_icmple (tgt := 50) hX dX6_lots_44 rfl h (fun h => ?_) (fun h => ?_)
        · refine zr_iload_n hX dX6_lots_50 rfl rfl ?_
          refine zr_i2l hX dX6_lots_51 ?_
          refine zr_lstore_n hX dX6_lots_52 rfl (Nat.le_of_ble_eq_true rfl) ?_
          refine zr_iconst hX dX6_lots_53 (zrl rfl) ?_
          refine zr_istore hX dX6_lots_54 (Nat.le_of_ble_eq_true rfl) ?_
          refine zr_iconst hX dX6_lots_56 (zrl rfl) ?_
          refine zr_istore hX dX6_lots_57 (Nat.le_of_ble_eq_true rfl) ?_
          exact zW_lf (k_M_lots_59 h) (And.intro rfl (And.intro rfl (And.intro rfl (And.intro rfl (And.intro rfl trivial)))))
        · refine zr_bipush hX dX6_lots_47 rfl ?_
          exact zr_iret hX dX6_lots_49 hF h
      · refine zr_bipush hX dX6_lots_33 rfl ?_
        exact zr_iret hX dX6_lots_35 hF h
    · refine zr_iconst hX dX6_lots_24 (zrl rfl) ?_
      exact zr_iret hX dX6_lots_25 hF h
set_option maxRecDepth 100000 in
theorem m_M_lots {l : Launch} {G : zG} {v1 : Int} {v2 : Int} {μ : zM} {q : Int × zM} (hq : f_M_lots v1 v2 μ = some q) : zCT l G yX6_lots cX6_lots 8 (some .int) 4 [zR 42, zI v1, zI v2] μ (some (zI q.1)) q.2 := by
  refine zMet (lv := [some (zR 42), some (zI v1), some (zI v2), none, none, none, none, none]) (k := 5) pl_X6 rfl (Nat.le_of_ble_eq_true rfl) (fun X hl hX hF _ _ => ?_)
  refine w_M_lots_e hX hF (zgo_K (r := q) (step := t_M_lots v1 v2) (fun s h => ?_) rfl hq)
  exact w_M_lots_59 hX hF h
set_option maxRecDepth 100000 in
set_option maxHeartbeats 4000000 in
theorem w_M_asked_e {X : zX} {G : zG} {μ : zM} {rv : Option zV} {ν : zM} (hX : zOk X G cX6_asked RX6 1 (some .int) 1) (hF : zFin X G rv ν) (h : zP (fun r : Int => (some (zI r), μ) = (rv, ν)) (fo_M_asked μ)) : zW X G 1 0 [some (zR 42)] [] μ := by
  refine zr_aload_n hX dX6_asked_0 rfl rfl ?_
  refine zr_geti hX dX6_asked_1 (k := 10) rfl rfl ww_861 ?_
  exact zr_iret hX dX6_asked_4 hF h
set_option maxRecDepth 100000 in
theorem m_M_asked {l : Launch} {G : zG} {μ : zM} : zCT l G yX6_asked cX6_asked 1 (some .int) 1 [zR 42] μ (some (zI (f_M_asked μ))) μ := by
  refine zMet (lv := [some (zR 42)]) (k := 0) pl_X6 rfl (Nat.le_of_ble_eq_true rfl) (fun X hl hX hF _ _ => ?_)
  exact w_M_asked_e hX hF (by rw [fo_M_asked_eq]; rfl)
set_option maxRecDepth 100000 in
set_option maxHeartbeats 4000000 in
theorem w_M_upper_e {X : zX} {G : zG} {μ : zM} {rv : Option zV} {ν : zM} (hX : zOk X G cX6_upper RX6 1 (some .long) 1) (hF : zFin X G rv ν) (h : zP (fun r : Int => (some (zJ r), μ) = (rv, ν)) (fo_M_upper μ)) : zW X G 1 0 [some (zR 42)] [] μ := by
  refine zr_aload_n hX dX6_upper_0 rfl rfl ?_
  refine zr_getj hX dX6_upper_1 (k := 11) rfl rfl ww_862 ?_
  exact zr_lret hX dX6_upper_4 hF h
set_option maxRecDepth 100000 in
theorem m_M_upper {l : Launch} {G : zG} {μ : zM} : zCT l G yX6_upper cX6_upper 1 (some .long) 1 [zR 42] μ (some (zJ (f_M_upper μ))) μ := by
  refine zMet (lv := [some (zR 42)]) (k := 0) pl_X6 rfl (Nat.le_of_ble_eq_true rfl) (fun X hl hX hF _ _ => ?_)
  exact w_M_upper_e hX hF (by rw [fo_M_upper_eq]; rfl)
set_option maxRecDepth 100000 in
set_option maxHeartbeats 4000000 in
theorem w_M_lower_e {X : zX} {G : zG} {μ : zM} {rv : Option zV} {ν : zM} (hX : zOk X G cX6_lower RX6 1 (some .long) 1) (hF : zFin X G rv ν) (h : zP (fun r : Int => (some (zJ r), μ) = (rv, ν)) (fo_M_lower μ)) : zW X G 1 0 [some (zR 42)] [] μ := by
  refine zr_aload_n hX dX6_lower_0 rfl rfl ?_
  refine zr_getj hX dX6_lower_1 (k := 12) rfl rfl ww_863 ?_
  exact zr_lret hX dX6_lower_4 hF h
set_option maxRecDepth 100000 in
theorem m_M_lower {l : Launch} {G : zG} {μ : zM} : zCT l G yX6_lower cX6_lower 1 (some .long) 1 [zR 42] μ (some (zJ (f_M_lower μ))) μ := by
  refine zMet (lv := [some (zR 42)]) (k := 0) pl_X6 rfl (Nat.le_of_ble_eq_true rfl) (fun X hl hX hF _ _ => ?_)
  exact w_M_lower_e hX hF (by rw [fo_M_lower_eq]; rfl)
def k_M_kindsMany (X : zX) (G : zG) (v1 : Int) (μ : zM) : ((Int × Int) ⊕ (Int × Int × Int)) → Prop := fun s => match s with
  | .inl (s) => zW X G 5 4 [some (zR 42), some (zI v1), some (zI s.1), some (zI s.2), none] [] μ
  | .inr (s) => zW X G 5 17 [some (zR 42), some (zI v1), some (zI s.1), some (zI s.2.1), some (zI s.2.2)] [] μ
theorem k_M_kindsMany_4 {X : zX} {G : zG} {v1 : Int} {μ : zM} {F : Int → Prop} {v2 v3 : Int} (h : zP (Sum.elim (k_M_kindsMany X G v1 μ) F) (some (.inl (.inl ((v2, v3)))))) : zW X G 5 4 [some (zR 42), some (zI v1), some (zI v2), some (zI v3), none] [] μ := h
theorem k_M_kindsMany_17 {X : zX} {G : zG} {v1 : Int} {μ : zM} {F : Int → Prop} {v2 v3 v4 : Int} (h : zP (Sum.elim (k_M_kindsMany X G v1 μ) F) (some (.inl (.inr ((v2, v3, v4)))))) : zW X G 5 17 [some (zR 42), some (zI v1), some (zI v2), some (zI v3), some (zI v4)] [] μ := h
set_option maxRecDepth 100000 in
set_option maxHeartbeats 4000000 in
theorem w_M_kindsMany_4 {X : zX} {G : zG} {v1 : Int} {μ : zM} {rv : Option zV} {ν : zM} (hX : zOk X G cX6_kindsMany RX6 5 (some .int) 2) (hF : zFin X G rv ν) {v2 v3 : Int} (h : zP (Sum.elim (k_M_kindsMany X G v1 μ) (fun r : Int => (some (zI r), μ) = (rv, ν))) (b_M_kindsMany_4 v1 v2 v3 μ)) : zW X G 5 4 [some (zR 42), some (zI v1), some (zI v2), some (zI v3), none] [] μ := by
  refine zr_iload_n hX dX6_kindsMany_4 rfl rfl ?_
  refine zr_aload_n hX dX6_kindsMany_5 rfl rfl ?_
  refine zr_getr hX dX6_kindsMany_6 (k := 0) (q := 43) rfl rfl ww_851 rfl ?_
  refine zr_iconst hX dX6_kindsMany_9 (zrl rfl) ?_
  refine zr_ialdc hX dX6_kindsMany_10 (N := 10956) rfl rfl rfl ?_
  refine zr_icmpge (tgt := 83) hX dX6_kindsMany_11 rfl h (fun h => ?_) (fun h => ?_)
  · refine zr_iload_n hX dX6_kindsMany_83 rfl rfl ?_
    exact zr_iret hX dX6_kindsMany_84 hF h
  · refine zr_iconst hX dX6_kindsMany_14 (zrl rfl) ?_
    refine zr_istore hX dX6_kindsMany_15 (Nat.le_of_ble_eq_true rfl) ?_
    exact zW_lf (k_M_kindsMany_17 h) (And.intro rfl (And.intro rfl (And.intro rfl (And.intro rfl (And.intro rfl trivial)))))
set_option maxRecDepth 100000 in
set_option maxHeartbeats 4000000 in
theorem w_M_kindsMany_17 {X : zX} {G : zG} {v1 : Int} {μ : zM} {rv : Option zV} {ν : zM} (hX : zOk X G cX6_kindsMany RX6 5 (some .int) 2) (hF : zFin X G rv ν) {v2 v3 v4 : Int} (h : zP (Sum.elim (k_M_kindsMany X G v1 μ) (fun r : Int => (some (zI r), μ) = (rv, ν))) (b_M_kindsMany_17 v1 v2 v3 v4 μ)) : zW X G 5 17 [some (zR 42), some (zI v1), some (zI v2), some (zI v3), some (zI v4)] [] μ := by
  refine zr_iload hX dX6_kindsMany_17 rfl ?_
  refine zr_aload_n hX dX6_kindsMany_19 rfl rfl ?_
  refine zr_getr hX dX6_kindsMany_20 (k := 0) (q := 43) rfl rfl ww_851 rfl ?_
  refine zr_iconst hX dX6_kindsMany_23 (zrl rfl) ?_
  refine zr_iload_n hX dX6_kindsMany_24 rfl rfl ?_
  refine zr_iadd hX dX6_kindsMany_25 ?_
  refine zr_iald (N := 10956) hX dX6_kindsMany_26 rfl rfl h (fun h => ?_)
  refine zr_icmpge (tgt := 77) hX dX6_kindsMany_27 rfl h (fun h => ?_) (fun h => ?_)
  · refine zr_iinc hX dX6_kindsMany_77 rfl (Nat.le_of_ble_eq_true rfl) ?_
    refine zr_goto hX dX6_kindsMany_80 (tgt := 4) rfl ?_
    exact zW_lf (k_M_kindsMany_4 h) (And.intro rfl (And.intro rfl (And.intro rfl (And.intro rfl trivial))))
  · refine zr_iload_n hX dX6_kindsMany_30 rfl rfl ?_
    refine zr_iload_n hX dX6_kindsMany_31 rfl rfl ?_
    refine zr_ifeq (tgt := 51) hX dX6_kindsMany_32 rfl h (fun h => ?_) (fun h => ?_)
    · refine zr_aload_n hX dX6_kindsMany_51 rfl rfl ?_
      refine zr_iload_n hX dX6_kindsMany_52 rfl rfl ?_
      refine zr_iload hX dX6_kindsMany_53 rfl ?_
      refine zP_bind h (fun q1 hq1 h => ?_)
      refine zr_callV hX dX6_kindsMany_55 (m_M_kindAt hq1) rfl rfl rfl (z5 ww_1039 ww_1041 ww_36 ww_77 ww_1042) hy_X6_kindAt rfl (Nat.le_of_ble_eq_true rfl) (Nat.le_of_ble_eq_true rfl) (Nat.le_of_ble_eq_true rfl) ?_
      refine zr_callS hX dX6_kindsMany_58 (m_M_isLeaning) rfl (z4 ww_1072 ww_1073 ww_77 ww_1074) hy_X6_isLeaning rfl (Nat.le_of_ble_eq_true rfl) (Nat.le_of_ble_eq_true rfl) (Nat.le_of_ble_eq_true rfl) ?_
      refine zr_ifeq (tgt := 68) hX dX6_kindsMany_61 rfl h (fun h => ?_) (fun h => ?_)
      · refine zr_iconst hX dX6_kindsMany_68 (zrl rfl) ?_
        refine zr_iadd hX dX6_kindsMany_69 ?_
        refine zr_istore_n hX dX6_kindsMany_70 rfl (Nat.le_of_ble_eq_true rfl) ?_
        refine zr_iinc hX dX6_kindsMany_71 rfl (Nat.le_of_ble_eq_true rfl) ?_
        refine zr_goto hX dX6_kindsMany_74 (tgt := 17) rfl ?_
        exact zW_lf (k_M_kindsMany_17 h) (And.intro rfl (And.intro rfl (And.intro rfl (And.intro rfl (And.intro rfl trivial)))))
      · refine zr_iconst hX dX6_kindsMany_64 (zrl rfl) ?_
        refine zr_goto hX dX6_kindsMany_65 (tgt := 69) rfl ?_
        refine zr_iadd hX dX6_kindsMany_69 ?_
        refine zr_istore_n hX dX6_kindsMany_70 rfl (Nat.le_of_ble_eq_true rfl) ?_
        refine zr_iinc hX dX6_kindsMany_71 rfl (Nat.le_of_ble_eq_true rfl) ?_
        refine zr_goto hX dX6_kindsMany_74 (tgt := 17) rfl ?_
        exact zW_lf (k_M_kindsMany_17 h) (And.intro rfl (And.intro rfl (And.intro rfl (And.intro rfl (And.intro rfl trivial)))))
    · refine zr_aload_n hX dX6_kindsMany_35 rfl rfl ?_
      refine zr_iload_n hX dX6_kindsMany_36 rfl rfl ?_
      refine zr_iload hX dX6_kindsMany_37 rfl ?_
      refine zP_bind h (fun q2 hq2 h => ?_)
      refine zr_callV hX dX6_kindsMany_39 (m_M_kindAt hq2) rfl rfl rfl (z5 ww_1039 ww_1041 ww_36 ww_77 ww_1042) hy_X6_kindAt rfl (Nat.le_of_ble_eq_true rfl) (Nat.le_of_ble_eq_true rfl) (Nat.le_of_ble_eq_true rfl) ?_
      refine zr_callS hX dX6_kindsMany_42 (m_M_isGlass) rfl (z4 ww_1053 ww_1054 ww_77 ww_1055) hy_X6_isGlass rfl (Nat.le_of_ble_eq_true rfl) (Nat.le_of_ble_eq_true rfl) (Nat.le_of_ble_eq_true rfl) ?_
      refine zr_ifeq (tgt := 68) hX dX6_kindsMany_45 rfl h (fun h => ?_) (fun h => ?_)
      · refine zr_iconst hX dX6_kindsMany_68 (zrl rfl) ?_
        refine zr_iadd hX dX6_kindsMany_69 ?_
        refine zr_istore_n hX dX6_kindsMany_70 rfl (Nat.le_of_ble_eq_true rfl) ?_
        refine zr_iinc hX dX6_kindsMany_71 rfl (Nat.le_of_ble_eq_true rfl) ?_
        refine zr_goto hX dX6_kindsMany_74 (tgt := 17) rfl ?_
        exact zW_lf (k_M_kindsMany_17 h) (And.intro rfl (And.intro rfl (And.intro rfl (And.intro rfl (And.intro rfl trivial)))))
      · refine zr_goto hX dX6_kindsMany_48 (tgt := 64) rfl ?_
        refine zr_iconst hX dX6_kindsMany_64 (zrl rfl) ?_
        refine zr_goto hX dX6_kindsMany_65 (tgt := 69) rfl ?_
        refine zr_iadd hX dX6_kindsMany_69 ?_
        refine zr_istore_n hX dX6_kindsMany_70 rfl (Nat.le_of_ble_eq_true rfl) ?_
        refine zr_iinc hX dX6_kindsMany_71 rfl (Nat.le_of_ble_eq_true rfl) ?_
        refine zr_goto hX dX6_kindsMany_74 (tgt := 17) rfl ?_
        exact zW_lf (k_M_kindsMany_17 h) (And.intro rfl (And.intro rfl (And.intro rfl (And.intro rfl (And.intro rfl trivial)))))
set_option maxRecDepth 100000 in
set_option maxHeartbeats 4000000 in
theorem w_M_kindsMany_e {X : zX} {G : zG} {v1 : Int} {μ : zM} {rv : Option zV} {ν : zM} (hX : zOk X G cX6_kindsMany RX6 5 (some .int) 2) (hF : zFin X G rv ν) (h : zP (Sum.elim (k_M_kindsMany X G v1 μ) (fun r : Int => (some (zI r), μ) = (rv, ν))) (e_M_kindsMany v1 μ)) : zW X G 5 0 [some (zR 42), some (zI v1), none, none, none] [] μ := by
  refine zr_iconst hX dX6_kindsMany_0 (zrl rfl) ?_
  refine zr_istore_n hX dX6_kindsMany_1 rfl (Nat.le_of_ble_eq_true rfl) ?_
  refine zr_iconst hX dX6_kindsMany_2 (zrl rfl) ?_
  refine zr_istore_n hX dX6_kindsMany_3 rfl (Nat.le_of_ble_eq_true rfl) ?_
  exact zW_lf (k_M_kindsMany_4 h) (And.intro rfl (And.intro rfl (And.intro rfl (And.intro rfl trivial))))
set_option maxRecDepth 100000 in
theorem m_M_kindsMany {l : Launch} {G : zG} {v1 : Int} {μ : zM} {q : Int} (hq : f_M_kindsMany v1 μ = some q) : zCT l G yX6_kindsMany cX6_kindsMany 5 (some .int) 2 [zR 42, zI v1] μ (some (zI q)) μ := by
  refine zMet (lv := [some (zR 42), some (zI v1), none, none, none]) (k := 3) pl_X6 rfl (Nat.le_of_ble_eq_true rfl) (fun X hl hX hF _ _ => ?_)
  refine w_M_kindsMany_e hX hF (zgo_K (r := q) (step := t_M_kindsMany v1 μ) (fun s h => ?_) rfl hq)
  cases s with
  | inl s => exact w_M_kindsMany_4 hX hF h
  | inr s => exact w_M_kindsMany_17 hX hF h
def k_M_thereOf (X : zX) (G : zG) (o0 : Nat) (v1 : Int) (μ : zM) : (Int × Int) → Prop := fun s => zW X G 4 4 [some (zR o0), some (zI v1), some (zI s.1), some (zI s.2)] [] μ
theorem k_M_thereOf_4 {X : zX} {G : zG} {o0 : Nat} {v1 : Int} {μ : zM} {F : Int → Prop} {v2 v3 : Int} (h : zP (Sum.elim (k_M_thereOf X G o0 v1 μ) F) (some (.inl ((v2, v3))))) : zW X G 4 4 [some (zR o0), some (zI v1), some (zI v2), some (zI v3)] [] μ := h
set_option maxRecDepth 100000 in
set_option maxHeartbeats 4000000 in
theorem w_M_thereOf_4 {X : zX} {G : zG} {o0 : Nat} {v1 : Int} {μ : zM} {rv : Option zV} {ν : zM} (hX : zOk X G cX6_thereOf RX6 4 (some .int) 1) (hF : zFin X G rv ν) (ho0 : zsh o0 = (1, (zsh o0).2)) {v2 v3 : Int} (h : zP (Sum.elim (k_M_thereOf X G o0 v1 μ) (fun r : Int => (some (zI r), μ) = (rv, ν))) (b_M_thereOf_4 o0 v1 v2 v3 μ)) : zW X G 4 4 [some (zR o0), some (zI v1), some (zI v2), some (zI v3)] [] μ := by
  refine zr_iload_n hX dX6_thereOf_4 rfl rfl ?_
  refine zr_iload_n hX dX6_thereOf_5 rfl rfl ?_
  refine zr_icmpge (tgt := 29) hX dX6_thereOf_6 rfl h (fun h => ?_) (fun h => ?_)
  · refine zr_iload_n hX dX6_thereOf_29 rfl rfl ?_
    exact zr_iret hX dX6_thereOf_30 hF h
  · refine zr_iload_n hX dX6_thereOf_9 rfl rfl ?_
    refine zr_aload_n hX dX6_thereOf_10 rfl rfl ?_
    refine zr_iload_n hX dX6_thereOf_11 rfl rfl ?_
    refine zr_iald (N := zsz o0) hX dX6_thereOf_12 ho0 rfl h (fun h => ?_)
    refine zr_ifge (tgt := 20) hX dX6_thereOf_13 rfl h (fun h => ?_) (fun h => ?_)
    · refine zr_iconst hX dX6_thereOf_20 (zrl rfl) ?_
      refine zr_iadd hX dX6_thereOf_21 ?_
      refine zr_istore_n hX dX6_thereOf_22 rfl (Nat.le_of_ble_eq_true rfl) ?_
      refine zr_iinc hX dX6_thereOf_23 rfl (Nat.le_of_ble_eq_true rfl) ?_
      refine zr_goto hX dX6_thereOf_26 (tgt := 4) rfl ?_
      exact zW_lf (k_M_thereOf_4 h) (And.intro rfl (And.intro rfl (And.intro rfl (And.intro rfl trivial))))
    · refine zr_iconst hX dX6_thereOf_16 (zrl rfl) ?_
      refine zr_goto hX dX6_thereOf_17 (tgt := 21) rfl ?_
      refine zr_iadd hX dX6_thereOf_21 ?_
      refine zr_istore_n hX dX6_thereOf_22 rfl (Nat.le_of_ble_eq_true rfl) ?_
      refine zr_iinc hX dX6_thereOf_23 rfl (Nat.le_of_ble_eq_true rfl) ?_
      refine zr_goto hX dX6_thereOf_26 (tgt := 4) rfl ?_
      exact zW_lf (k_M_thereOf_4 h) (And.intro rfl (And.intro rfl (And.intro rfl (And.intro rfl trivial))))
set_option maxRecDepth 100000 in
set_option maxHeartbeats 4000000 in
theorem w_M_thereOf_e {X : zX} {G : zG} {o0 : Nat} {v1 : Int} {μ : zM} {rv : Option zV} {ν : zM} (hX : zOk X G cX6_thereOf RX6 4 (some .int) 1) (hF : zFin X G rv ν) (ho0 : zsh o0 = (1, (zsh o0).2)) (h : zP (Sum.elim (k_M_thereOf X G o0 v1 μ) (fun r : Int => (some (zI r), μ) = (rv, ν))) (e_M_thereOf o0 v1 μ)) : zW X G 4 0 [some (zR o0), some (zI v1), none, none] [] μ := by
  refine zr_iconst hX dX6_thereOf_0 (zrl rfl) ?_
  refine zr_istore_n hX dX6_thereOf_1 rfl (Nat.le_of_ble_eq_true rfl) ?_
  refine zr_iconst hX dX6_thereOf_2 (zrl rfl) ?_
  refine zr_istore_n hX dX6_thereOf_3 rfl (Nat.le_of_ble_eq_true rfl) ?_
  exact zW_lf (k_M_thereOf_4 h) (And.intro rfl (And.intro rfl (And.intro rfl (And.intro rfl trivial))))
set_option maxRecDepth 100000 in
theorem m_M_thereOf {l : Launch} {G : zG} {o0 : Nat} {v1 : Int} {μ : zM} (ho0 : zsh o0 = (1, (zsh o0).2)) {q : Int} (hq : f_M_thereOf o0 v1 μ = some q) : zCT l G yX6_thereOf cX6_thereOf 4 (some .int) 1 [zR o0, zI v1] μ (some (zI q)) μ := by
  refine zMet (lv := [some (zR o0), some (zI v1), none, none]) (k := 2) pl_X6 rfl (Nat.le_of_ble_eq_true rfl) (fun X hl hX hF _ _ => ?_)
  refine w_M_thereOf_e hX hF ho0 (zgo_K (r := q) (step := t_M_thereOf o0 v1 μ) (fun s h => ?_) rfl hq)
  exact w_M_thereOf_4 hX hF ho0 h
def k_M_highest (X : zX) (G : zG) (μ : zM) : (Int × Int) → Prop := fun s => zW X G 3 4 [some (zR 42), some (zI s.1), some (zI s.2)] [] μ
theorem k_M_highest_4 {X : zX} {G : zG} {μ : zM} {F : Int → Prop} {v1 v2 : Int} (h : zP (Sum.elim (k_M_highest X G μ) F) (some (.inl ((v1, v2))))) : zW X G 3 4 [some (zR 42), some (zI v1), some (zI v2)] [] μ := h
set_option maxRecDepth 100000 in
set_option maxHeartbeats 4000000 in
theorem w_M_highest_4 {X : zX} {G : zG} {μ : zM} {rv : Option zV} {ν : zM} (hX : zOk X G cX6_highest RX6 3 (some .int) 1) (hF : zFin X G rv ν) {v1 v2 : Int} (h : zP (Sum.elim (k_M_highest X G μ) (fun r : Int => (some (zI r), μ) = (rv, ν))) (b_M_highest_4 v1 v2 μ)) : zW X G 3 4 [some (zR 42), some (zI v1), some (zI v2)] [] μ := by
  refine zr_iload_n hX dX6_highest_4 rfl rfl ?_
  refine zr_aload_n hX dX6_highest_5 rfl rfl ?_
  refine zr_getr hX dX6_highest_6 (k := 0) (q := 43) rfl rfl ww_851 rfl ?_
  refine zr_iconst hX dX6_highest_9 (zrl rfl) ?_
  refine zr_ialdc hX dX6_highest_10 (N := 10956) rfl rfl rfl ?_
  refine zr_icmpge (tgt := 45) hX dX6_highest_11 rfl h (fun h => ?_) (fun h => ?_)
  · refine zr_iload_n hX dX6_highest_45 rfl rfl ?_
    exact zr_iret hX dX6_highest_46 hF h
  · refine zr_aload_n hX dX6_highest_14 rfl rfl ?_
    refine zr_getr hX dX6_highest_15 (k := 0) (q := 43) rfl rfl ww_851 rfl ?_
    refine zr_iconst hX dX6_highest_18 (zrl rfl) ?_
    refine zr_iload_n hX dX6_highest_19 rfl rfl ?_
    refine zr_iadd hX dX6_highest_20 ?_
    refine zr_iald (N := 10956) hX dX6_highest_21 rfl rfl h (fun h => ?_)
    refine zr_iload_n hX dX6_highest_22 rfl rfl ?_
    refine zr_icmple (tgt := 37) hX dX6_highest_23 rfl h (fun h => ?_) (fun h => ?_)
    · refine zr_iload_n hX dX6_highest_37 rfl rfl ?_
      refine zr_istore_n hX dX6_highest_38 rfl (Nat.le_of_ble_eq_true rfl) ?_
      refine zr_iinc hX dX6_highest_39 rfl (Nat.le_of_ble_eq_true rfl) ?_
      refine zr_goto hX dX6_highest_42 (tgt := 4) rfl ?_
      exact zW_lf (k_M_highest_4 h) (And.intro rfl (And.intro rfl (And.intro rfl trivial)))
    · refine zr_aload_n hX dX6_highest_26 rfl rfl ?_
      refine zr_getr hX dX6_highest_27 (k := 0) (q := 43) rfl rfl ww_851 rfl ?_
      refine zr_iconst hX dX6_highest_30 (zrl rfl) ?_
      refine zr_iload_n hX dX6_highest_31 rfl rfl ?_
      refine zr_iadd hX dX6_highest_32 ?_
      refine zr_iald (N := 10956) hX dX6_highest_33 rfl rfl h (fun h => ?_)
      refine zr_goto hX dX6_highest_34 (tgt := 38) rfl ?_
      refine zr_istore_n hX dX6_highest_38 rfl (Nat.le_of_ble_eq_true rfl) ?_
      refine zr_iinc hX dX6_highest_39 rfl (Nat.le_of_ble_eq_true rfl) ?_
      refine zr_goto hX dX6_highest_42 (tgt := 4) rfl ?_
      exact zW_lf (k_M_highest_4 h) (And.intro rfl (And.intro rfl (And.intro rfl trivial)))
set_option maxRecDepth 100000 in
set_option maxHeartbeats 4000000 in
theorem w_M_highest_e {X : zX} {G : zG} {μ : zM} {rv : Option zV} {ν : zM} (hX : zOk X G cX6_highest RX6 3 (some .int) 1) (hF : zFin X G rv ν) (h : zP (Sum.elim (k_M_highest X G μ) (fun r : Int => (some (zI r), μ) = (rv, ν))) (e_M_highest μ)) : zW X G 3 0 [some (zR 42), none, none] [] μ := by
  refine zr_iconst hX dX6_highest_0 (zrl rfl) ?_
  refine zr_istore_n hX dX6_highest_1 rfl (Nat.le_of_ble_eq_true rfl) ?_
  refine zr_iconst hX dX6_highest_2 (zrl rfl) ?_
  refine zr_istore_n hX dX6_highest_3 rfl (Nat.le_of_ble_eq_true rfl) ?_
  exact zW_lf (k_M_highest_4 h) (And.intro rfl (And.intro rfl (And.intro rfl trivial)))
set_option maxRecDepth 100000 in
theorem m_M_highest {l : Launch} {G : zG} {μ : zM} {q : Int} (hq : f_M_highest μ = some q) : zCT l G yX6_highest cX6_highest 3 (some .int) 1 [zR 42] μ (some (zI q)) μ := by
  refine zMet (lv := [some (zR 42), none, none]) (k := 2) pl_X6 rfl (Nat.le_of_ble_eq_true rfl) (fun X hl hX hF _ _ => ?_)
  refine w_M_highest_e hX hF (zgo_K (r := q) (step := t_M_highest μ) (fun s h => ?_) rfl hq)
  exact w_M_highest_4 hX hF h
