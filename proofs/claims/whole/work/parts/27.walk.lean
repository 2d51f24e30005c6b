def k_M_rings (X : zX) (G : zG) : ((Int × Int × Int × zM) ⊕ (Int × Int × Int × zM) ⊕ (Int × Int × Int × Int × zM) ⊕ (Int × Int × Int × Int × zM) ⊕ (Int × Int × Int × Int × zM) ⊕ (Int × Int × Int × Int × Int × zM)) → Prop := fun s => match s with
  | .inl (s) => zW X G 6 13 [some (zR 42), some (zI s.1), some (zI s.2.1), some (zI s.2.2.1), none, none] [] s.2.2.2
  | .inr (.inl (s)) => zW X G 6 79 [some (zR 42), some (zI s.1), some (zI s.2.1), some (zI s.2.2.1), none, none] [] s.2.2.2
  | .inr (.inr (.inl (s))) => zW X G 6 21 [some (zR 42), some (zI s.1), some (zI s.2.1), some (zI s.2.2.1), some (zI s.2.2.2.1), none] [] s.2.2.2.2
  | .inr (.inr (.inr (.inl (s)))) => zW X G 6 192 [some (zR 42), some (zI s.1), some (zI s.2.1), some (zI s.2.2.1), some (zI s.2.2.2.1), none] [] s.2.2.2.2
  | .inr (.inr (.inr (.inr (.inl (s))))) => zW X G 6 87 [some (zR 42), some (zI s.1), some (zI s.2.1), some (zI s.2.2.1), some (zI s.2.2.2.1), none] [] s.2.2.2.2
  | .inr (.inr (.inr (.inr (.inr (s))))) => zW X G 6 96 [some (zR 42), some (zI s.1), some (zI s.2.1), some (zI s.2.2.1), some (zI s.2.2.2.1), some (zI s.2.2.2.2.1)] [] s.2.2.2.2.2
theorem k_M_rings_13 {X : zX} {G : zG} {F : (Int × zM) → Prop} {v1 v2 v3 : Int} {κ : zM} (h : zP (Sum.elim (k_M_rings X G) F) (some (.inl (.inl ((v1, v2, v3, κ)))))) : zW X G 6 13 [some (zR 42), some (zI v1), some (zI v2), some (zI v3), none, none] [] κ := h
theorem k_M_rings_79 {X : zX} {G : zG} {F : (Int × zM) → Prop} {v1 v2 v3 : Int} {κ : zM} (h : zP (Sum.elim (k_M_rings X G) F) (some (.inl (.inr (.inl ((v1, v2, v3, κ))))))) : zW X G 6 79 [some (zR 42), some (zI v1), some (zI v2), some (zI v3), none, none] [] κ := h
theorem k_M_rings_21 {X : zX} {G : zG} {F : (Int × zM) → Prop} {v1 v2 v3 v4 : Int} {κ : zM} (h : zP (Sum.elim (k_M_rings X G) F) (some (.inl (.inr (.inr (.inl ((v1, v2, v3, v4, κ)))))))) : zW X G 6 21 [some (zR 42), some (zI v1), some (zI v2), some (zI v3), some (zI v4), none] [] κ := h
theorem k_M_rings_192 {X : zX} {G : zG} {F : (Int × zM) → Prop} {v1 v2 v3 v4 : Int} {κ : zM} (h : zP (Sum.elim (k_M_rings X G) F) (some (.inl (.inr (.inr (.inr (.inl ((v1, v2, v3, v4, κ))))))))) : zW X G 6 192 [some (zR 42), some (zI v1), some (zI v2), some (zI v3), some (zI v4), none] [] κ := h
theorem k_M_rings_87 {X : zX} {G : zG} {F : (Int × zM) → Prop} {v1 v2 v3 v4 : Int} {κ : zM} (h : zP (Sum.elim (k_M_rings X G) F) (some (.inl (.inr (.inr (.inr (.inr (.inl ((v1, v2, v3, v4, κ)))))))))) : zW X G 6 87 [some (zR 42), some (zI v1), some (zI v2), some (zI v3), some (zI v4), none] [] κ := h
theorem k_M_rings_96 {X : zX} {G : zG} {F : (Int × zM) → Prop} {v1 v2 v3 v4 v5 : Int} {κ : zM} (h : zP (Sum.elim (k_M_rings X G) F) (some (.inl (.inr (.inr (.inr (.inr (.inr ((v1, v2, v3, v4, v5, κ)))))))))) : zW X G 6 96 [some (zR 42), some (zI v1), some (zI v2), some (zI v3), some (zI v4), some (zI v5)] [] κ := h
set_option maxRecDepth 100000 in
set_option maxHeartbeats 4000000 in
theorem w_M_rings_13 {X : zX} {G : zG} {μ : zM} {rv : Option zV} {ν : zM} (hX : zOk X G cX6_rings RX6 6 (some .int) 4) (hF : zFin X G rv ν) {v1 v2 v3 : Int} (h : zP (Sum.elim (k_M_rings X G) (fun r : (Int × zM) => (some (zI r.1), r.2) = (rv, ν))) (b_M_rings_13 v1 v2 v3 μ)) : zW X G 6 13 [some (zR 42), some (zI v1), some (zI v2), some (zI v3), none, none] [] μ := by
  refine zr_iload_n hX dX6_rings_13 rfl rfl ?_
  refine zr_iload_n hX dX6_rings_14 rfl rfl ?_
  refine zr_icmpge (tgt := 77) hX dX6_rings_15 rfl h (fun h => ?_) (fun h => ?_)
  · refine zr_iconst hX dX6_rings_77 (zrl rfl) ?_
    refine zr_istore_n hX dX6_rings_78 rfl (Nat.le_of_ble_eq_true rfl) ?_
    exact zW_lf (k_M_rings_79 h) (And.intro rfl (And.intro rfl (And.intro rfl (And.intro rfl trivial))))
  · refine zr_iconst hX dX6_rings_18 (zrl rfl) ?_
    refine zr_istore hX dX6_rings_19 (Nat.le_of_ble_eq_true rfl) ?_
    exact zW_lf (k_M_rings_21 h) (And.intro rfl (And.intro rfl (And.intro rfl (And.intro rfl (And.intro rfl trivial)))))
set_option maxRecDepth 100000 in
set_option maxHeartbeats 4000000 in
theorem w_M_rings_79 {X : zX} {G : zG} {μ : zM} {rv : Option zV} {ν : zM} (hX : zOk X G cX6_rings RX6 6 (some .int) 4) (hF : zFin X G rv ν) {v1 v2 v3 : Int} (h : zP (Sum.elim (k_M_rings X G) (fun r : (Int × zM) => (some (zI r.1), r.2) = (rv, ν))) (b_M_rings_79 v1 v2 v3 μ)) : zW X G 6 79 [some (zR 42), some (zI v1), some (zI v2), some (zI v3), none, none] [] μ := by
  refine zr_iload_n hX dX6_rings_79 rfl rfl ?_
  refine zr_iload_n hX dX6_rings_80 rfl rfl ?_
  refine zr_icmpge (tgt := 187) hX dX6_rings_81 rfl h (fun h => ?_) (fun h => ?_)
  · refine zr_iconst hX dX6_rings_187 (zrl rfl) ?_
    refine zr_istore_n hX dX6_rings_188 rfl (Nat.le_of_ble_eq_true rfl) ?_
    refine zr_iconst hX dX6_rings_189 (zrl rfl) ?_
    refine zr_istore hX dX6_rings_190 (Nat.le_of_ble_eq_true rfl) ?_
    exact zW_lf (k_M_rings_192 h) (And.intro rfl (And.intro rfl (And.intro rfl (And.intro rfl (And.intro rfl trivial)))))
  · refine zr_iconst hX dX6_rings_84 (zrl rfl) ?_
    refine zr_istore hX dX6_rings_85 (Nat.le_of_ble_eq_true rfl) ?_
    exact zW_lf (k_M_rings_87 h) (And.intro rfl (And.intro rfl (And.intro rfl (And.intro rfl (And.intro rfl trivial)))))
set_option maxRecDepth 100000 in
set_option maxHeartbeats 4000000 in
theorem w_M_rings_21 {X : zX} {G : zG} {μ : zM} {rv : Option zV} {ν : zM} (hX : zOk X G cX6_rings RX6 6 (some .int) 4) (hF : zFin X G rv ν) {v1 v2 v3 v4 : Int} (h : zP (Sum.elim (k_M_rings X G) (fun r : (Int × zM) => (some (zI r.1), r.2) = (rv, ν))) (b_M_rings_21 v1 v2 v3 v4 μ)) : zW X G 6 21 [some (zR 42), some (zI v1), some (zI v2), some (zI v3), some (zI v4), none] [] μ := by
  refine zr_iload hX dX6_rings_21 rfl ?_
  refine zr_iload_n hX dX6_rings_23 rfl rfl ?_
  refine zr_icmpge (tgt := 71) hX dX6_rings_24 rfl h (fun h => ?_) (fun h => ?_)
  · refine zr_iinc hX dX6_rings_71 rfl (Nat.le_of_ble_eq_true rfl) ?_
    refine zr_goto hX dX6_rings_74 (tgt := 13) rfl ?_
    exact zW_lf (k_M_rings_13 h) (And.intro rfl (And.intro rfl (And.intro rfl (And.intro rfl trivial))))
  · refine zr_iload_n hX dX6_rings_27 rfl rfl ?_
    refine zr_aload_n hX dX6_rings_28 rfl rfl ?_
    refine zr_getr hX dX6_rings_29 (k := 13) (q := 51) rfl rfl ww_854 rfl ?_
    refine zr_bipush hX dX6_rings_32 rfl ?_
    refine zr_iload_n hX dX6_rings_34 rfl rfl ?_
    refine zr_imul hX dX6_rings_35 ?_
    refine zr_iload hX dX6_rings_36 rfl ?_
    refine zr_iadd hX dX6_rings_38 ?_
    refine zr_iald (N := 144) hX dX6_rings_39 rfl rfl h (fun h => ?_)
    refine zr_ifle (tgt := 62) hX dX6_rings_40 rfl h (fun h => ?_) (fun h => ?_)
    · refine zr_iconst hX dX6_rings_62 (zrl rfl) ?_
      refine zr_iadd hX dX6_rings_63 ?_
      refine zr_istore_n hX dX6_rings_64 rfl (Nat.le_of_ble_eq_true rfl) ?_
      refine zr_iinc hX dX6_rings_65 rfl (Nat.le_of_ble_eq_true rfl) ?_
      refine zr_goto hX dX6_rings_68 (tgt := 21) rfl ?_
      exact zW_lf (k_M_rings_21 h) (And.intro rfl (And.intro rfl (And.intro rfl (And.intro rfl (And.intro rfl trivial)))))
    · refine zr_aload_n hX dX6_rings_43 rfl rfl ?_
      refine zr_getr hX dX6_rings_44 (k := 13) (q := 51) rfl rfl ww_854 rfl ?_
      refine zr_bipush hX dX6_rings_47 rfl ?_
      refine zr_iload hX dX6_rings_49 rfl ?_
      refine zr_imul hX dX6_rings_51 ?_
      refine zr_iload_n hX dX6_rings_52 rfl rfl ?_
      refine zr_iadd hX dX6_rings_53 ?_
      refine zr_iald (N := 144) hX dX6_rings_54 rfl rfl h (fun h => ?_)
      refine zr_ifle (tgt := 62) hX dX6_rings_55 rfl h (fun h => ?_) (fun h => ?_)
      · refine zr_iconst hX dX6_rings_62 (zrl rfl) ?_
        refine zr_iadd hX dX6_rings_63 ?_
        refine zr_istore_n hX dX6_rings_64 rfl (Nat.le_of_ble_eq_true rfl) ?_
        refine zr_iinc hX dX6_rings_65 rfl (Nat.le_of_ble_eq_true rfl) ?_
        refine zr_goto hX dX6_rings_68 (tgt := 21) rfl ?_
        exact zW_lf (k_M_rings_21 h) (And.intro rfl (And.intro rfl (And.intro rfl (And.intro rfl (And.intro rfl trivial)))))
      · refine zr_iconst hX dX6_rings_58 (zrl rfl) ?_
        refine zr_goto hX dX6_rings_59 (tgt := 63) rfl ?_
        refine zr_iadd hX dX6_rings_63 ?_
        refine zr_istore_n hX dX6_rings_64 rfl (Nat.le_of_ble_eq_true rfl) ?_
        refine zr_iinc hX dX6_rings_65 rfl (Nat.le_of_ble_eq_true rfl) ?_
        refine zr_goto hX dX6_rings_68 (tgt := 21) rfl ?_
        exact zW_lf (k_M_rings_21 h) (And.intro rfl (And.intro rfl (And.intro rfl (And.intro rfl (And.intro rfl trivial)))))
set_option maxRecDepth 100000 in
set_option maxHeartbeats 4000000 in
theorem w_M_rings_192 {X : zX} {G : zG} {μ : zM} {rv : Option zV} {ν : zM} (hX : zOk X G cX6_rings RX6 6 (some .int) 4) (hF : zFin X G rv ν) {v1 v2 v3 v4 : Int} (h : zP (Sum.elim (k_M_rings X G) (fun r : (Int × zM) => (some (zI r.1), r.2) = (rv, ν))) (b_M_rings_192 v1 v2 v3 v4 μ)) : zW X G 6 192 [some (zR 42), some (zI v1), some (zI v2), some (zI v3), some (zI v4), none] [] μ := by
  refine zr_iload hX dX6_rings_192 rfl ?_
  refine zr_iload_n hX dX6_rings_194 rfl rfl ?_
  refine zr_icmpge (tgt := 231) hX dX6_rings_195 rfl h (fun h => ?_) (fun h => ?_)
  · refine zr_aload_n hX dX6_rings_231 rfl rfl ?_
    refine zr_iload_n hX dX6_rings_232 rfl rfl ?_
    refine zr_iload_n hX dX6_rings_233 rfl rfl ?_
    refine zP_bind h (fun q3 hq3 h => ?_)
    refine zr_callV hX dX6_rings_234 (m_M_tells hq3) rfl rfl rfl (z5 ww_923 ww_925 ww_20 ww_75 ww_926) hy_X6_tells rfl (Nat.le_of_ble_eq_true rfl) (Nat.le_of_ble_eq_true rfl) (Nat.le_of_ble_eq_true rfl) ?_
    exact zr_iret hX dX6_rings_237 hF h
  · refine zr_iload_n hX dX6_rings_198 rfl rfl ?_
    refine zr_aload_n hX dX6_rings_199 rfl rfl ?_
    refine zr_getr hX dX6_rings_200 (k := 13) (q := 51) rfl rfl ww_854 rfl ?_
    refine zr_bipush hX dX6_rings_203 rfl ?_
    refine zr_iload hX dX6_rings_205 rfl ?_
    refine zr_imul hX dX6_rings_207 ?_
    refine zr_iload hX dX6_rings_208 rfl ?_
    refine zr_iadd hX dX6_rings_210 ?_
    refine zr_iald (N := 144) hX dX6_rings_211 rfl rfl h (fun h => ?_)
    refine zr_ifle (tgt := 222) hX dX6_rings_212 rfl h (fun h => ?_) (fun h => ?_)
    · refine zr_iconst hX dX6_rings_222 (zrl rfl) ?_
      refine zr_ior hX dX6_rings_223 ?_
      refine zr_istore_n hX dX6_rings_224 rfl (Nat.le_of_ble_eq_true rfl) ?_
      refine zr_iinc hX dX6_rings_225 rfl (Nat.le_of_ble_eq_true rfl) ?_
      refine zr_goto hX dX6_rings_228 (tgt := 192) rfl ?_
      exact zW_lf (k_M_rings_192 h) (And.intro rfl (And.intro rfl (And.intro rfl (And.intro rfl (And.intro rfl trivial)))))
    · refine zr_iconst hX dX6_rings_215 (zrl rfl) ?_
      refine zr_iload hX dX6_rings_216 rfl ?_
      refine zr_ishl hX dX6_rings_218 ?_
      refine zr_goto hX dX6_rings_219 (tgt := 223) rfl ?_
      refine zr_ior hX dX6_rings_223 ?_
      refine zr_istore_n hX dX6_rings_224 rfl (Nat.le_of_ble_eq_true rfl) ?_
      refine zr_iinc hX dX6_rings_225 rfl (Nat.le_of_ble_eq_true rfl) ?_
      refine zr_goto hX dX6_rings_228 (tgt := 192) rfl ?_
      exact zW_lf (k_M_rings_192 h) (And.intro rfl (And.intro rfl (And.intro rfl (And.intro rfl (And.intro rfl trivial)))))
set_option maxRecDepth 100000 in
set_option maxHeartbeats 4000000 in
theorem w_M_rings_87 {X : zX} {G : zG} {μ : zM} {rv : Option zV} {ν : zM} (hX : zOk X G cX6_rings RX6 6 (some .int) 4) (hF : zFin X G rv ν) {v1 v2 v3 v4 : Int} (h : zP (Sum.elim (k_M_rings X G) (fun r : (Int × zM) => (some (zI r.1), r.2) = (rv, ν))) (b_M_rings_87 v1 v2 v3 v4 μ)) : zW X G 6 87 [some (zR 42), some (zI v1), some (zI v2), some (zI v3), some (zI v4), none] [] μ := by
  refine zr_iload hX dX6_rings_87 rfl ?_
  refine zr_iload_n hX dX6_rings_89 rfl rfl ?_
  refine zr_icmpge (tgt := 181) hX dX6_rings_90 rfl h (fun h => ?_) (fun h => ?_)
  · refine zr_iinc hX dX6_rings_181 rfl (Nat.le_of_ble_eq_true rfl) ?_
    refine zr_goto hX dX6_rings_184 (tgt := 79) rfl ?_
    exact zW_lf (k_M_rings_79 h) (And.intro rfl (And.intro rfl (And.intro rfl (And.intro rfl trivial))))
  · refine zr_iconst hX dX6_rings_93 (zrl rfl) ?_
    refine zr_istore hX dX6_rings_94 (Nat.le_of_ble_eq_true rfl) ?_
    exact zW_lf (k_M_rings_96 h) (And.intro rfl (And.intro rfl (And.intro rfl (And.intro rfl (And.intro rfl (And.intro rfl trivial))))))
set_option maxRecDepth 100000 in
set_option maxHeartbeats 4000000 in
theorem w_M_rings_96 {X : zX} {G : zG} {μ : zM} {rv : Option zV} {ν : zM} (hX : zOk X G cX6_rings RX6 6 (some .int) 4) (hF : zFin X G rv ν) {v1 v2 v3 v4 v5 : Int} (h : zP (Sum.elim (k_M_rings X G) (fun r : (Int × zM) => (some (zI r.1), r.2) = (rv, ν))) (b_M_rings_96 v1 v2 v3 v4 v5 μ)) : zW X G 6 96 [some (zR 42), some (zI v1), some (zI v2), some (zI v3), some (zI v4), some (zI v5)] [] μ := by
  refine zr_iload hX dX6_rings_96 rfl ?_
  refine zr_iload_n hX dX6_rings_98 rfl rfl ?_
  refine zr_icmpge (tgt := 175) hX dX6_rings_99 rfl h (fun h => ?_) (fun h => ?_)
  · refine zr_iinc hX dX6_rings_175 rfl (Nat.le_of_ble_eq_true rfl) ?_
    refine zr_goto hX dX6_rings_178 (tgt := 87) rfl ?_
    exact zW_lf (k_M_rings_87 h) (And.intro rfl (And.intro rfl (And.intro rfl (And.intro rfl (And.intro rfl trivial)))))
  · refine zr_aload_n hX dX6_rings_102 rfl rfl ?_
    refine zr_getr hX dX6_rings_103 (k := 13) (q := 51) rfl rfl ww_854 rfl ?_
    refine zr_bipush hX dX6_rings_106 rfl ?_
    refine zr_iload hX dX6_rings_108 rfl ?_
    refine zr_imul hX dX6_rings_110 ?_
    refine zr_iload hX dX6_rings_111 rfl ?_
    refine zr_iadd hX dX6_rings_113 ?_
    refine zr_dup2 hX dX6_rings_114 rfl rfl ?_
    refine zr_iald (N := 144) hX dX6_rings_115 rfl rfl h (fun h => ?_)
    refine zr_aload_n hX dX6_rings_116 rfl rfl ?_
    refine zr_getr hX dX6_rings_117 (k := 13) (q := 51) rfl rfl ww_854 rfl ?_
    refine zr_bipush hX dX6_rings_120 rfl ?_
    refine zr_iload hX dX6_rings_122 rfl ?_
    refine zr_imul hX dX6_rings_124 ?_
    refine zr_iload hX dX6_rings_125 rfl ?_
    refine zr_iadd hX dX6_rings_127 ?_
    refine zr_iald (N := 144) hX dX6_rings_128 rfl rfl h (fun h => ?_)
    refine zr_ifne (tgt := 166) hX dX6_rings_129 rfl h (fun h => ?_) (fun h => ?_)
    · refine zr_iconst hX dX6_rings_166 (zrl rfl) ?_
      refine zr_iadd hX dX6_rings_167 ?_
      refine zr_iast (N := 144) hX dX6_rings_168 rfl rfl h (fun h => ?_)
      refine zr_iinc hX dX6_rings_169 rfl (Nat.le_of_ble_eq_true rfl) ?_
      refine zr_goto hX dX6_rings_172 (tgt := 96) rfl ?_
      exact zW_lf (k_M_rings_96 h) (And.intro rfl (And.intro rfl (And.intro rfl (And.intro rfl (And.intro rfl (And.intro rfl trivial))))))
    · refine zr_aload_n hX dX6_rings_132 rfl rfl ?_
      refine zr_getr hX dX6_rings_133 (k := 13) (q := 51) rfl rfl ww_854 rfl ?_
      refine zr_bipush hX dX6_rings_136 rfl ?_
      refine zr_iload hX dX6_rings_138 rfl ?_
      refine zr_imul hX dX6_rings_140 ?_
      refine zr_iload_n hX dX6_rings_141 rfl rfl ?_
      refine zr_iadd hX dX6_rings_142 ?_
      refine zr_iald (N := 144) hX dX6_rings_143 rfl rfl h (fun h => ?_)
      refine zr_ifle (tgt := 166) hX dX6_rings_144 rfl h (fun h => ?_) (fun h => ?_)
      · refine zr_iconst hX dX6_rings_166 (zrl rfl) ?_
        refine zr_iadd hX dX6_rings_167 ?_
        refine zr_iast (N := 144) hX dX6_rings_168 rfl rfl h (fun h => ?_)
        refine zr_iinc hX dX6_rings_169 rfl (Nat.le_of_ble_eq_true rfl) ?_
        refine zr_goto hX dX6_rings_172 (tgt := 96) rfl ?_
        exact zW_lf (k_M_rings_96 h) (And.intro rfl (And.intro rfl (And.intro rfl (And.intro rfl (And.intro rfl (And.intro rfl trivial))))))
      · refine zr_aload_n hX dX6_rings_147 rfl rfl ?_
        refine zr_getr hX dX6_rings_148 (k := 13) (q := 51) rfl rfl ww_854 rfl ?_
        refine zr_bipush hX dX6_rings_151 rfl ?_
        refine zr_iload_n hX dX6_rings_153 rfl rfl ?_
        refine zr_imul hX dX6_rings_154 ?_
        refine zr_iload hX dX6_rings_155 rfl ?_
        refine zr_iadd hX dX6_rings_157 ?_
        refine zr_iald (N := 144) hX dX6_rings_158 rfl rfl h (fun h => ?_)
        refine zr_ifle (tgt := 166) hX dX6_rings_159 rfl h (fun h => ?_) (fun h => ?_)
        · refine zr_iconst hX dX6_rings_166 (zrl rfl) ?_
          refine zr_iadd hX dX6_rings_167 ?_
          refine zr_iast (N := 144) hX dX6_rings_168 rfl rfl h (fun h => ?_)
          refine zr_iinc hX dX6_rings_169 rfl (Nat.le_of_ble_eq_true rfl) ?_
          refine zr_goto hX dX6_rings_172 (tgt := 96) rfl ?_
          exact zW_lf (k_M_rings_96 h) (And.intro rfl (And.intro rfl (And.intro rfl (And.intro rfl (And.intro rfl (And.intro rfl trivial))))))
        · refine zr_iconst hX dX6_rings_162 (zrl rfl) ?_
          refine zr_goto hX dX6_rings_163 (tgt := 167) rfl ?_
          refine zr_iadd hX dX6_rings_167 ?_
          refine zr_iast (N := 144) hX dX6_rings_168 rfl rfl h (fun h => ?_)
          refine zr_iinc hX dX6_rings_169 rfl (Nat.le_of_ble_eq_true rfl) ?_
          refine zr_goto hX dX6_rings_172 (tgt := 96) rfl ?_
          exact zW_lf (k_M_rings_96 h) (And.intro rfl (And.intro rfl (And.intro rfl (And.intro rfl (And.intro rfl (And.intro rfl trivial))))))
set_option maxRecDepth 100000 in
set_option maxHeartbeats 4000000 in
theorem w_M_rings_e {X : zX} {G : zG} {μ : zM} {rv : Option zV} {ν : zM} (hX : zOk X G cX6_rings RX6 6 (some .int) 4) (hF : zFin X G rv ν) (h : zP (Sum.elim (k_M_rings X G) (fun r : (Int × zM) => (some (zI r.1), r.2) = (rv, ν))) (e_M_rings μ)) : zW X G 6 0 [some (zR 42), none, none, none, none, none] [] μ := by
  refine zr_aload_n hX dX6_rings_0 rfl rfl ?_
  refine zP_bind h (fun q1 hq1 h => ?_)
  refine zr_callV hX dX6_rings_1 (m_M_layLamps hq1) rfl rfl rfl (z5 ww_1009 ww_1011 ww_29 ww_75 ww_1012) hy_X6_layLamps rfl (Nat.le_of_ble_eq_true rfl) (Nat.le_of_ble_eq_true rfl) (Nat.le_of_ble_eq_true rfl) ?_
  refine zr_aload_n hX dX6_rings_4 rfl rfl ?_
  refine zP_bind h (fun q2 hq2 h => ?_)
  refine zr_callV hX dX6_rings_5 (m_M_houses hq2) rfl rfl rfl (z5 ww_1013 ww_1015 ww_30 ww_75 ww_1016) hy_X6_houses rfl (Nat.le_of_ble_eq_true rfl) (Nat.le_of_ble_eq_true rfl) (Nat.le_of_ble_eq_true rfl) ?_
  refine zr_istore_n hX dX6_rings_8 rfl (Nat.le_of_ble_eq_true rfl) ?_
  refine zr_iconst hX dX6_rings_9 (zrl rfl) ?_
  refine zr_istore_n hX dX6_rings_10 rfl (Nat.le_of_ble_eq_true rfl) ?_
  refine zr_iconst hX dX6_rings_11 (zrl rfl) ?_
  refine zr_istore_n hX dX6_rings_12 rfl (Nat.le_of_ble_eq_true rfl) ?_
  exact zW_lf (k_M_rings_13 h) (And.intro rfl (And.intro rfl (And.intro rfl (And.intro rfl trivial))))
set_option maxRecDepth 100000 in
theorem m_M_rings {l : Launch} {G : zG} {μ : zM} {q : Int × zM} (hq : f_M_rings μ = some q) : zCT l G yX6_rings cX6_rings 6 (some .int) 4 [zR 42] μ (some (zI q.1)) q.2 := by
  refine zMet (lv := [some (zR 42), none, none, none, none, none]) (k := 5) pl_X6 rfl (Nat.le_of_ble_eq_true rfl) (fun X hl hX hF _ _ => ?_)
  refine w_M_rings_e hX hF (zgo_K (r := q) (step := t_M_rings) (fun s h => ?_) rfl hq)
  cases s with
  | inl s => exact w_M_rings_13 hX hF h
  | inr s =>
    cases s with
    | inl s => exact w_M_rings_79 hX hF h
    | inr s =>
      cases s with
      | inl s => exact w_M_rings_21 hX hF h
      | inr s =>
        cases s with
        | inl s => exact w_M_rings_192 hX hF h
        | inr s =>
          cases s with
          | inl s => exact w_M_rings_87 hX hF h
          | inr s => exact w_M_rings_96 hX hF h
set_option maxRecDepth 100000 in
set_option maxHeartbeats 4000000 in
theorem w_M_isBuilt_30 {X : zX} {G : zG} {v1 : Int} {v2 : Int} {μ : zM} {rv : Option zV} {ν : zM} (hX : zOk X G cX6_isBuilt RX6 4 (some .boolean) 5) (hF : zFin X G rv ν) {w0 : Int} (h : zP (fun r : (Int × zM) => (some (zI r.1), r.2) = (rv, ν)) (j_M_isBuilt_30 v1 v2 w0 μ)) : zW X G 4 30 [some (zR 42), some (zI v1), none, none] [zI w0] μ := by
  refine zr_istore_n hX dX6_isBuilt_30 rfl (Nat.le_of_ble_eq_true rfl) ?_
  refine zr_aload_n hX dX6_isBuilt_31 rfl rfl ?_
  refine zr_getr hX dX6_isBuilt_32 (k := 0) (q := 43) rfl rfl ww_841 rfl ?_
  refine zr_iconst hX dX6_isBuilt_35 (zrl rfl) ?_
  refine zr_iload_n hX dX6_isBuilt_36 rfl rfl ?_
  refine zr_iadd hX dX6_isBuilt_37 ?_
  refine zr_dup2 hX dX6_isBuilt_38 rfl rfl ?_
  refine zr_iald (N := 10956) hX dX6_isBuilt_39 rfl rfl h (fun h => ?_)
  refine zr_iload_n hX dX6_isBuilt_40 rfl rfl ?_
  refine zr_ifeq (tgt := 48) hX dX6_isBuilt_41 rfl h (fun h => ?_) (fun h => ?_)
  · refine zr_iconst hX dX6_isBuilt_48 (zrl rfl) ?_
    refine zr_isub hX dX6_isBuilt_49 ?_
    refine zr_iast (N := 10956) hX dX6_isBuilt_50 rfl rfl h (fun h => ?_)
    refine zr_iload_n hX dX6_isBuilt_51 rfl rfl ?_
    exact zr_bret hX dX6_isBuilt_52 hF h (fun h => h)
  · refine zr_iconst hX dX6_isBuilt_44 (zrl rfl) ?_
    refine zr_goto hX dX6_isBuilt_45 (tgt := 49) rfl ?_
    refine zr_isub hX dX6_isBuilt_49 ?_
    refine zr_iast (N := 10956) hX dX6_isBuilt_50 rfl rfl h (fun h => ?_)
    refine zr_iload_n hX dX6_isBuilt_51 rfl rfl ?_
    exact zr_bret hX dX6_isBuilt_52 hF h (fun h => h)
set_option maxRecDepth 100000 in
set_option maxHeartbeats 4000000 in
theorem w_M_isBuilt_e {X : zX} {G : zG} {v1 : Int} {v2 : Int} {μ : zM} {rv : Option zV} {ν : zM} (hX : zOk X G cX6_isBuilt RX6 4 (some .boolean) 5) (hF : zFin X G rv ν) (h : zP (fun r : (Int × zM) => (some (zI r.1), r.2) = (rv, ν)) (f_M_isBuilt v1 v2 μ)) : zW X G 4 0 [some (zR 42), some (zI v1), some (zI v2), none] [] μ := by
  refine zr_aload_n hX dX6_isBuilt_0 rfl rfl ?_
  refine zr_iload_n hX dX6_isBuilt_1 rfl rfl ?_
  refine zP_bind h (fun q1 hq1 h => ?_)
  refine zr_callV hX dX6_isBuilt_2 (m_M_hasRoom hq1) rfl rfl rfl (z5 ww_1122 ww_1124 ww_48 ww_75 ww_1125) hy_X6_hasRoom rfl (Nat.le_of_ble_eq_true rfl) (Nat.le_of_ble_eq_true rfl) (Nat.le_of_ble_eq_true rfl) ?_
  refine zr_istore_n hX dX6_isBuilt_5 rfl (Nat.le_of_ble_eq_true rfl) ?_
  refine zr_iload_n hX dX6_isBuilt_6 rfl rfl ?_
  refine zr_ifeq (tgt := 51) hX dX6_isBuilt_7 rfl h (fun h => ?_) (fun h => ?_)
  · refine zr_iload_n hX dX6_isBuilt_51 rfl rfl ?_
    exact zr_bret hX dX6_isBuilt_52 hF h (fun h => h)
  · refine zr_aload_n hX dX6_isBuilt_10 rfl rfl ?_
    refine zr_iconst hX dX6_isBuilt_11 (zrl rfl) ?_
    refine zr_iload_n hX dX6_isBuilt_12 rfl rfl ?_
    refine zr_iconst hX dX6_isBuilt_13 (zrl rfl) ?_
    refine zr_iload_n hX dX6_isBuilt_14 rfl rfl ?_
    refine zP_bind h (fun q2 hq2 h => ?_)
    refine zr_callV hX dX6_isBuilt_15 (m_M_adds hq2) rfl rfl rfl (z5 ww_976 ww_978 ww_24 ww_75 ww_979) hy_X6_adds rfl (Nat.le_of_ble_eq_true rfl) (Nat.le_of_ble_eq_true rfl) (Nat.le_of_ble_eq_true rfl) ?_
    refine zr_aload_n hX dX6_isBuilt_18 rfl rfl ?_
    refine zP_bind h (fun q3 hq3 h => ?_)
    refine zr_callV hX dX6_isBuilt_19 (m_M_swaying hq3) rfl rfl rfl (z5 ww_1196 ww_1198 ww_55 ww_75 ww_1199) hy_X6_swaying rfl (Nat.le_of_ble_eq_true rfl) (Nat.le_of_ble_eq_true rfl) (Nat.le_of_ble_eq_true rfl) ?_
    refine zr_ifne (tgt := 29) hX dX6_isBuilt_22 rfl h (fun h => ?_) (fun h => ?_)
    · refine zr_iconst hX dX6_isBuilt_29 (zrl rfl) ?_
      exact zW_lf (w_M_isBuilt_30 hX hF h) (And.intro rfl (And.intro rfl trivial))
    · refine zr_iconst hX dX6_isBuilt_25 (zrl rfl) ?_
      refine zr_goto hX dX6_isBuilt_26 (tgt := 30) rfl ?_
      exact zW_lf (w_M_isBuilt_30 hX hF h) (And.intro rfl (And.intro rfl trivial))
set_option maxRecDepth 100000 in
theorem m_M_isBuilt {l : Launch} {G : zG} {v1 : Int} {v2 : Int} {μ : zM} {q : Int × zM} (hq : f_M_isBuilt v1 v2 μ = some q) : zCT l G yX6_isBuilt cX6_isBuilt 4 (some .boolean) 5 [zR 42, zI v1, zI v2] μ (some (zI q.1)) q.2 := by
  refine zMet (lv := [some (zR 42), some (zI v1), some (zI v2), none]) (k := 1) pl_X6 rfl (Nat.le_of_ble_eq_true rfl) (fun X hl hX hF _ _ => ?_)
  exact w_M_isBuilt_e hX hF (zP_of hq rfl)
def k_M_winsBy (X : zX) (G : zG) (v1 : Int) (v2 : Int) : (Int × zM) → Prop := fun s => zW X G 6 16 [some (zR 42), some (zI v1), some (zI v2), some (zI s.1), none, none] [] s.2
theorem k_M_winsBy_16 {X : zX} {G : zG} {v1 : Int} {v2 : Int} {F : (Int × zM) → Prop} {v3 : Int} {κ : zM} (h : zP (Sum.elim (k_M_winsBy X G v1 v2) F) (some (.inl ((v3, κ))))) : zW X G 6 16 [some (zR 42), some (zI v1), some (zI v2), some (zI v3), none, none] [] κ := h
set_option maxRecDepth 100000 in
set_option maxHeartbeats 4000000 in
theorem w_M_winsBy_76 {X : zX} {G : zG} {v1 : Int} {v2 : Int} {μ : zM} {rv : Option zV} {ν : zM} (hX : zOk X G cX6_winsBy RX6 6 (some .boolean) 6) (hF : zFin X G rv ν) {v3 w0 : Int} (h : zP (Sum.elim (k_M_winsBy X G v1 v2) (fun r : (Int × zM) => (some (zI r.1), r.2) = (rv, ν))) (j_M_winsBy_76 v1 v2 v3 w0 μ)) : zW X G 6 76 [some (zR 42), some (zI v1), some (zI v2), some (zI v3), none, none] [zI w0] μ := by
  refine zr_istore hX dX6_winsBy_76 (Nat.le_of_ble_eq_true rfl) ?_
  refine zr_iload_n hX dX6_winsBy_78 rfl rfl ?_
  refine zr_ifne (tgt := 85) hX dX6_winsBy_79 rfl h (fun h => ?_) (fun h => ?_)
  · refine zr_iinc hX dX6_winsBy_85 rfl (Nat.le_of_ble_eq_true rfl) ?_
    refine zr_aload_n hX dX6_winsBy_88 rfl rfl ?_
    refine zr_getr hX dX6_winsBy_89 (k := 0) (q := 43) rfl rfl ww_841 rfl ?_
    refine zr_iconst hX dX6_winsBy_92 (zrl rfl) ?_
    refine zr_aload_n hX dX6_winsBy_93 rfl rfl ?_
    refine zr_getr hX dX6_winsBy_94 (k := 16) (q := 54) rfl rfl ww_857 rfl ?_
    refine zr_iload_n hX dX6_winsBy_97 rfl rfl ?_
    refine zr_iald (N := 5) hX dX6_winsBy_98 rfl rfl h (fun h => ?_)
    refine zr_iadd hX dX6_winsBy_99 ?_
    refine zr_dup2 hX dX6_winsBy_100 rfl rfl ?_
    refine zr_iald (N := 10956) hX dX6_winsBy_101 rfl rfl h (fun h => ?_)
    refine zr_iconst hX dX6_winsBy_102 (zrl rfl) ?_
    refine zr_isub hX dX6_winsBy_103 ?_
    refine zr_iast (N := 10956) hX dX6_winsBy_104 rfl rfl h (fun h => ?_)
    refine zr_aload_n hX dX6_winsBy_105 rfl rfl ?_
    refine zr_getr hX dX6_winsBy_106 (k := 17) (q := 55) rfl rfl ww_858 rfl ?_
    refine zr_iload_n hX dX6_winsBy_109 rfl rfl ?_
    refine zr_aload_n hX dX6_winsBy_110 rfl rfl ?_
    refine zr_getr hX dX6_winsBy_111 (k := 17) (q := 55) rfl rfl ww_858 rfl ?_
    refine zr_iload_n hX dX6_winsBy_114 rfl rfl ?_
    refine zr_bald (N := 5) hX dX6_winsBy_115 rfl rfl h (fun h => ?_)
    refine zr_ifne (tgt := 124) hX dX6_winsBy_116 rfl h (fun h => ?_) (fun h => ?_)
    · refine zr_iconst hX dX6_winsBy_124 (zrl rfl) ?_
      refine zr_goto hX dX6_winsBy_125 (tgt := 129) rfl ?_
      refine zr_bast (N := 5) hX dX6_winsBy_129 rfl rfl h (fun h => ?_)
      refine zr_aload_n hX dX6_winsBy_130 rfl rfl ?_
      refine zr_getr hX dX6_winsBy_131 (k := 16) (q := 54) rfl rfl ww_857 rfl ?_
      refine zr_iload_n hX dX6_winsBy_134 rfl rfl ?_
      refine zr_dup2 hX dX6_winsBy_135 rfl rfl ?_
      refine zr_iald (N := 5) hX dX6_winsBy_136 rfl rfl h (fun h => ?_)
      refine zr_iconst hX dX6_winsBy_137 (zrl rfl) ?_
      refine zr_iadd hX dX6_winsBy_138 ?_
      refine zr_iast (N := 5) hX dX6_winsBy_139 rfl rfl h (fun h => ?_)
      refine zr_goto hX dX6_winsBy_140 (tgt := 192) rfl ?_
      refine zr_goto hX dX6_winsBy_192 (tgt := 16) rfl ?_
      exact zW_lf (k_M_winsBy_16 h) (And.intro rfl (And.intro rfl (And.intro rfl (And.intro rfl trivial))))
    · refine zr_iload hX dX6_winsBy_119 rfl ?_
      refine zr_ifne (tgt := 128) hX dX6_winsBy_121 rfl h (fun h => ?_) (fun h => ?_)
      · refine zr_iconst hX dX6_winsBy_128 (zrl rfl) ?_
        refine zr_bast (N := 5) hX dX6_winsBy_129 rfl rfl h (fun h => ?_)
        refine zr_aload_n hX dX6_winsBy_130 rfl rfl ?_
        refine zr_getr hX dX6_winsBy_131 (k := 16) (q := 54) rfl rfl ww_857 rfl ?_
        refine zr_iload_n hX dX6_winsBy_134 rfl rfl ?_
        refine zr_dup2 hX dX6_winsBy_135 rfl rfl ?_
        refine zr_iald (N := 5) hX dX6_winsBy_136 rfl rfl h (fun h => ?_)
        refine zr_iconst hX dX6_winsBy_137 (zrl rfl) ?_
        refine zr_iadd hX dX6_winsBy_138 ?_
        refine zr_iast (N := 5) hX dX6_winsBy_139 rfl rfl h (fun h => ?_)
        refine zr_goto hX dX6_winsBy_140 (tgt := 192) rfl ?_
        refine zr_goto hX dX6_winsBy_192 (tgt := 16) rfl ?_
        exact zW_lf (k_M_winsBy_16 h) (And.intro rfl (And.intro rfl (And.intro rfl (And.intro rfl trivial))))
      · refine zr_iconst hX dX6_winsBy_124 (zrl rfl) ?_
        refine zr_goto hX dX6_winsBy_125 (tgt := 129) rfl ?_
        refine zr_bast (N := 5) hX dX6_winsBy_129 rfl rfl h (fun h => ?_)
        refine zr_aload_n hX dX6_winsBy_130 rfl rfl ?_
        refine zr_getr hX dX6_winsBy_131 (k := 16) (q := 54) rfl rfl ww_857 rfl ?_
        refine zr_iload_n hX dX6_winsBy_134 rfl rfl ?_
        refine zr_dup2 hX dX6_winsBy_135 rfl rfl ?_
        refine zr_iald (N := 5) hX dX6_winsBy_136 rfl rfl h (fun h => ?_)
        refine zr_iconst hX dX6_winsBy_137 (zrl rfl) ?_
        refine zr_iadd hX dX6_winsBy_138 ?_
        refine zr_iast (N := 5) hX dX6_winsBy_139 rfl rfl h (fun h => ?_)
        refine zr_goto hX dX6_winsBy_140 (tgt := 192) rfl ?_
        refine zr_goto hX dX6_winsBy_192 (tgt := 16) rfl ?_
        exact zW_lf (k_M_winsBy_16 h) (And.intro rfl (And.intro rfl (And.intro rfl (And.intro rfl trivial))))
  · refine zr_iload hX dX6_winsBy_82 rfl ?_
    exact zr_bret hX dX6_winsBy_84 hF h (fun h => h)
set_option maxRecDepth 100000 in
set_option maxHeartbeats 4000000 in
theorem w_M_winsBy_75 {X : zX} {G : zG} {v1 : Int} {v2 : Int} {μ : zM} {rv : Option zV} {ν : zM} (hX : zOk X G cX6_winsBy RX6 6 (some .boolean) 6) (hF : zFin X G rv ν) {v3 : Int} (h : zP (Sum.elim (k_M_winsBy X G v1 v2) (fun r : (Int × zM) => (some (zI r.1), r.2) = (rv, ν))) (j_M_winsBy_75 v1 v2 v3 μ)) : zW X G 6 75 [some (zR 42), some (zI v1), some (zI v2), some (zI v3), none, none] [] μ := by
  refine zr_iconst hX dX6_winsBy_75 (zrl rfl) ?_
  exact zW_lf (w_M_winsBy_76 hX hF h) (And.intro rfl (And.intro rfl (And.intro rfl (And.intro rfl trivial))))
set_option maxRecDepth 100000 in
set_option maxHeartbeats 4000000 in
theorem w_M_winsBy_50 {X : zX} {G : zG} {v1 : Int} {v2 : Int} {μ : zM} {rv : Option zV} {ν : zM} (hX : zOk X G cX6_winsBy RX6 6 (some .boolean) 6) (hF : zFin X G rv ν) {v3 w0 : Int} (h : zP (Sum.elim (k_M_winsBy X G v1 v2) (fun r : (Int × zM) => (some (zI r.1), r.2) = (rv, ν))) (j_M_winsBy_50 v1 v2 v3 w0 μ)) : zW X G 6 50 [some (zR 42), some (zI v1), some (zI v2), some (zI v3), none, none] [zI w0] μ := by
  refine zr_istore hX dX6_winsBy_50 (Nat.le_of_ble_eq_true rfl) ?_
  refine zr_iload hX dX6_winsBy_52 rfl ?_
  refine zr_ifeq (tgt := 143) hX dX6_winsBy_54 rfl h (fun h => ?_) (fun h => ?_)
  · refine zr_aload_n hX dX6_winsBy_143 rfl rfl ?_
    refine zr_aload_n hX dX6_winsBy_144 rfl rfl ?_
    refine zr_getr hX dX6_winsBy_145 (k := 16) (q := 54) rfl rfl ww_857 rfl ?_
    refine zr_iload_n hX dX6_winsBy_148 rfl rfl ?_
    refine zr_iald (N := 5) hX dX6_winsBy_149 rfl rfl h (fun h => ?_)
    refine zr_iload_n hX dX6_winsBy_150 rfl rfl ?_
    refine zP_bind h (fun q1 hq1 h => ?_)
    refine zr_callV hX dX6_winsBy_151 (m_M_isBuilt hq1) rfl rfl rfl (z5 ww_1264 ww_1266 ww_62 ww_75 ww_1267) hy_X6_isBuilt rfl (Nat.le_of_ble_eq_true rfl) (Nat.le_of_ble_eq_true rfl) (Nat.le_of_ble_eq_true rfl) ?_
    refine zr_ifeq (tgt := 182) hX dX6_winsBy_154 rfl h (fun h => ?_) (fun h => ?_)
    · refine zr_aload_n hX dX6_winsBy_182 rfl rfl ?_
      refine zr_getr hX dX6_winsBy_183 (k := 16) (q := 54) rfl rfl ww_857 rfl ?_
      refine zr_iload_n hX dX6_winsBy_186 rfl rfl ?_
      refine zr_dup2 hX dX6_winsBy_187 rfl rfl ?_
      refine zr_iald (N := 5) hX dX6_winsBy_188 rfl rfl h (fun h => ?_)
      refine zr_iconst hX dX6_winsBy_189 (zrl rfl) ?_
      refine zr_iadd hX dX6_winsBy_190 ?_
      refine zr_iast (N := 5) hX dX6_winsBy_191 rfl rfl h (fun h => ?_)
      refine zr_goto hX dX6_winsBy_192 (tgt := 16) rfl ?_
      exact zW_lf (k_M_winsBy_16 h) (And.intro rfl (And.intro rfl (And.intro rfl (And.intro rfl trivial))))
    · refine zr_iinc hX dX6_winsBy_157 rfl (Nat.le_of_ble_eq_true rfl) ?_
      refine zr_iload_n hX dX6_winsBy_160 rfl rfl ?_
      refine zr_iload_n hX dX6_winsBy_161 rfl rfl ?_
      refine zr_icmpge (tgt := 192) hX dX6_winsBy_162 rfl h (fun h => ?_) (fun h => ?_)
      · refine zr_goto hX dX6_winsBy_192 (tgt := 16) rfl ?_
        exact zW_lf (k_M_winsBy_16 h) (And.intro rfl (And.intro rfl (And.intro rfl (And.intro rfl trivial))))
      · refine zr_aload_n hX dX6_winsBy_165 rfl rfl ?_
        refine zr_getr hX dX6_winsBy_166 (k := 16) (q := 54) rfl rfl ww_857 rfl ?_
        refine zr_iload_n hX dX6_winsBy_169 rfl rfl ?_
        refine zr_iconst hX dX6_winsBy_170 (zrl rfl) ?_
        refine zr_iast (N := 5) hX dX6_winsBy_171 rfl rfl h (fun h => ?_)
        refine zr_aload_n hX dX6_winsBy_172 rfl rfl ?_
        refine zr_getr hX dX6_winsBy_173 (k := 17) (q := 55) rfl rfl ww_858 rfl ?_
        refine zr_iload_n hX dX6_winsBy_176 rfl rfl ?_
        refine zr_iconst hX dX6_winsBy_177 (zrl rfl) ?_
        refine zr_bast (N := 5) hX dX6_winsBy_178 rfl rfl h (fun h => ?_)
        refine zr_goto hX dX6_winsBy_179 (tgt := 192) rfl ?_
        refine zr_goto hX dX6_winsBy_192 (tgt := 16) rfl ?_
        exact zW_lf (k_M_winsBy_16 h) (And.intro rfl (And.intro rfl (And.intro rfl (And.intro rfl trivial))))
  · refine zr_iload_n hX dX6_winsBy_57 rfl rfl ?_
    refine zr_iload_n hX dX6_winsBy_58 rfl rfl ?_
    refine zr_icmpge (tgt := 75) hX dX6_winsBy_59 rfl h (fun h => ?_) (fun h => ?_)
    · exact zW_lf (w_M_winsBy_75 hX hF h) (And.intro rfl (And.intro rfl (And.intro rfl (And.intro rfl trivial))))
    · refine zr_aload_n hX dX6_winsBy_62 rfl rfl ?_
      refine zr_getr hX dX6_winsBy_63 (k := 17) (q := 55) rfl rfl ww_858 rfl ?_
      refine zr_iload_n hX dX6_winsBy_66 rfl rfl ?_
      refine zr_bald (N := 5) hX dX6_winsBy_67 rfl rfl h (fun h => ?_)
      refine zr_ifeq (tgt := 75) hX dX6_winsBy_68 rfl h (fun h => ?_) (fun h => ?_)
      · exact zW_lf (w_M_winsBy_75 hX hF h) (And.intro rfl (And.intro rfl (And.intro rfl (And.intro rfl trivial))))
      · refine zr_iconst hX dX6_winsBy_71 (zrl rfl) ?_
        refine zr_goto hX dX6_winsBy_72 (tgt := 76) rfl ?_
        exact zW_lf (w_M_winsBy_76 hX hF h) (And.intro rfl (And.intro rfl (And.intro rfl (And.intro rfl trivial))))
set_option maxRecDepth 100000 in
set_option maxHeartbeats 4000000 in
theorem w_M_winsBy_45 {X : zX} {G : zG} {v1 : Int} {v2 : Int} {μ : zM} {rv : Option zV} {ν : zM} (hX : zOk X G cX6_winsBy RX6 6 (some .boolean) 6) (hF : zFin X G rv ν) {v3 : Int} (h : zP (Sum.elim (k_M_winsBy X G v1 v2) (fun r : (Int × zM) => (some (zI r.1), r.2) = (rv, ν))) (j_M_winsBy_45 v1 v2 v3 μ)) : zW X G 6 45 [some (zR 42), some (zI v1), some (zI v2), some (zI v3), none, none] [] μ := by
  refine zr_iconst hX dX6_winsBy_45 (zrl rfl) ?_
  refine zr_goto hX dX6_winsBy_46 (tgt := 50) rfl ?_
  exact zW_lf (w_M_winsBy_50 hX hF h) (And.intro rfl (And.intro rfl (And.intro rfl (And.intro rfl trivial))))
set_option maxRecDepth 100000 in
set_option maxHeartbeats 4000000 in
theorem w_M_winsBy_16 {X : zX} {G : zG} {v1 : Int} {v2 : Int} {μ : zM} {rv : Option zV} {ν : zM} (hX : zOk X G cX6_winsBy RX6 6 (some .boolean) 6) (hF : zFin X G rv ν) {v3 : Int} (h : zP (Sum.elim (k_M_winsBy X G v1 v2) (fun r : (Int × zM) => (some (zI r.1), r.2) = (rv, ν))) (b_M_winsBy_16 v1 v2 v3 μ)) : zW X G 6 16 [some (zR 42), some (zI v1), some (zI v2), some (zI v3), none, none] [] μ := by
  refine zr_iload_n hX dX6_winsBy_16 rfl rfl ?_
  refine zr_iload_n hX dX6_winsBy_17 rfl rfl ?_
  refine zr_icmpeq (tgt := 45) hX dX6_winsBy_18 rfl h (fun h => ?_) (fun h => ?_)
  · exact zW_lf (w_M_winsBy_45 hX hF h) (And.intro rfl (And.intro rfl (And.intro rfl (And.intro rfl trivial))))
  · refine zr_aload_n hX dX6_winsBy_21 rfl rfl ?_
    refine zr_getr hX dX6_winsBy_22 (k := 17) (q := 55) rfl rfl ww_858 rfl ?_
    refine zr_iload_n hX dX6_winsBy_25 rfl rfl ?_
    refine zr_bald (N := 5) hX dX6_winsBy_26 rfl rfl h (fun h => ?_)
    refine zr_ifne (tgt := 45) hX dX6_winsBy_27 rfl h (fun h => ?_) (fun h => ?_)
    · exact zW_lf (w_M_winsBy_45 hX hF h) (And.intro rfl (And.intro rfl (And.intro rfl (And.intro rfl trivial))))
    · refine zr_aload_n hX dX6_winsBy_30 rfl rfl ?_
      refine zr_getr hX dX6_winsBy_31 (k := 16) (q := 54) rfl rfl ww_857 rfl ?_
      refine zr_iload_n hX dX6_winsBy_34 rfl rfl ?_
      refine zr_iald (N := 5) hX dX6_winsBy_35 rfl rfl h (fun h => ?_)
      refine zr_aload_n hX dX6_winsBy_36 rfl rfl ?_
      refine zr_getr hX dX6_winsBy_37 (k := 0) (q := 43) rfl rfl ww_841 rfl ?_
      refine zr_iconst hX dX6_winsBy_40 (zrl rfl) ?_
      refine zr_ialdc hX dX6_winsBy_41 (N := 10956) rfl rfl rfl ?_
      refine zr_icmpne (tgt := 49) hX dX6_winsBy_42 rfl h (fun h => ?_) (fun h => ?_)
      · refine zr_iconst hX dX6_winsBy_49 (zrl rfl) ?_
        exact zW_lf (w_M_winsBy_50 hX hF h) (And.intro rfl (And.intro rfl (And.intro rfl (And.intro rfl trivial))))
      · exact zW_lf (w_M_winsBy_45 hX hF h) (And.intro rfl (And.intro rfl (And.intro rfl (And.intro rfl trivial))))
set_option maxRecDepth 100000 in
set_option maxHeartbeats 4000000 in
theorem w_M_winsBy_e {X : zX} {G : zG} {v1 : Int} {v2 : Int} {μ : zM} {rv : Option zV} {ν : zM} (hX : zOk X G cX6_winsBy RX6 6 (some .boolean) 6) (hF : zFin X G rv ν) (h : zP (Sum.elim (k_M_winsBy X G v1 v2) (fun r : (Int × zM) => (some (zI r.1), r.2) = (rv, ν))) (e_M_winsBy v1 v2 μ)) : zW X G 6 0 [some (zR 42), some (zI v1), some (zI v2), none, none, none] [] μ := by
  refine zr_iconst hX dX6_winsBy_0 (zrl rfl) ?_
  refine zr_istore_n hX dX6_winsBy_1 rfl (Nat.le_of_ble_eq_true rfl) ?_
  refine zr_aload_n hX dX6_winsBy_2 rfl rfl ?_
  refine zr_getr hX dX6_winsBy_3 (k := 16) (q := 54) rfl rfl ww_857 rfl ?_
  refine zr_iconst hX dX6_winsBy_6 (zrl rfl) ?_
  refine zr_iconst hX dX6_winsBy_7 (zrl rfl) ?_
  refine zr_iastc hX dX6_winsBy_8 (N := 5) rfl rfl rfl ?_
  refine zr_aload_n hX dX6_winsBy_9 rfl rfl ?_
  refine zr_getr hX dX6_winsBy_10 (k := 17) (q := 55) rfl rfl ww_858 rfl ?_
  refine zr_iconst hX dX6_winsBy_13 (zrl rfl) ?_
  refine zr_iconst hX dX6_winsBy_14 (zrl rfl) ?_
  refine zr_bastc hX dX6_winsBy_15 (N := 5) rfl rfl rfl (Or.inl rfl) ?_
  exact zW_lf (k_M_winsBy_16 h) (And.intro rfl (And.intro rfl (And.intro rfl (And.intro rfl trivial))))
set_option maxRecDepth 100000 in
theorem m_M_winsBy {l : Launch} {G : zG} {v1 : Int} {v2 : Int} {μ : zM} {q : Int × zM} (hq : f_M_winsBy v1 v2 μ = some q) : zCT l G yX6_winsBy cX6_winsBy 6 (some .boolean) 6 [zR 42, zI v1, zI v2] μ (some (zI q.1)) q.2 := by
  refine zMet (lv := [some (zR 42), some (zI v1), some (zI v2), none, none, none]) (k := 3) pl_X6 rfl (Nat.le_of_ble_eq_true rfl) (fun X hl hX hF _ _ => ?_)
  refine w_M_winsBy_e hX hF (zgo_K (r := q) (step := t_M_winsBy v1 v2) (fun s h => ?_) rfl hq)
  exact w_M_winsBy_16 hX hF h
set_option maxRecDepth 100000 in
set_option maxHeartbeats 4000000 in
theorem w_M_isGame_e {X : zX} {G : zG} {v1 : Int} {v2 : Int} {μ : zM} {rv : Option zV} {ν : zM} (hX : zOk X G cX6_isGame RX6 3 (some .boolean) 2) (hF : zFin X G rv ν) (h : zP (fun r : Int => (some (zI r), μ) = (rv, ν)) (fo_M_isGame v1 v2)) : zW X G 3 0 [some (zR 42), some (zI v1), some (zI v2)] [] μ := by
  refine zr_iload_n hX dX6_isGame_0 rfl rfl ?_
  refine zr_i2l hX dX6_isGame_1 ?_
  refine zr_lconst hX dX6_isGame_2 (n := 0) rfl (zrlJ rfl) ?_
  refine zr_ldc2 hX dX6_isGame_3 ww_1117 rfl (zrlJ rfl) ?_
  refine zr_callS hX dX6_isGame_6 (m_M_in) rfl (z4 ww_908 ww_909 ww_75 ww_910) hy_X6_in rfl (Nat.le_of_ble_eq_true rfl) (Nat.le_of_ble_eq_true rfl) (Nat.le_of_ble_eq_true rfl) ?_
  refine zr_ifeq (tgt := 28) hX dX6_isGame_9 rfl h (fun h => ?_) (fun h => ?_)
  · refine zr_iconst hX dX6_isGame_28 (zrl rfl) ?_
    exact zr_bretc hX dX6_isGame_29 hF (Or.inl rfl) h
  · refine zr_iload_n hX dX6_isGame_12 rfl rfl ?_
    refine zr_i2l hX dX6_isGame_13 ?_
    refine zr_lconst hX dX6_isGame_14 (n := 0) rfl (zrlJ rfl) ?_
    refine zr_ldc2 hX dX6_isGame_15 ww_1159 rfl (zrlJ rfl) ?_
    refine zr_callS hX dX6_isGame_18 (m_M_in) rfl (z4 ww_908 ww_909 ww_75 ww_910) hy_X6_in rfl (Nat.le_of_ble_eq_true rfl) (Nat.le_of_ble_eq_true rfl) (Nat.le_of_ble_eq_true rfl) ?_
    refine zr_ifeq (tgt := 28) hX dX6_isGame_21 rfl h (fun h => ?_) (fun h => ?_)
    · refine zr_iconst hX dX6_isGame_28 (zrl rfl) ?_
      exact zr_bretc hX dX6_isGame_29 hF (Or.inl rfl) h
    · refine zr_iconst hX dX6_isGame_24 (zrl rfl) ?_
      refine zr_goto hX dX6_isGame_25 (tgt := 29) rfl ?_
      exact zr_bretc hX dX6_isGame_29 hF (Or.inr rfl) h
set_option maxRecDepth 100000 in
theorem m_M_isGame {l : Launch} {G : zG} {v1 : Int} {v2 : Int} {μ : zM} : zCT l G yX6_isGame cX6_isGame 3 (some .boolean) 2 [zR 42, zI v1, zI v2] μ (some (zI (f_M_isGame v1 v2))) μ := by
  refine zMet (lv := [some (zR 42), some (zI v1), some (zI v2)]) (k := 0) pl_X6 rfl (Nat.le_of_ble_eq_true rfl) (fun X hl hX hF _ _ => ?_)
  exact w_M_isGame_e hX hF (by rw [fo_M_isGame_eq]; rfl)
set_option maxRecDepth 100000 in
set_option maxHeartbeats 4000000 in
theorem w_M_game_e {X : zX} {G : zG} {v1 : Int} {v2 : Int} {μ : zM} {rv : Option zV} {ν : zM} (hX : zOk X G cX6_game RX6 3 (some .int) 7) (hF : zFin X G rv ν) (h : zP (fun r : (Int × zM) => (some (zI r.1), r.2) = (rv, ν)) (f_M_game v1 v2 μ)) : zW X G 3 0 [some (zR 42), some (zI v1), some (zI v2)] [] μ := by
  refine zr_aload_n hX dX6_game_0 rfl rfl ?_
  refine zr_iload_n hX dX6_game_1 rfl rfl ?_
  refine zr_iload_n hX dX6_game_2 rfl rfl ?_
  refine zr_callV hX dX6_game_3 (m_M_isGame) rfl rfl rfl (z5 ww_1256 ww_1258 ww_60 ww_75 ww_1259) hy_X6_isGame rfl (Nat.le_of_ble_eq_true rfl) (Nat.le_of_ble_eq_true rfl) (Nat.le_of_ble_eq_true rfl) ?_
  refine zr_ifne (tgt := 11) hX dX6_game_6 rfl h (fun h => ?_) (fun h => ?_)
  · refine zr_aload_n hX dX6_game_11 rfl rfl ?_
    refine zr_callV hX dX6_game_12 (m_M_isNone) rfl rfl rfl (z5 ww_1147 ww_1149 ww_51 ww_75 ww_1150) hy_X6_isNone rfl (Nat.le_of_ble_eq_true rfl) (Nat.le_of_ble_eq_true rfl) (Nat.le_of_ble_eq_true rfl) ?_
    refine zr_ifeq (tgt := 23) hX dX6_game_15 rfl h (fun h => ?_) (fun h => ?_)
    · refine zr_aload_n hX dX6_game_23 rfl rfl ?_
      refine zr_iload_n hX dX6_game_24 rfl rfl ?_
      refine zr_iload_n hX dX6_game_25 rfl rfl ?_
      refine zP_bind h (fun q1 hq1 h => ?_)
      refine zr_callV hX dX6_game_26 (m_M_winsBy hq1) rfl rfl rfl (z5 ww_1260 ww_1262 ww_61 ww_75 ww_1263) hy_X6_winsBy rfl (Nat.le_of_ble_eq_true rfl) (Nat.le_of_ble_eq_true rfl) (Nat.le_of_ble_eq_true rfl) ?_
      refine zr_ifeq (tgt := 36) hX dX6_game_29 rfl h (fun h => ?_) (fun h => ?_)
      · refine zr_iconst hX dX6_game_36 (zrl rfl) ?_
        exact zr_iret hX dX6_game_37 hF h
      · refine zr_iconst hX dX6_game_32 (zrl rfl) ?_
        refine zr_goto hX dX6_game_33 (tgt := 37) rfl ?_
        exact zr_iret hX dX6_game_37 hF h
    · refine zr_bipush hX dX6_game_18 rfl ?_
      refine zr_goto hX dX6_game_20 (tgt := 37) rfl ?_
      exact zr_iret hX dX6_game_37 hF h
  · refine zr_iconst hX dX6_game_9 (zrl rfl) ?_
    exact zr_iret hX dX6_game_10 hF h
set_option maxRecDepth 100000 in
theorem m_M_game {l : Launch} {G : zG} {v1 : Int} {v2 : Int} {μ : zM} {q : Int × zM} (hq : f_M_game v1 v2 μ = some q) : zCT l G yX6_game cX6_game 3 (some .int) 7 [zR 42, zI v1, zI v2] μ (some (zI q.1)) q.2 := by
  refine zMet (lv := [some (zR 42), some (zI v1), some (zI v2)]) (k := 0) pl_X6 rfl (Nat.le_of_ble_eq_true rfl) (fun X hl hX hF _ _ => ?_)
  exact w_M_game_e hX hF (zP_of hq rfl)
def k_M_begin (X : zX) (G : zG) (v1 : Int) (v2 : Int) : (Int × zM) → Prop := fun s => zW X G 5 23 [some (zR 42), some (zI v1), some (zI v2), some (zI s.1), none] [] s.2
theorem k_M_begin_23 {X : zX} {G : zG} {v1 : Int} {v2 : Int} {F : (Int × zM) → Prop} {v3 : Int} {κ : zM} (h : zP (Sum.elim (k_M_begin X G v1 v2) F) (some (.inl ((v3, κ))))) : zW X G 5 23 [some (zR 42), some (zI v1), some (zI v2), some (zI v3), none] [] κ := h
set_option maxRecDepth 100000 in
set_option maxHeartbeats 4000000 in
theorem w_M_begin_62 {X : zX} {G : zG} {v1 : Int} {v2 : Int} {μ : zM} {rv : Option zV} {ν : zM} (hX : zOk X G cX6_begin RX6 5 (some .int) 7) (hF : zFin X G rv ν) {v3 w0 : Int} (h : zP (Sum.elim (k_M_begin X G v1 v2) (fun r : (Int × zM) => (some (zI r.1), r.2) = (rv, ν))) (j_M_begin_62 v1 v2 v3 w0 μ)) : zW X G 5 62 [some (zR 42), some (zI v1), some (zI v2), some (zI v3), none] [zI w0] μ := by
  refine zr_istore hX dX6_begin_62 (Nat.le_of_ble_eq_true rfl) ?_
  refine zr_aload_n hX dX6_begin_64 rfl rfl ?_
  refine zr_getr hX dX6_begin_65 (k := 0) (q := 43) rfl rfl ww_841 rfl ?_
  refine zr_iconst hX dX6_begin_68 (zrl rfl) ?_
  refine zr_iload_n hX dX6_begin_69 rfl rfl ?_
  refine zr_iadd hX dX6_begin_70 ?_
  refine zr_dup2 hX dX6_begin_71 rfl rfl ?_
  refine zr_iald (N := 10956) hX dX6_begin_72 rfl rfl h (fun h => ?_)
  refine zr_iconst hX dX6_begin_73 (zrl rfl) ?_
  refine zr_isub hX dX6_begin_74 ?_
  refine zr_iast (N := 10956) hX dX6_begin_75 rfl rfl h (fun h => ?_)
  refine zr_iload hX dX6_begin_76 rfl ?_
  refine zr_ifeq (tgt := 83) hX dX6_begin_78 rfl h (fun h => ?_) (fun h => ?_)
  · refine zr_iinc hX dX6_begin_83 rfl (Nat.le_of_ble_eq_true rfl) ?_
    refine zr_goto hX dX6_begin_86 (tgt := 23) rfl ?_
    exact zW_lf (k_M_begin_23 h) (And.intro rfl (And.intro rfl (And.intro rfl (And.intro rfl trivial))))
  · refine zr_iload_n hX dX6_begin_81 rfl rfl ?_
    exact zr_iret hX dX6_begin_82 hF h
set_option maxRecDepth 100000 in
set_option maxHeartbeats 4000000 in
theorem w_M_begin_23 {X : zX} {G : zG} {v1 : Int} {v2 : Int} {μ : zM} {rv : Option zV} {ν : zM} (hX : zOk X G cX6_begin RX6 5 (some .int) 7) (hF : zFin X G rv ν) {v3 : Int} (h : zP (Sum.elim (k_M_begin X G v1 v2) (fun r : (Int × zM) => (some (zI r.1), r.2) = (rv, ν))) (b_M_begin_23 v1 v2 v3 μ)) : zW X G 5 23 [some (zR 42), some (zI v1), some (zI v2), some (zI v3), none] [] μ := by
  refine zr_iload_n hX dX6_begin_23 rfl rfl ?_
  refine zr_aload_n hX dX6_begin_24 rfl rfl ?_
  refine zr_getr hX dX6_begin_25 (k := 0) (q := 43) rfl rfl ww_841 rfl ?_
  refine zr_iconst hX dX6_begin_28 (zrl rfl) ?_
  refine zr_ialdc hX dX6_begin_29 (N := 10956) rfl rfl rfl ?_
  refine zr_icmpge (tgt := 89) hX dX6_begin_30 rfl h (fun h => ?_) (fun h => ?_)
  · refine zr_bipush hX dX6_begin_89 rfl ?_
    exact zr_iret hX dX6_begin_91 hF h
  · refine zr_iload_n hX dX6_begin_33 rfl rfl ?_
    refine zr_ifle (tgt := 89) hX dX6_begin_34 rfl h (fun h => ?_) (fun h => ?_)
    · refine zr_bipush hX dX6_begin_89 rfl ?_
      exact zr_iret hX dX6_begin_91 hF h
    · refine zr_aload_n hX dX6_begin_37 rfl rfl ?_
      refine zr_iload_n hX dX6_begin_38 rfl rfl ?_
      refine zr_iload_n hX dX6_begin_39 rfl rfl ?_
      refine zP_bind h (fun q1 hq1 h => ?_)
      refine zr_callV hX dX6_begin_40 (m_M_isBuilt hq1) rfl rfl rfl (z5 ww_1264 ww_1266 ww_62 ww_75 ww_1267) hy_X6_isBuilt rfl (Nat.le_of_ble_eq_true rfl) (Nat.le_of_ble_eq_true rfl) (Nat.le_of_ble_eq_true rfl) ?_
      refine zr_ifeq (tgt := 83) hX dX6_begin_43 rfl h (fun h => ?_) (fun h => ?_)
      · refine zr_iinc hX dX6_begin_83 rfl (Nat.le_of_ble_eq_true rfl) ?_
        refine zr_goto hX dX6_begin_86 (tgt := 23) rfl ?_
        exact zW_lf (k_M_begin_23 h) (And.intro rfl (And.intro rfl (And.intro rfl (And.intro rfl trivial))))
      · refine zr_aload_n hX dX6_begin_46 rfl rfl ?_
        refine zr_iload_n hX dX6_begin_47 rfl rfl ?_
        refine zr_iload_n hX dX6_begin_48 rfl rfl ?_
        refine zr_iconst hX dX6_begin_49 (zrl rfl) ?_
        refine zr_isub hX dX6_begin_50 ?_
        refine zP_bind h (fun q2 hq2 h => ?_)
        refine zr_callV hX dX6_begin_51 (m_M_winsBy hq2) rfl rfl rfl (z5 ww_1260 ww_1262 ww_61 ww_75 ww_1263) hy_X6_winsBy rfl (Nat.le_of_ble_eq_true rfl) (Nat.le_of_ble_eq_true rfl) (Nat.le_of_ble_eq_true rfl) ?_
        refine zr_ifne (tgt := 61) hX dX6_begin_54 rfl h (fun h => ?_) (fun h => ?_)
        · refine zr_iconst hX dX6_begin_61 (zrl rfl) ?_
          exact zW_lf (w_M_begin_62 hX hF h) (And.intro rfl (And.intro rfl (And.intro rfl (And.intro rfl trivial))))
        · refine zr_iconst hX dX6_begin_57 (zrl rfl) ?_
          refine zr_goto hX dX6_begin_58 (tgt := 62) rfl ?_
          exact zW_lf (w_M_begin_62 hX hF h) (And.intro rfl (And.intro rfl (And.intro rfl (And.intro rfl trivial))))
set_option maxRecDepth 100000 in
set_option maxHeartbeats 4000000 in
theorem w_M_begin_e {X : zX} {G : zG} {v1 : Int} {v2 : Int} {μ : zM} {rv : Option zV} {ν : zM} (hX : zOk X G cX6_begin RX6 5 (some .int) 7) (hF : zFin X G rv ν) (h : zP (Sum.elim (k_M_begin X G v1 v2) (fun r : (Int × zM) => (some (zI r.1), r.2) = (rv, ν))) (e_M_begin v1 v2 μ)) : zW X G 5 0 [some (zR 42), some (zI v1), some (zI v2), none, none] [] μ := by
  refine zr_aload_n hX dX6_begin_0 rfl rfl ?_
  refine zr_iload_n hX dX6_begin_1 rfl rfl ?_
  refine zr_iload_n hX dX6_begin_2 rfl rfl ?_
  refine zr_callV hX dX6_begin_3 (m_M_isGame) rfl rfl rfl (z5 ww_1256 ww_1258 ww_60 ww_75 ww_1259) hy_X6_isGame rfl (Nat.le_of_ble_eq_true rfl) (Nat.le_of_ble_eq_true rfl) (Nat.le_of_ble_eq_true rfl) ?_
  refine zr_ifne (tgt := 11) hX dX6_begin_6 rfl h (fun h => ?_) (fun h => ?_)
  · refine zr_aload_n hX dX6_begin_11 rfl rfl ?_
    refine zr_callV hX dX6_begin_12 (m_M_isNone) rfl rfl rfl (z5 ww_1147 ww_1149 ww_51 ww_75 ww_1150) hy_X6_isNone rfl (Nat.le_of_ble_eq_true rfl) (Nat.le_of_ble_eq_true rfl) (Nat.le_of_ble_eq_true rfl) ?_
    refine zr_ifeq (tgt := 21) hX dX6_begin_15 rfl h (fun h => ?_) (fun h => ?_)
    · refine zr_iconst hX dX6_begin_21 (zrl rfl) ?_
      refine zr_istore_n hX dX6_begin_22 rfl (Nat.le_of_ble_eq_true rfl) ?_
      exact zW_lf (k_M_begin_23 h) (And.intro rfl (And.intro rfl (And.intro rfl (And.intro rfl trivial))))
    · refine zr_bipush hX dX6_begin_18 rfl ?_
      exact zr_iret hX dX6_begin_20 hF h
  · refine zr_iconst hX dX6_begin_9 (zrl rfl) ?_
    exact zr_iret hX dX6_begin_10 hF h
set_option maxRecDepth 100000 in
theorem m_M_begin {l : Launch} {G : zG} {v1 : Int} {v2 : Int} {μ : zM} {q : Int × zM} (hq : f_M_begin v1 v2 μ = some q) : zCT l G yX6_begin cX6_begin 5 (some .int) 7 [zR 42, zI v1, zI v2] μ (some (zI q.1)) q.2 := by
  refine zMet (lv := [some (zR 42), some (zI v1), some (zI v2), none, none]) (k := 2) pl_X6 rfl (Nat.le_of_ble_eq_true rfl) (fun X hl hX hF _ _ => ?_)
  refine w_M_begin_e hX hF (zgo_K (r := q) (step := t_M_begin v1 v2) (fun s h => ?_) rfl hq)
  exact w_M_begin_23 hX hF h
def k_M_isSeen (X : zX) (G : zG) (v1 : Int) (v2 : Int) (μ : zM) : (Int × Int) → Prop := fun s => zW X G 5 5 [some (zR 42), some (zI v1), some (zI v2), some (zI s.1), some (zI s.2)] [] μ
theorem k_M_isSeen_5 {X : zX} {G : zG} {v1 : Int} {v2 : Int} {μ : zM} {F : Int → Prop} {v3 v4 : Int} (h : zP (Sum.elim (k_M_isSeen X G v1 v2 μ) F) (some (.inl ((v3, v4))))) : zW X G 5 5 [some (zR 42), some (zI v1), some (zI v2), some (zI v3), some (zI v4)] [] μ := h
set_option maxRecDepth 100000 in
set_option maxHeartbeats 4000000 in
theorem w_M_isSeen_5 {X : zX} {G : zG} {v1 : Int} {v2 : Int} {μ : zM} {rv : Option zV} {ν : zM} (hX : zOk X G cX6_isSeen RX6 5 (some .boolean) 5) (hF : zFin X G rv ν) {v3 v4 : Int} (h : zP (Sum.elim (k_M_isSeen X G v1 v2 μ) (fun r : Int => (some (zI r), μ) = (rv, ν))) (b_M_isSeen_5 v1 v2 v3 v4 μ)) : zW X G 5 5 [some (zR 42), some (zI v1), some (zI v2), some (zI v3), some (zI v4)] [] μ := by
  refine zr_iload hX dX6_isSeen_5 rfl ?_
  refine zr_aload_n hX dX6_isSeen_7 rfl rfl ?_
  refine zP_bind h (fun q1 hq1 h => ?_)
  refine zr_callV hX dX6_isSeen_8 (m_M_houses hq1) rfl rfl rfl (z5 ww_1013 ww_1015 ww_30 ww_75 ww_1016) hy_X6_houses rfl (Nat.le_of_ble_eq_true rfl) (Nat.le_of_ble_eq_true rfl) (Nat.le_of_ble_eq_true rfl) ?_
  refine zr_icmpge (tgt := 62) hX dX6_isSeen_11 rfl h (fun h => ?_) (fun h => ?_)
  · refine zr_iload_n hX dX6_isSeen_62 rfl rfl ?_
    exact zr_bret hX dX6_isSeen_63 hF h (fun h => h)
  · refine zr_iload_n hX dX6_isSeen_14 rfl rfl ?_
    refine zr_ifeq (tgt := 54) hX dX6_isSeen_15 rfl h (fun h => ?_) (fun h => ?_)
    · refine zr_iconst hX dX6_isSeen_54 (zrl rfl) ?_
      refine zr_istore_n hX dX6_isSeen_55 rfl (Nat.le_of_ble_eq_true rfl) ?_
      refine zr_iinc hX dX6_isSeen_56 rfl (Nat.le_of_ble_eq_true rfl) ?_
      refine zr_goto hX dX6_isSeen_59 (tgt := 5) rfl ?_
      exact zW_lf (k_M_isSeen_5 h) (And.intro rfl (And.intro rfl (And.intro rfl (And.intro rfl (And.intro rfl trivial)))))
    · refine zr_aload_n hX dX6_isSeen_18 rfl rfl ?_
      refine zr_aload_n hX dX6_isSeen_19 rfl rfl ?_
      refine zr_iload hX dX6_isSeen_20 rfl ?_
      refine zP_bind h (fun q2 hq2 h => ?_)
      refine zr_callV hX dX6_isSeen_22 (m_M_towerOf hq2) rfl rfl rfl (z5 ww_1017 ww_1019 ww_31 ww_75 ww_1020) hy_X6_towerOf rfl (Nat.le_of_ble_eq_true rfl) (Nat.le_of_ble_eq_true rfl) (Nat.le_of_ble_eq_true rfl) ?_
      refine zr_aload_n hX dX6_isSeen_25 rfl rfl ?_
      refine zr_iload hX dX6_isSeen_26 rfl ?_
      refine zP_bind h (fun q3 hq3 h => ?_)
      refine zr_callV hX dX6_isSeen_28 (m_M_storeyOf hq3) rfl rfl rfl (z5 ww_1021 ww_1023 ww_32 ww_75 ww_1024) hy_X6_storeyOf rfl (Nat.le_of_ble_eq_true rfl) (Nat.le_of_ble_eq_true rfl) (Nat.le_of_ble_eq_true rfl) ?_
      refine zr_iload_n hX dX6_isSeen_31 rfl rfl ?_
      refine zP_bind h (fun q4 hq4 h => ?_)
      refine zr_callV hX dX6_isSeen_32 (m_M_lightBy hq4) rfl rfl rfl (z5 ww_1069 ww_1071 ww_41 ww_75 ww_1072) hy_X6_lightBy rfl (Nat.le_of_ble_eq_true rfl) (Nat.le_of_ble_eq_true rfl) (Nat.le_of_ble_eq_true rfl) ?_
      refine zr_aload_n hX dX6_isSeen_35 rfl rfl ?_
      refine zr_getr hX dX6_isSeen_36 (k := 3) (q := 45) rfl rfl ww_844 rfl ?_
      refine zr_bipush hX dX6_isSeen_39 rfl ?_
      refine zr_iload_n hX dX6_isSeen_41 rfl rfl ?_
      refine zr_imul hX dX6_isSeen_42 ?_
      refine zr_iload hX dX6_isSeen_43 rfl ?_
      refine zr_iadd hX dX6_isSeen_45 ?_
      refine zr_iald (N := 240) hX dX6_isSeen_46 rfl rfl h (fun h => ?_)
      refine zr_icmpne (tgt := 54) hX dX6_isSeen_47 rfl h (fun h => ?_) (fun h => ?_)
      · refine zr_iconst hX dX6_isSeen_54 (zrl rfl) ?_
        refine zr_istore_n hX dX6_isSeen_55 rfl (Nat.le_of_ble_eq_true rfl) ?_
        refine zr_iinc hX dX6_isSeen_56 rfl (Nat.le_of_ble_eq_true rfl) ?_
        refine zr_goto hX dX6_isSeen_59 (tgt := 5) rfl ?_
        exact zW_lf (k_M_isSeen_5 h) (And.intro rfl (And.intro rfl (And.intro rfl (And.intro rfl (And.intro rfl trivial)))))
      · refine zr_iconst hX dX6_isSeen_50 (zrl rfl) ?_
        refine zr_goto hX dX6_isSeen_51 (tgt := 55) rfl ?_
        refine zr_istore_n hX dX6_isSeen_55 rfl (Nat.le_of_ble_eq_true rfl) ?_
        refine zr_iinc hX dX6_isSeen_56 rfl (Nat.le_of_ble_eq_true rfl) ?_
        refine zr_goto hX dX6_isSeen_59 (tgt := 5) rfl ?_
        exact zW_lf (k_M_isSeen_5 h) (And.intro rfl (And.intro rfl (And.intro rfl (And.intro rfl (And.intro rfl trivial)))))
set_option maxRecDepth 100000 in
set_option maxHeartbeats 4000000 in
theorem w_M_isSeen_e {X : zX} {G : zG} {v1 : Int} {v2 : Int} {μ : zM} {rv : Option zV} {ν : zM} (hX : zOk X G cX6_isSeen RX6 5 (some .boolean) 5) (hF : zFin X G rv ν) (h : zP (Sum.elim (k_M_isSeen X G v1 v2 μ) (fun r : Int => (some (zI r), μ) = (rv, ν))) (e_M_isSeen v1 v2 μ)) : zW X G 5 0 [some (zR 42), some (zI v1), some (zI v2), none, none] [] μ := by
  refine zr_iconst hX dX6_isSeen_0 (zrl rfl) ?_
  refine zr_istore_n hX dX6_isSeen_1 rfl (Nat.le_of_ble_eq_true rfl) ?_
  refine zr_iconst hX dX6_isSeen_2 (zrl rfl) ?_
  refine zr_istore hX dX6_isSeen_3 (Nat.le_of_ble_eq_true rfl) ?_
  exact zW_lf (k_M_isSeen_5 h) (And.intro rfl (And.intro rfl (And.intro rfl (And.intro rfl (And.intro rfl trivial)))))
set_option maxRecDepth 100000 in
theorem m_M_isSeen {l : Launch} {G : zG} {v1 : Int} {v2 : Int} {μ : zM} {q : Int} (hq : f_M_isSeen v1 v2 μ = some q) : zCT l G yX6_isSeen cX6_isSeen 5 (some .boolean) 5 [zR 42, zI v1, zI v2] μ (some (zI q)) μ := by
  refine zMet (lv := [some (zR 42), some (zI v1), some (zI v2), none, none]) (k := 2) pl_X6 rfl (Nat.le_of_ble_eq_true rfl) (fun X hl hX hF _ _ => ?_)
  refine w_M_isSeen_e hX hF (zgo_K (r := q) (step := t_M_isSeen v1 v2 μ) (fun s h => ?_) rfl hq)
  exact w_M_isSeen_5 hX hF h
def k_M_fog (X : zX) (G : zG) (v1 : Int) : (Int × Int × Int × zM) → Prop := fun s => zW X G 6 51 [some (zR 42), some (zI v1), some (zI s.1), some (zI s.2.1), some (zI s.2.2.1), none] [] s.2.2.2
theorem k_M_fog_51 {X : zX} {G : zG} {v1 : Int} {F : (Int × zM) → Prop} {v2 v3 v4 : Int} {κ : zM} (h : zP (Sum.elim (k_M_fog X G v1) F) (some (.inl ((v2, v3, v4, κ))))) : zW X G 6 51 [some (zR 42), some (zI v1), some (zI v2), some (zI v3), some (zI v4), none] [] κ := h
set_option maxRecDepth 100000 in
set_option maxHeartbeats 4000000 in
theorem w_M_fog_82 {X : zX} {G : zG} {v1 : Int} {μ : zM} {rv : Option zV} {ν : zM} (hX : zOk X G cX6_fog RX6 6 (some .int) 6) (hF : zFin X G rv ν) {v2 v4 v5 w0 : Int} (h : zP (Sum.elim (k_M_fog X G v1) (fun r : (Int × zM) => (some (zI r.1), r.2) = (rv, ν))) (j_M_fog_82 v1 v2 v4 v5 w0 μ)) : zW X G 6 82 [some (zR 42), some (zI v1), some (zI v2), none, some (zI v4), some (zI v5)] [zI w0] μ := by
  refine zr_istore_n hX dX6_fog_82 rfl (Nat.le_of_ble_eq_true rfl) ?_
  refine zr_iload_n hX dX6_fog_83 rfl rfl ?_
  refine zr_iload hX dX6_fog_84 rfl ?_
  refine zr_ifeq (tgt := 93) hX dX6_fog_86 rfl h (fun h => ?_) (fun h => ?_)
  · refine zr_iconst hX dX6_fog_93 (zrl rfl) ?_
    refine zr_iadd hX dX6_fog_94 ?_
    refine zr_istore_n hX dX6_fog_95 rfl (Nat.le_of_ble_eq_true rfl) ?_
    refine zr_iinc hX dX6_fog_96 rfl (Nat.le_of_ble_eq_true rfl) ?_
    refine zr_goto hX dX6_fog_99 (tgt := 51) rfl ?_
    exact zW_lf (k_M_fog_51 h) (And.intro rfl (And.intro rfl (And.intro rfl (And.intro rfl (And.intro rfl trivial)))))
  · refine zr_iconst hX dX6_fog_89 (zrl rfl) ?_
    refine zr_goto hX dX6_fog_90 (tgt := 94) rfl ?_
    refine zr_iadd hX dX6_fog_94 ?_
    refine zr_istore_n hX dX6_fog_95 rfl (Nat.le_of_ble_eq_true rfl) ?_
    refine zr_iinc hX dX6_fog_96 rfl (Nat.le_of_ble_eq_true rfl) ?_
    refine zr_goto hX dX6_fog_99 (tgt := 51) rfl ?_
    exact zW_lf (k_M_fog_51 h) (And.intro rfl (And.intro rfl (And.intro rfl (And.intro rfl (And.intro rfl trivial)))))
set_option maxRecDepth 100000 in
set_option maxHeartbeats 4000000 in
theorem w_M_fog_81 {X : zX} {G : zG} {v1 : Int} {μ : zM} {rv : Option zV} {ν : zM} (hX : zOk X G cX6_fog RX6 6 (some .int) 6) (hF : zFin X G rv ν) {v2 v3 v4 v5 : Int} (h : zP (Sum.elim (k_M_fog X G v1) (fun r : (Int × zM) => (some (zI r.1), r.2) = (rv, ν))) (j_M_fog_81 v1 v2 v3 v4 v5 μ)) : zW X G 6 81 [some (zR 42), some (zI v1), some (zI v2), some (zI v3), some (zI v4), some (zI v5)] [] μ := by
  refine zr_iload_n hX dX6_fog_81 rfl rfl ?_
  exact zW_lf (w_M_fog_82 hX hF h) (And.intro rfl (And.intro rfl (And.intro rfl (And.intro rfl (And.intro rfl trivial)))))
set_option maxRecDepth 100000 in
set_option maxHeartbeats 4000000 in
theorem w_M_fog_51 {X : zX} {G : zG} {v1 : Int} {μ : zM} {rv : Option zV} {ν : zM} (hX : zOk X G cX6_fog RX6 6 (some .int) 6) (hF : zFin X G rv ν) {v2 v3 v4 : Int} (h : zP (Sum.elim (k_M_fog X G v1) (fun r : (Int × zM) => (some (zI r.1), r.2) = (rv, ν))) (b_M_fog_51 v1 v2 v3 v4 μ)) : zW X G 6 51 [some (zR 42), some (zI v1), some (zI v2), some (zI v3), some (zI v4), none] [] μ := by
  refine zr_iload hX dX6_fog_51 rfl ?_
  refine zr_bipush hX dX6_fog_53 rfl ?_
  refine zr_icmpge (tgt := 102) hX dX6_fog_55 rfl h (fun h => ?_) (fun h => ?_)
  · refine zr_aload_n hX dX6_fog_102 rfl rfl ?_
    refine zr_iload_n hX dX6_fog_103 rfl rfl ?_
    refine zr_iload_n hX dX6_fog_104 rfl rfl ?_
    refine zP_bind h (fun q4 hq4 h => ?_)
    refine zr_callV hX dX6_fog_105 (m_M_tells hq4) rfl rfl rfl (z5 ww_923 ww_925 ww_20 ww_75 ww_926) hy_X6_tells rfl (Nat.le_of_ble_eq_true rfl) (Nat.le_of_ble_eq_true rfl) (Nat.le_of_ble_eq_true rfl) ?_
    exact zr_iret hX dX6_fog_108 hF h
  · refine zr_aload_n hX dX6_fog_58 rfl rfl ?_
    refine zr_iload_n hX dX6_fog_59 rfl rfl ?_
    refine zr_iload hX dX6_fog_60 rfl ?_
    refine zP_bind h (fun q5 hq5 h => ?_)
    refine zr_callV hX dX6_fog_62 (m_M_isSeen hq5) rfl rfl rfl (z5 ww_1276 ww_1278 ww_63 ww_75 ww_1279) hy_X6_isSeen rfl (Nat.le_of_ble_eq_true rfl) (Nat.le_of_ble_eq_true rfl) (Nat.le_of_ble_eq_true rfl) ?_
    refine zr_istore hX dX6_fog_65 (Nat.le_of_ble_eq_true rfl) ?_
    refine zr_iload hX dX6_fog_67 rfl ?_
    refine zr_ifeq (tgt := 81) hX dX6_fog_69 rfl h (fun h => ?_) (fun h => ?_)
    · exact zW_lf (w_M_fog_81 hX hF h) (And.intro rfl (And.intro rfl (And.intro rfl (And.intro rfl (And.intro rfl (And.intro rfl trivial))))))
    · refine zr_iload_n hX dX6_fog_72 rfl rfl ?_
      refine zr_ifne (tgt := 81) hX dX6_fog_73 rfl h (fun h => ?_) (fun h => ?_)
      · exact zW_lf (w_M_fog_81 hX hF h) (And.intro rfl (And.intro rfl (And.intro rfl (And.intro rfl (And.intro rfl (And.intro rfl trivial))))))
      · refine zr_iload hX dX6_fog_76 rfl ?_
        refine zr_goto hX dX6_fog_78 (tgt := 82) rfl ?_
        exact zW_lf (w_M_fog_82 hX hF h) (And.intro rfl (And.intro rfl (And.intro rfl (And.intro rfl (And.intro rfl trivial)))))
set_option maxRecDepth 100000 in
set_option maxHeartbeats 4000000 in
theorem w_M_fog_e {X : zX} {G : zG} {v1 : Int} {μ : zM} {rv : Option zV} {ν : zM} (hX : zOk X G cX6_fog RX6 6 (some .int) 6) (hF : zFin X G rv ν) (h : zP (Sum.elim (k_M_fog X G v1) (fun r : (Int × zM) => (some (zI r.1), r.2) = (rv, ν))) (e_M_fog v1 μ)) : zW X G 6 0 [some (zR 42), some (zI v1), none, none, none, none] [] μ := by
  refine zr_iload_n hX dX6_fog_0 rfl rfl ?_
  refine zr_callS hX dX6_fog_1 (m_M_isRow) rfl (z4 ww_904 ww_905 ww_75 ww_906) hy_X6_isRow rfl (Nat.le_of_ble_eq_true rfl) (Nat.le_of_ble_eq_true rfl) (Nat.le_of_ble_eq_true rfl) ?_
  refine zr_ifne (tgt := 9) hX dX6_fog_4 rfl h (fun h => ?_) (fun h => ?_)
  · refine zr_aload_n hX dX6_fog_9 rfl rfl ?_
    refine zr_getr hX dX6_fog_10 (k := 4) (q := 46) rfl rfl ww_845 rfl ?_
    refine zr_iload_n hX dX6_fog_13 rfl rfl ?_
    refine zr_iald (N := 6) hX dX6_fog_14 rfl rfl h (fun h => ?_)
    refine zr_ifge (tgt := 24) hX dX6_fog_15 rfl h (fun h => ?_) (fun h => ?_)
    · refine zr_aload_n hX dX6_fog_24 rfl rfl ?_
      refine zr_getr hX dX6_fog_25 (k := 4) (q := 46) rfl rfl ww_845 rfl ?_
      refine zr_iload_n hX dX6_fog_28 rfl rfl ?_
      refine zr_iald (N := 6) hX dX6_fog_29 rfl rfl h (fun h => ?_)
      refine zr_aload_n hX dX6_fog_30 rfl rfl ?_
      refine zP_bind h (fun q1 hq1 h => ?_)
      refine zr_callV hX dX6_fog_31 (m_M_houses hq1) rfl rfl rfl (z5 ww_1013 ww_1015 ww_30 ww_75 ww_1016) hy_X6_houses rfl (Nat.le_of_ble_eq_true rfl) (Nat.le_of_ble_eq_true rfl) (Nat.le_of_ble_eq_true rfl) ?_
      refine zr_icmpeq (tgt := 43) hX dX6_fog_34 rfl h (fun h => ?_) (fun h => ?_)
      · refine zr_iconst hX dX6_fog_43 (zrl rfl) ?_
        refine zr_istore_n hX dX6_fog_44 rfl (Nat.le_of_ble_eq_true rfl) ?_
        refine zr_bipush hX dX6_fog_45 rfl ?_
        refine zr_istore_n hX dX6_fog_47 rfl (Nat.le_of_ble_eq_true rfl) ?_
        refine zr_iconst hX dX6_fog_48 (zrl rfl) ?_
        refine zr_istore hX dX6_fog_49 (Nat.le_of_ble_eq_true rfl) ?_
        exact zW_lf (k_M_fog_51 h) (And.intro rfl (And.intro rfl (And.intro rfl (And.intro rfl (And.intro rfl trivial)))))
      · refine zr_aload_n hX dX6_fog_37 rfl rfl ?_
        refine zr_iconst hX dX6_fog_38 (zrl rfl) ?_
        refine zP_bind h (fun q2 hq2 h => ?_)
        refine zr_callV hX dX6_fog_39 (m_M_found hq2) rfl rfl rfl (z5 ww_911 ww_913 ww_19 ww_75 ww_914) hy_X6_found rfl (Nat.le_of_ble_eq_true rfl) (Nat.le_of_ble_eq_true rfl) (Nat.le_of_ble_eq_true rfl) ?_
        exact zr_iret hX dX6_fog_42 hF h
    · refine zr_aload_n hX dX6_fog_18 rfl rfl ?_
      refine zr_iconst hX dX6_fog_19 (zrl rfl) ?_
      refine zP_bind h (fun q3 hq3 h => ?_)
      refine zr_callV hX dX6_fog_20 (m_M_found hq3) rfl rfl rfl (z5 ww_911 ww_913 ww_19 ww_75 ww_914) hy_X6_found rfl (Nat.le_of_ble_eq_true rfl) (Nat.le_of_ble_eq_true rfl) (Nat.le_of_ble_eq_true rfl) ?_
      exact zr_iret hX dX6_fog_23 hF h
  · refine zr_iconst hX dX6_fog_7 (zrl rfl) ?_
    exact zr_iret hX dX6_fog_8 hF h
set_option maxRecDepth 100000 in
theorem m_M_fog {l : Launch} {G : zG} {v1 : Int} {μ : zM} {q : Int × zM} (hq : f_M_fog v1 μ = some q) : zCT l G yX6_fog cX6_fog 6 (some .int) 6 [zR 42, zI v1] μ (some (zI q.1)) q.2 := by
  refine zMet (lv := [some (zR 42), some (zI v1), none, none, none, none]) (k := 4) pl_X6 rfl (Nat.le_of_ble_eq_true rfl) (fun X hl hX hF _ _ => ?_)
  refine w_M_fog_e hX hF (zgo_K (r := q) (step := t_M_fog v1) (fun s h => ?_) rfl hq)
  exact w_M_fog_51 hX hF h
def k_M_kinds (X : zX) (G : zG) (v1 : Int) (v2 : Int) (v3 : Int) : (Int × Int × Int × zM) → Prop := fun s => zW X G 7 81 [some (zR 42), some (zI v1), some (zI v2), some (zI v3), some (zI s.1), some (zI s.2.1), some (zI s.2.2.1)] [] s.2.2.2
theorem k_M_kinds_81 {X : zX} {G : zG} {v1 : Int} {v2 : Int} {v3 : Int} {F : (Int × zM) → Prop} {v4 v5 v6 : Int} {κ : zM} (h : zP (Sum.elim (k_M_kinds X G v1 v2 v3) F) (some (.inl ((v4, v5, v6, κ))))) : zW X G 7 81 [some (zR 42), some (zI v1), some (zI v2), some (zI v3), some (zI v4), some (zI v5), some (zI v6)] [] κ := h
set_option maxRecDepth 100000 in
set_option maxHeartbeats 4000000 in
theorem w_M_kinds_81 {X : zX} {G : zG} {v1 : Int} {v2 : Int} {v3 : Int} {μ : zM} {rv : Option zV} {ν : zM} (hX : zOk X G cX6_kinds RX6 7 (some .int) 6) (hF : zFin X G rv ν) {v4 v5 v6 : Int} (h : zP (Sum.elim (k_M_kinds X G v1 v2 v3) (fun r : (Int × zM) => (some (zI r.1), r.2) = (rv, ν))) (b_M_kinds_81 v1 v2 v3 v4 v5 v6 μ)) : zW X G 7 81 [some (zR 42), some (zI v1), some (zI v2), some (zI v3), some (zI v4), some (zI v5), some (zI v6)] [] μ := by
  refine zr_iload hX dX6_kinds_81 rfl ?_
  refine zr_bipush hX dX6_kinds_83 rfl ?_
  refine zr_icmpge (tgt := 132) hX dX6_kinds_85 rfl h (fun h => ?_) (fun h => ?_)
  · refine zr_aload_n hX dX6_kinds_132 rfl rfl ?_
    refine zr_getr hX dX6_kinds_133 (k := 0) (q := 43) rfl rfl ww_841 rfl ?_
    refine zr_bipush hX dX6_kinds_136 rfl ?_
    refine zr_bipush hX dX6_kinds_138 rfl ?_
    refine zr_iload_n hX dX6_kinds_140 rfl rfl ?_
    refine zr_imul hX dX6_kinds_141 ?_
    refine zr_iadd hX dX6_kinds_142 ?_
    refine zr_iload_n hX dX6_kinds_143 rfl rfl ?_
    refine zr_iadd hX dX6_kinds_144 ?_
    refine zr_iload hX dX6_kinds_145 rfl ?_
    refine zr_iast (N := 10956) hX dX6_kinds_147 rfl rfl h (fun h => ?_)
    refine zr_iload hX dX6_kinds_148 rfl ?_
    exact zr_iret hX dX6_kinds_150 hF h
  · refine zr_aload_n hX dX6_kinds_88 rfl rfl ?_
    refine zr_getr hX dX6_kinds_89 (k := 0) (q := 43) rfl rfl ww_841 rfl ?_
    refine zr_bipush hX dX6_kinds_92 rfl ?_
    refine zr_bipush hX dX6_kinds_94 rfl ?_
    refine zr_iload_n hX dX6_kinds_96 rfl rfl ?_
    refine zr_imul hX dX6_kinds_97 ?_
    refine zr_iadd hX dX6_kinds_98 ?_
    refine zr_iload_n hX dX6_kinds_99 rfl rfl ?_
    refine zr_iadd hX dX6_kinds_100 ?_
    refine zr_iload hX dX6_kinds_101 rfl ?_
    refine zr_iast (N := 10956) hX dX6_kinds_103 rfl rfl h (fun h => ?_)
    refine zr_iload hX dX6_kinds_104 rfl ?_
    refine zr_aload_n hX dX6_kinds_106 rfl rfl ?_
    refine zr_iload_n hX dX6_kinds_107 rfl rfl ?_
    refine zr_iconst hX dX6_kinds_108 (zrl rfl) ?_
    refine zP_bind h (fun q7 hq7 h => ?_)
    refine zr_callV hX dX6_kinds_109 (m_M_isSeen hq7) rfl rfl rfl (z5 ww_1276 ww_1278 ww_63 ww_75 ww_1279) hy_X6_isSeen rfl (Nat.le_of_ble_eq_true rfl) (Nat.le_of_ble_eq_true rfl) (Nat.le_of_ble_eq_true rfl) ?_
    refine zr_ifeq (tgt := 122) hX dX6_kinds_112 rfl h (fun h => ?_) (fun h => ?_)
    · refine zr_iconst hX dX6_kinds_122 (zrl rfl) ?_
      refine zr_ior hX dX6_kinds_123 ?_
      refine zr_istore hX dX6_kinds_124 (Nat.le_of_ble_eq_true rfl) ?_
      refine zr_iinc hX dX6_kinds_126 rfl (Nat.le_of_ble_eq_true rfl) ?_
      refine zr_goto hX dX6_kinds_129 (tgt := 81) rfl ?_
      exact zW_lf (k_M_kinds_81 h) (And.intro rfl (And.intro rfl (And.intro rfl (And.intro rfl (And.intro rfl (And.intro rfl (And.intro rfl trivial)))))))
    · refine zr_iconst hX dX6_kinds_115 (zrl rfl) ?_
      refine zr_iload hX dX6_kinds_116 rfl ?_
      refine zr_ishl hX dX6_kinds_118 ?_
      refine zr_goto hX dX6_kinds_119 (tgt := 123) rfl ?_
      refine zr_ior hX dX6_kinds_123 ?_
      refine zr_istore hX dX6_kinds_124 (Nat.le_of_ble_eq_true rfl) ?_
      refine zr_iinc hX dX6_kinds_126 rfl (Nat.le_of_ble_eq_true rfl) ?_
      refine zr_goto hX dX6_kinds_129 (tgt := 81) rfl ?_
      exact zW_lf (k_M_kinds_81 h) (And.intro rfl (And.intro rfl (And.intro rfl (And.intro rfl (And.intro rfl (And.intro rfl (And.intro rfl trivial)))))))
set_option maxRecDepth 100000 in
set_option maxHeartbeats 4000000 in
theorem w_M_kinds_e {X : zX} {G : zG} {v1 : Int} {v2 : Int} {v3 : Int} {μ : zM} {rv : Option zV} {ν : zM} (hX : zOk X G cX6_kinds RX6 7 (some .int) 6) (hF : zFin X G rv ν) (h : zP (Sum.elim (k_M_kinds X G v1 v2 v3) (fun r : (Int × zM) => (some (zI r.1), r.2) = (rv, ν))) (e_M_kinds v1 v2 v3 μ)) : zW X G 7 0 [some (zR 42), some (zI v1), some (zI v2), some (zI v3), none, none, none] [] μ := by
  refine zr_aload_n hX dX6_kinds_0 rfl rfl ?_
  refine zr_iload_n hX dX6_kinds_1 rfl rfl ?_
  refine zr_iload_n hX dX6_kinds_2 rfl rfl ?_
  refine zr_callV hX dX6_kinds_3 (m_M_isTold) rfl rfl rfl (z5 ww_1000 ww_1002 ww_27 ww_75 ww_1003) hy_X6_isTold rfl (Nat.le_of_ble_eq_true rfl) (Nat.le_of_ble_eq_true rfl) (Nat.le_of_ble_eq_true rfl) ?_
  refine zr_ifeq (tgt := 16) hX dX6_kinds_6 rfl h (fun h => ?_) (fun h => ?_)
  · refine zr_iconst hX dX6_kinds_16 (zrl rfl) ?_
    exact zr_iret hX dX6_kinds_17 hF h
  · refine zr_iload_n hX dX6_kinds_9 rfl rfl ?_
    refine zr_callS hX dX6_kinds_10 (m_M_isRow) rfl (z4 ww_904 ww_905 ww_75 ww_906) hy_X6_isRow rfl (Nat.le_of_ble_eq_true rfl) (Nat.le_of_ble_eq_true rfl) (Nat.le_of_ble_eq_true rfl) ?_
    refine zr_ifne (tgt := 18) hX dX6_kinds_13 rfl h (fun h => ?_) (fun h => ?_)
    · refine zr_aload_n hX dX6_kinds_18 rfl rfl ?_
      refine zr_iload_n hX dX6_kinds_19 rfl rfl ?_
      refine zr_iload_n hX dX6_kinds_20 rfl rfl ?_
      refine zP_bind h (fun q1 hq1 h => ?_)
      refine zr_callV hX dX6_kinds_21 (m_M_isThere hq1) rfl rfl rfl (z5 ww_1005 ww_1007 ww_28 ww_75 ww_1008) hy_X6_isThere rfl (Nat.le_of_ble_eq_true rfl) (Nat.le_of_ble_eq_true rfl) (Nat.le_of_ble_eq_true rfl) ?_
      refine zr_ifne (tgt := 33) hX dX6_kinds_24 rfl h (fun h => ?_) (fun h => ?_)
      · refine zr_aload_n hX dX6_kinds_33 rfl rfl ?_
        refine zr_getr hX dX6_kinds_34 (k := 4) (q := 46) rfl rfl ww_845 rfl ?_
        refine zr_iload_n hX dX6_kinds_37 rfl rfl ?_
        refine zr_iald (N := 6) hX dX6_kinds_38 rfl rfl h (fun h => ?_)
        refine zr_ifge (tgt := 48) hX dX6_kinds_39 rfl h (fun h => ?_) (fun h => ?_)
        · refine zr_aload_n hX dX6_kinds_48 rfl rfl ?_
          refine zr_getr hX dX6_kinds_49 (k := 4) (q := 46) rfl rfl ww_845 rfl ?_
          refine zr_iload_n hX dX6_kinds_52 rfl rfl ?_
          refine zr_iald (N := 6) hX dX6_kinds_53 rfl rfl h (fun h => ?_)
          refine zr_aload_n hX dX6_kinds_54 rfl rfl ?_
          refine zP_bind h (fun q2 hq2 h => ?_)
          refine zr_callV hX dX6_kinds_55 (m_M_houses hq2) rfl rfl rfl (z5 ww_1013 ww_1015 ww_30 ww_75 ww_1016) hy_X6_houses rfl (Nat.le_of_ble_eq_true rfl) (Nat.le_of_ble_eq_true rfl) (Nat.le_of_ble_eq_true rfl) ?_
          refine zr_icmpeq (tgt := 67) hX dX6_kinds_58 rfl h (fun h => ?_) (fun h => ?_)
          · refine zr_aload_n hX dX6_kinds_67 rfl rfl ?_
            refine zr_iload_n hX dX6_kinds_68 rfl rfl ?_
            refine zr_iload_n hX dX6_kinds_69 rfl rfl ?_
            refine zP_bind h (fun q3 hq3 h => ?_)
            refine zr_callV hX dX6_kinds_70 (m_M_kindAt hq3) rfl rfl rfl (z5 ww_1029 ww_1031 ww_34 ww_75 ww_1032) hy_X6_kindAt rfl (Nat.le_of_ble_eq_true rfl) (Nat.le_of_ble_eq_true rfl) (Nat.le_of_ble_eq_true rfl) ?_
            refine zr_istore hX dX6_kinds_73 (Nat.le_of_ble_eq_true rfl) ?_
            refine zr_iconst hX dX6_kinds_75 (zrl rfl) ?_
            refine zr_istore hX dX6_kinds_76 (Nat.le_of_ble_eq_true rfl) ?_
            refine zr_iconst hX dX6_kinds_78 (zrl rfl) ?_
            refine zr_istore hX dX6_kinds_79 (Nat.le_of_ble_eq_true rfl) ?_
            exact zW_lf (k_M_kinds_81 h) (And.intro rfl (And.intro rfl (And.intro rfl (And.intro rfl (And.intro rfl (And.intro rfl (And.intro rfl trivial)))))))
          · refine zr_aload_n hX dX6_kinds_61 rfl rfl ?_
            refine zr_iconst hX dX6_kinds_62 (zrl rfl) ?_
            refine zP_bind h (fun q4 hq4 h => ?_)
            refine zr_callV hX dX6_kinds_63 (m_M_found hq4) rfl rfl rfl (z5 ww_911 ww_913 ww_19 ww_75 ww_914) hy_X6_found rfl (Nat.le_of_ble_eq_true rfl) (Nat.le_of_ble_eq_true rfl) (Nat.le_of_ble_eq_true rfl) ?_
            exact zr_iret hX dX6_kinds_66 hF h
        · refine zr_aload_n hX dX6_kinds_42 rfl rfl ?_
          refine zr_iconst hX dX6_kinds_43 (zrl rfl) ?_
          refine zP_bind h (fun q5 hq5 h => ?_)
          refine zr_callV hX dX6_kinds_44 (m_M_found hq5) rfl rfl rfl (z5 ww_911 ww_913 ww_19 ww_75 ww_914) hy_X6_found rfl (Nat.le_of_ble_eq_true rfl) (Nat.le_of_ble_eq_true rfl) (Nat.le_of_ble_eq_true rfl) ?_
          exact zr_iret hX dX6_kinds_47 hF h
      · refine zr_aload_n hX dX6_kinds_27 rfl rfl ?_
        refine zr_iconst hX dX6_kinds_28 (zrl rfl) ?_
        refine zP_bind h (fun q6 hq6 h => ?_)
        refine zr_callV hX dX6_kinds_29 (m_M_found hq6) rfl rfl rfl (z5 ww_911 ww_913 ww_19 ww_75 ww_914) hy_X6_found rfl (Nat.le_of_ble_eq_true rfl) (Nat.le_of_ble_eq_true rfl) (Nat.le_of_ble_eq_true rfl) ?_
        exact zr_iret hX dX6_kinds_32 hF h
    · refine zr_iconst hX dX6_kinds_16 (zrl rfl) ?_
      exact zr_iret hX dX6_kinds_17 hF h
set_option maxRecDepth 100000 in
theorem m_M_kinds {l : Launch} {G : zG} {v1 : Int} {v2 : Int} {v3 : Int} {μ : zM} {q : Int × zM} (hq : f_M_kinds v1 v2 v3 μ = some q) : zCT l G yX6_kinds cX6_kinds 7 (some .int) 6 [zR 42, zI v1, zI v2, zI v3] μ (some (zI q.1)) q.2 := by
  refine zMet (lv := [some (zR 42), some (zI v1), some (zI v2), some (zI v3), none, none, none]) (k := 3) pl_X6 rfl (Nat.le_of_ble_eq_true rfl) (fun X hl hX hF _ _ => ?_)
  refine w_M_kinds_e hX hF (zgo_K (r := q) (step := t_M_kinds v1 v2 v3) (fun s h => ?_) rfl hq)
  exact w_M_kinds_81 hX hF h
set_option maxRecDepth 100000 in
set_option maxHeartbeats 4000000 in
theorem w_M_odds_48 {X : zX} {G : zG} {v1 : Int} {v2 : Int} {μ : zM} {rv : Option zV} {ν : zM} (hX : zOk X G cX6_odds RX6 4 (some .int) 4) (hF : zFin X G rv ν) {v3 w1 : Int} (h : zP (fun r : (Int × zM) => (some (zI r.1), r.2) = (rv, ν)) (j_M_odds_48 v1 v2 v3 w1 μ)) : zW X G 4 48 [some (zR 42), none, none, some (zI v3)] [zJ w1, zR 42] μ := by
  refine zr_putj hX dX6_odds_48 (k := 11) rfl rfl ww_852 rfl (by decide +kernel) ?_
  refine zr_aload_n hX dX6_odds_51 rfl rfl ?_
  refine zr_iload_n hX dX6_odds_52 rfl rfl ?_
  refine zr_iconst hX dX6_odds_53 (zrl rfl) ?_
  refine zr_icmpeq (tgt := 61) hX dX6_odds_54 rfl h (fun h => ?_) (fun h => ?_)
  · refine zr_lconst hX dX6_odds_61 (n := 1) rfl (zrlJ rfl) ?_
    refine zr_goto hX dX6_odds_62 (tgt := 68) rfl ?_
    refine zr_putj hX dX6_odds_68 (k := 12) rfl rfl ww_853 rfl (by decide +kernel) ?_
    refine zr_iconst hX dX6_odds_71 (zrl rfl) ?_
    exact zr_iret hX dX6_odds_72 hF h
  · refine zr_iload_n hX dX6_odds_57 rfl rfl ?_
    refine zr_ifne (tgt := 65) hX dX6_odds_58 rfl h (fun h => ?_) (fun h => ?_)
    · refine zr_ldc2 hX dX6_odds_65 ww_907 rfl (zrlJ rfl) ?_
      refine zr_putj hX dX6_odds_68 (k := 12) rfl rfl ww_853 rfl (by decide +kernel) ?_
      refine zr_iconst hX dX6_odds_71 (zrl rfl) ?_
      exact zr_iret hX dX6_odds_72 hF h
    · refine zr_lconst hX dX6_odds_61 (n := 1) rfl (zrlJ rfl) ?_
      refine zr_goto hX dX6_odds_62 (tgt := 68) rfl ?_
      refine zr_putj hX dX6_odds_68 (k := 12) rfl rfl ww_853 rfl (by decide +kernel) ?_
      refine zr_iconst hX dX6_odds_71 (zrl rfl) ?_
      exact zr_iret hX dX6_odds_72 hF h
set_option maxRecDepth 100000 in
set_option maxHeartbeats 4000000 in
theorem w_M_odds_e {X : zX} {G : zG} {v1 : Int} {v2 : Int} {μ : zM} {rv : Option zV} {ν : zM} (hX : zOk X G cX6_odds RX6 4 (some .int) 4) (hF : zFin X G rv ν) (h : zP (fun r : (Int × zM) => (some (zI r.1), r.2) = (rv, ν)) (f_M_odds v1 v2 μ)) : zW X G 4 0 [some (zR 42), some (zI v1), some (zI v2), none] [] μ := by
  refine zr_aload_n hX dX6_odds_0 rfl rfl ?_
  refine zr_iload_n hX dX6_odds_1 rfl rfl ?_
  refine zr_iload_n hX dX6_odds_2 rfl rfl ?_
  refine zr_callV hX dX6_odds_3 (m_M_isTold) rfl rfl rfl (z5 ww_1000 ww_1002 ww_27 ww_75 ww_1003) hy_X6_isTold rfl (Nat.le_of_ble_eq_true rfl) (Nat.le_of_ble_eq_true rfl) (Nat.le_of_ble_eq_true rfl) ?_
  refine zr_ifne (tgt := 11) hX dX6_odds_6 rfl h (fun h => ?_) (fun h => ?_)
  · refine zr_aload_n hX dX6_odds_11 rfl rfl ?_
    refine zr_iload_n hX dX6_odds_12 rfl rfl ?_
    refine zr_iload_n hX dX6_odds_13 rfl rfl ?_
    refine zP_bind h (fun q1 hq1 h => ?_)
    refine zr_callV hX dX6_odds_14 (m_M_isThere hq1) rfl rfl rfl (z5 ww_1005 ww_1007 ww_28 ww_75 ww_1008) hy_X6_isThere rfl (Nat.le_of_ble_eq_true rfl) (Nat.le_of_ble_eq_true rfl) (Nat.le_of_ble_eq_true rfl) ?_
    refine zr_ifne (tgt := 26) hX dX6_odds_17 rfl h (fun h => ?_) (fun h => ?_)
    · refine zr_aload_n hX dX6_odds_26 rfl rfl ?_
      refine zr_iload_n hX dX6_odds_27 rfl rfl ?_
      refine zr_iload_n hX dX6_odds_28 rfl rfl ?_
      refine zP_bind h (fun q2 hq2 h => ?_)
      refine zr_callV hX dX6_odds_29 (m_M_hoursOf hq2) rfl rfl rfl (z5 ww_1073 ww_1075 ww_42 ww_75 ww_1076) hy_X6_hoursOf rfl (Nat.le_of_ble_eq_true rfl) (Nat.le_of_ble_eq_true rfl) (Nat.le_of_ble_eq_true rfl) ?_
      refine zP_bind h (fun q3 hq3 h => ?_)
      refine zr_callS hX dX6_odds_32 (m_M_ones hq3) rfl (z4 ww_1077 ww_1078 ww_75 ww_1079) hy_X6_ones rfl (Nat.le_of_ble_eq_true rfl) (Nat.le_of_ble_eq_true rfl) (Nat.le_of_ble_eq_true rfl) ?_
      refine zr_istore_n hX dX6_odds_35 rfl (Nat.le_of_ble_eq_true rfl) ?_
      refine zr_aload_n hX dX6_odds_36 rfl rfl ?_
      refine zr_iload_n hX dX6_odds_37 rfl rfl ?_
      refine zr_iconst hX dX6_odds_38 (zrl rfl) ?_
      refine zr_icmpne (tgt := 46) hX dX6_odds_39 rfl h (fun h => ?_) (fun h => ?_)
      · refine zr_iload_n hX dX6_odds_46 rfl rfl ?_
        refine zr_i2l hX dX6_odds_47 ?_
        exact zW_lf (w_M_odds_48 hX hF h) (And.intro rfl (And.intro rfl trivial))
      · refine zr_lconst hX dX6_odds_42 (n := 1) rfl (zrlJ rfl) ?_
        refine zr_goto hX dX6_odds_43 (tgt := 48) rfl ?_
        exact zW_lf (w_M_odds_48 hX hF h) (And.intro rfl (And.intro rfl trivial))
    · refine zr_aload_n hX dX6_odds_20 rfl rfl ?_
      refine zr_iconst hX dX6_odds_21 (zrl rfl) ?_
      refine zP_bind h (fun q4 hq4 h => ?_)
      refine zr_callV hX dX6_odds_22 (m_M_found hq4) rfl rfl rfl (z5 ww_911 ww_913 ww_19 ww_75 ww_914) hy_X6_found rfl (Nat.le_of_ble_eq_true rfl) (Nat.le_of_ble_eq_true rfl) (Nat.le_of_ble_eq_true rfl) ?_
      exact zr_iret hX dX6_odds_25 hF h
  · refine zr_iconst hX dX6_odds_9 (zrl rfl) ?_
    exact zr_iret hX dX6_odds_10 hF h
set_option maxRecDepth 100000 in
theorem m_M_odds {l : Launch} {G : zG} {v1 : Int} {v2 : Int} {μ : zM} {q : Int × zM} (hq : f_M_odds v1 v2 μ = some q) : zCT l G yX6_odds cX6_odds 4 (some .int) 4 [zR 42, zI v1, zI v2] μ (some (zI q.1)) q.2 := by
  refine zMet (lv := [some (zR 42), some (zI v1), some (zI v2), none]) (k := 1) pl_X6 rfl (Nat.le_of_ble_eq_true rfl) (fun X hl hX hF _ _ => ?_)
  exact w_M_odds_e hX hF (zP_of hq rfl)
def k_M_lots (X : zX) (G : zG) (v1 : Int) (v2 : Int) : (Int × Int × Int × zM) → Prop := fun s => zW X G 8 59 [some (zR 42), some (zI v1), none, some (zJ s.1), none, some (zI s.2.1), some (zI s.2.2.1), none] [] s.2.2.2
theorem k_M_lots_59 {X : zX} {G : zG} {v1 : Int} {v2 : Int} {F : (Int × zM) → Prop} {v3 v5 v6 : Int} {κ : zM} (h : zP (Sum.elim (k_M_lots X G v1 v2) F) (some (.inl ((v3, v5, v6, κ))))) : zW X G 8 59 [some (zR 42), some (zI v1), none, some (zJ v3), none, some (zI v5), some (zI v6), none] [] κ := h
set_option maxRecDepth 100000 in
set_option maxHeartbeats 4000000 in
theorem w_M_lots_59 {X : zX} {G : zG} {v1 : Int} {v2 : Int} {μ : zM} {rv : Option zV} {ν : zM} (hX : zOk X G cX6_lots RX6 8 (some .int) 4) (hF : zFin X G rv ν) {v3 v5 v6 : Int} (h : zP (Sum.elim (k_M_lots X G v1 v2) (fun r : (Int × zM) => (some (zI r.1), r.2) = (rv, ν))) (b_M_lots_59 v1 v2 v3 v5 v6 μ)) : zW X G 8 59 [some (zR 42), some (zI v1), none, some (zJ v3), none, some (zI v5), some (zI v6), none] [] μ := by
  refine zr_iload hX dX6_lots_59 rfl ?_
  refine zr_iload_n hX dX6_lots_61 rfl rfl ?_
  refine zr_icmpge (tgt := 136) hX dX6_lots_62 rfl h (fun h => ?_) (fun h => ?_)
  · refine zr_iload hX dX6_lots_136 rfl ?_
    exact zr_iret hX dX6_lots_138 hF h
  · refine zr_lload_n hX dX6_lots_65 rfl rfl ?_
    refine zr_ldc2 hX dX6_lots_66 ww_1294 rfl (zrlJ rfl) ?_
    refine zr_lmul hX dX6_lots_69 ?_
    refine zr_ldc2 hX dX6_lots_70 ww_1295 rfl (zrlJ rfl) ?_
    refine zr_lremc hX dX6_lots_73 (by decide) ?_
    refine zr_lstore_n hX dX6_lots_74 rfl (Nat.le_of_ble_eq_true rfl) ?_
    refine zr_lload_n hX dX6_lots_75 rfl rfl ?_
    refine zr_aload_n hX dX6_lots_76 rfl rfl ?_
    refine zr_getr hX dX6_lots_77 (k := 0) (q := 43) rfl rfl ww_841 rfl ?_
    refine zr_iconst hX dX6_lots_80 (zrl rfl) ?_
    refine zr_ialdc hX dX6_lots_81 (N := 10956) rfl rfl rfl ?_
    refine zr_i2l hX dX6_lots_82 ?_
    refine zr_lrem hX dX6_lots_83 h (fun h => ?_)
    refine zr_l2i hX dX6_lots_84 ?_
    refine zr_istore hX dX6_lots_85 (Nat.le_of_ble_eq_true rfl) ?_
    refine zr_aload_n hX dX6_lots_87 rfl rfl ?_
    refine zr_iload hX dX6_lots_88 rfl ?_
    refine zP_bind h (fun q1 hq1 h => ?_)
    refine zr_callV hX dX6_lots_90 (m_M_hasRoom hq1) rfl rfl rfl (z5 ww_1122 ww_1124 ww_48 ww_75 ww_1125) hy_X6_hasRoom rfl (Nat.le_of_ble_eq_true rfl) (Nat.le_of_ble_eq_true rfl) (Nat.le_of_ble_eq_true rfl) ?_
    refine zr_ifeq (tgt := 130) hX dX6_lots_93 rfl h (fun h => ?_) (fun h => ?_)
    · refine zr_iinc hX dX6_lots_130 rfl (Nat.le_of_ble_eq_true rfl) ?_
      refine zr_goto hX dX6_lots_133 (tgt := 59) rfl ?_
      exact zW_lf (k_M_lots_59 h) (And.intro rfl (And.intro rfl (And.intro rfl (And.intro rfl (And.intro rfl trivial)))))
    · refine zr_aload_n hX dX6_lots_96 rfl rfl ?_
      refine zP_bind h (fun q2 hq2 h => ?_)
      refine zr_callV hX dX6_lots_97 (m_M_minds hq2) rfl rfl rfl (z5 ww_1126 ww_1128 ww_49 ww_75 ww_1129) hy_X6_minds rfl (Nat.le_of_ble_eq_true rfl) (Nat.le_of_ble_eq_true rfl) (Nat.le_of_ble_eq_true rfl) ?_
      refine zr_aload_n hX dX6_lots_100 rfl rfl ?_
      refine zr_iconst hX dX6_lots_101 (zrl rfl) ?_
      refine zr_iload hX dX6_lots_102 rfl ?_
      refine zr_lload_n hX dX6_lots_104 rfl rfl ?_
      refine zr_ldc2 hX dX6_lots_105 ww_1296 rfl (zrlJ rfl) ?_
      refine zr_ldivc hX dX6_lots_108 (by decide) ?_
      refine zr_ldc2 hX dX6_lots_109 ww_1004 rfl (zrlJ rfl) ?_
      refine zr_lremc hX dX6_lots_112 (by decide) ?_
      refine zr_l2i hX dX6_lots_113 ?_
      refine zr_lload_n hX dX6_lots_114 rfl rfl ?_
      refine zr_ldc2 hX dX6_lots_115 ww_1297 rfl (zrlJ rfl) ?_
      refine zr_ldivc hX dX6_lots_118 (by decide) ?_
      refine zr_ldc2 hX dX6_lots_119 ww_1298 rfl (zrlJ rfl) ?_
      refine zr_lremc hX dX6_lots_122 (by decide) ?_
      refine zr_l2i hX dX6_lots_123 ?_
      refine zP_bind h (fun q3 hq3 h => ?_)
      refine zr_callV hX dX6_lots_124 (m_M_adds hq3) rfl rfl rfl (z5 ww_976 ww_978 ww_24 ww_75 ww_979) hy_X6_adds rfl (Nat.le_of_ble_eq_true rfl) (Nat.le_of_ble_eq_true rfl) (Nat.le_of_ble_eq_true rfl) ?_
      refine zr_iinc hX dX6_lots_127 rfl (Nat.le_of_ble_eq_true rfl) ?_
      refine zr_iinc hX dX6_lots_130 rfl (Nat.le_of_ble_eq_true rfl) ?_
      refine zr_goto hX dX6_lots_133 (tgt := 59) rfl ?_
      exact zW_lf (k_M_lots_59 h) (And.intro rfl (And.intro rfl (And.intro rfl (And.intro rfl (And.intro rfl trivial)))))
set_option maxRecDepth 100000 in
set_option maxHeartbeats 4000000 in
theorem w_M_lots_e {X : zX} {G : zG} {v1 : Int} {v2 : Int} {μ : zM} {rv : Option zV} {ν : zM} (hX : zOk X G cX6_lots RX6 8 (some .int) 4) (hF : zFin X G rv ν) (h : zP (Sum.elim (k_M_lots X G v1 v2) (fun r : (Int × zM) => (some (zI r.1), r.2) = (rv, ν))) (e_M_lots v1 v2 μ)) : zW X G 8 0 [some (zR 42), some (zI v1), some (zI v2), none, none, none, none, none] [] μ := by
  refine zr_iload_n hX dX6_lots_0 rfl rfl ?_
  refine zr_i2l hX dX6_lots_1 ?_
  refine zr_lconst hX dX6_lots_2 (n := 1) rfl (zrlJ rfl) ?_
  refine zr_ldc2 hX dX6_lots_3 ww_1292 rfl (zrlJ rfl) ?_
  refine zr_callS hX dX6_lots_6 (m_M_in) rfl (z4 ww_908 ww_909 ww_75 ww_910) hy_X6_in rfl (Nat.le_of_ble_eq_true rfl) (Nat.le_of_ble_eq_true rfl) (Nat.le_of_ble_eq_true rfl) ?_
  refine zr_ifeq (tgt := 24) hX dX6_lots_9 rfl h (fun h => ?_) (fun h => ?_)
  · refine zr_iconst hX dX6_lots_24 (zrl rfl) ?_
    exact zr_iret hX dX6_lots_25 hF h
  · refine zr_iload_n hX dX6_lots_12 rfl rfl ?_
    refine zr_i2l hX dX6_lots_13 ?_
    refine zr_lconst hX dX6_lots_14 (n := 1) rfl (zrlJ rfl) ?_
    refine zr_ldc2 hX dX6_lots_15 ww_1293 rfl (zrlJ rfl) ?_
    refine zr_callS hX dX6_lots_18 (m_M_in) rfl (z4 ww_908 ww_909 ww_75 ww_910) hy_X6_in rfl (Nat.le_of_ble_eq_true rfl) (Nat.le_of_ble_eq_true rfl) (Nat.le_of_ble_eq_true rfl) ?_
    refine zr_ifne (tgt := 26) hX dX6_lots_21 rfl h (fun h => ?_) (fun h => ?_)
    · refine zr_aload_n hX dX6_lots_26 rfl rfl ?_
      refine zr_callV hX dX6_lots_27 (m_M_isNone) rfl rfl rfl (z5 ww_1147 ww_1149 ww_51 ww_75 ww_1150) hy_X6_isNone rfl (Nat.le_of_ble_eq_true rfl) (Nat.le_of_ble_eq_true rfl) (Nat.le_of_ble_eq_true rfl) ?_
      refine zr_ifeq (tgt := 36) hX dX6_lots_30 rfl h (fun h => ?_) (fun h => ?_)
      · refine zr_aload_n hX dX6_lots_36 rfl rfl ?_
        refine zr_geti hX dX6_lots_37 (k := 1) rfl rfl ww_842 ?_
        refine zr_iload_n hX dX6_lots_40 rfl rfl ?_
        refine zr_iadd hX dX6_lots_41 ?_
        refine zr_bipush hX dX6_lots_42 rfl ?_
        refine zr_icmple (tgt := 50) hX dX6_lots_44 rfl h (fun h => ?_) (fun h => ?_)
        · refine zr_iload_n hX dX6_lots_50 rfl rfl ?_
          refine zr_i2l hX dX6_lots_51 ?_
          refine zr_lstore_n hX dX6_lots_52 rfl (Nat.le_of_ble_eq_true rfl) ?_
          refine zr_iconst hX dX6_lots_53 (zrl rfl) ?_
          refine zr_istore hX dX6_lots_54 (Nat.le_of_ble_eq_true rfl) ?_
          refine zr_iconst hX dX6_lots_56 (zrl rfl) ?_
          refine zr_istore hX dX6_lots_57 (Nat.le_of_ble_eq_true rfl) ?_
          exact zW_lf (k_M_lots_59 h) (And.intro rfl (And.intro rfl (And.intro rfl (And.intro rfl (And.intro rfl trivial)))))
        · refine zr_bipush hX dX6_lots_47 rfl ?_
          exact zr_iret hX dX6_lots_49 hF h
      · refine zr_bipush hX dX6_lots_33 rfl ?_
        exact zr_iret hX dX6_lots_35 hF h
    · refine zr_iconst hX dX6_lots_24 (zrl rfl) ?_
      exact zr_iret hX dX6_lots_25 hF h
set_option maxRecDepth 100000 in
theorem m_M_lots {l : Launch} {G : zG} {v1 : Int} {v2 : Int} {μ : zM} {q : Int × zM} (hq : f_M_lots v1 v2 μ = some q) : zCT l G yX6_lots cX6_lots 8 (some .int) 4 [zR 42, zI v1, zI v2] μ (some (zI q.1)) q.2 := by
  refine zMet (lv := [some (zR 42), some (zI v1), some (zI v2), none, none, none, none, none]) (k := 5) pl_X6 rfl (Nat.le_of_ble_eq_true rfl) (fun X hl hX hF _ _ => ?_)
  refine w_M_lots_e hX hF (zgo_K (r := q) (step := t_M_lots v1 v2) (fun s h => ?_) rfl hq)
  exact w_M_lots_59 hX hF h
set_option maxRecDepth 100000 in
set_option maxHeartbeats 4000000 in
theorem w_M_asked_e {X : zX} {G : zG} {μ : zM} {rv : Option zV} {ν : zM} (hX : zOk X G cX6_asked RX6 1 (some .int) 1) (hF : zFin X G rv ν) (h : zP (fun r : Int => (some (zI r), μ) = (rv, ν)) (fo_M_asked μ)) : zW X G 1 0 [some (zR 42)] [] μ := by
  refine zr_aload_n hX dX6_asked_0 rfl rfl ?_
  refine zr_geti hX dX6_asked_1 (k := 10) rfl rfl ww_851 ?_
  exact zr_iret hX dX6_asked_4 hF h
set_option maxRecDepth 100000 in
theorem m_M_asked {l : Launch} {G : zG} {μ : zM} : zCT l G yX6_asked cX6_asked 1 (some .int) 1 [zR 42] μ (some (zI (f_M_asked μ))) μ := by
  refine zMet (lv := [some (zR 42)]) (k := 0) pl_X6 rfl (Nat.le_of_ble_eq_true rfl) (fun X hl hX hF _ _ => ?_)
  exact w_M_asked_e hX hF (by rw [fo_M_asked_eq]; rfl)
set_option maxRecDepth 100000 in
set_option maxHeartbeats 4000000 in
theorem w_M_upper_e {X : zX} {G : zG} {μ : zM} {rv : Option zV} {ν : zM} (hX : zOk X G cX6_upper RX6 1 (some .long) 1) (hF : zFin X G rv ν) (h : zP (fun r : Int => (some (zJ r), μ) = (rv, ν)) (fo_M_upper μ)) : zW X G 1 0 [some (zR 42)] [] μ := by
  refine zr_aload_n hX dX6_upper_0 rfl rfl ?_
  refine zr_getj hX dX6_upper_1 (k := 11) rfl rfl ww_852 ?_
  exact zr_lret hX dX6_upper_4 hF h
set_option maxRecDepth 100000 in
theorem m_M_upper {l : Launch} {G : zG} {μ : zM} : zCT l G yX6_upper cX6_upper 1 (some .long) 1 [zR 42] μ (some (zJ (f_M_upper μ))) μ := by
  refine zMet (lv := [some (zR 42)]) (k := 0) pl_X6 rfl (Nat.le_of_ble_eq_true rfl) (fun X hl hX hF _ _ => ?_)
  exact w_M_upper_e hX hF (by rw [fo_M_upper_eq]; rfl)
set_option maxRecDepth 100000 in
set_option maxHeartbeats 4000000 in
theorem w_M_lower_e {X : zX} {G : zG} {μ : zM} {rv : Option zV} {ν : zM} (hX : zOk X G cX6_lower RX6 1 (some .long) 1) (hF : zFin X G rv ν) (h : zP (fun r : Int => (some (zJ r), μ) = (rv, ν)) (fo_M_lower μ)) : zW X G 1 0 [some (zR 42)] [] μ := by
  refine zr_aload_n hX dX6_lower_0 rfl rfl ?_
  refine zr_getj hX dX6_lower_1 (k := 12) rfl rfl ww_853 ?_
  exact zr_lret hX dX6_lower_4 hF h
set_option maxRecDepth 100000 in
theorem m_M_lower {l : Launch} {G : zG} {μ : zM} : zCT l G yX6_lower cX6_lower 1 (some .long) 1 [zR 42] μ (some (zJ (f_M_lower μ))) μ := by
  refine zMet (lv := [some (zR 42)]) (k := 0) pl_X6 rfl (Nat.le_of_ble_eq_true rfl) (fun X hl hX hF _ _ => ?_)
  exact w_M_lower_e hX hF (by rw [fo_M_lower_eq]; rfl)
def k_M_kindsMany (X : zX) (G : zG) (v1 : Int) (μ : zM) : ((Int × Int) ⊕ (Int × Int × Int)) → Prop := fun s => match s with
  | .inl (s) => zW X G 5 4 [some (zR 42), some (zI v1), some (zI s.1), some (zI s.2), none] [] μ
  | .inr (s) => zW X G 5 17 [some (zR 42), some (zI v1), some (zI s.1), some (zI s.2.1), some (zI s.2.2)] [] μ
theorem k_M_kindsMany_4 {X : zX} {G : zG} {v1 : Int} {μ : zM} {F : Int → Prop} {v2 v3 : Int} (h : zP (Sum.elim (k_M_kindsMany X G v1 μ) F) (some (.inl (.inl ((v2, v3)))))) : zW X G 5 4 [some (zR 42), some (zI v1), some (zI v2), some (zI v3), none] [] μ := h
theorem k_M_kindsMany_17 {X : zX} {G : zG} {v1 : Int} {μ : zM} {F : Int → Prop} {v2 v3 v4 : Int} (h : zP (Sum.elim (k_M_kindsMany X G v1 μ) F) (some (.inl (.inr ((v2, v3, v4)))))) : zW X G 5 17 [some (zR 42), some (zI v1), some (zI v2), some (zI v3), some (zI v4)] [] μ := h
set_option maxRecDepth 100000 in
set_option maxHeartbeats 4000000 in
theorem w_M_kindsMany_4 {X : zX} {G : zG} {v1 : Int} {μ : zM} {rv : Option zV} {ν : zM} (hX : zOk X G cX6_kindsMany RX6 5 (some .int) 2) (hF : zFin X G rv ν) {v2 v3 : Int} (h : zP (Sum.elim (k_M_kindsMany X G v1 μ) (fun r : Int => (some (zI r), μ) = (rv, ν))) (b_M_kindsMany_4 v1 v2 v3 μ)) : zW X G 5 4 [some (zR 42), some (zI v1), some (zI v2), some (zI v3), none] [] μ := by
  refine zr_iload_n hX dX6_kindsMany_4 rfl rfl ?_
  refine zr_aload_n hX dX6_kindsMany_5 rfl rfl ?_
  refine zr_getr hX dX6_kindsMany_6 (k := 0) (q := 43) rfl rfl ww_841 rfl ?_
  refine zr_iconst hX dX6_kindsMany_9 (zrl rfl) ?_
  refine zr_ialdc hX dX6_kindsMany_10 (N := 10956) rfl rfl rfl ?_
  refine zr_icmpge (tgt := 83) hX dX6_kindsMany_11 rfl h (fun h => ?_) (fun h => ?_)
  · refine zr_iload_n hX dX6_kindsMany_83 rfl rfl ?_
    exact zr_iret hX dX6_kindsMany_84 hF h
  · refine zr_iconst hX dX6_kindsMany_14 (zrl rfl) ?_
    refine zr_istore hX dX6_kindsMany_15 (Nat.le_of_ble_eq_true rfl) ?_
    exact zW_lf (k_M_kindsMany_17 h) (And.intro rfl (And.intro rfl (And.intro rfl (And.intro rfl (And.intro rfl trivial)))))
set_option maxRecDepth 100000 in
set_option maxHeartbeats 4000000 in
theorem w_M_kindsMany_17 {X : zX} {G : zG} {v1 : Int} {μ : zM} {rv : Option zV} {ν : zM} (hX : zOk X G cX6_kindsMany RX6 5 (some .int) 2) (hF : zFin X G rv ν) {v2 v3 v4 : Int} (h : zP (Sum.elim (k_M_kindsMany X G v1 μ) (fun r : Int => (some (zI r), μ) = (rv, ν))) (b_M_kindsMany_17 v1 v2 v3 v4 μ)) : zW X G 5 17 [some (zR 42), some (zI v1), some (zI v2), some (zI v3), some (zI v4)] [] μ := by
  refine zr_iload hX dX6_kindsMany_17 rfl ?_
  refine zr_aload_n hX dX6_kindsMany_19 rfl rfl ?_
  refine zr_getr hX dX6_kindsMany_20 (k := 0) (q := 43) rfl rfl ww_841 rfl ?_
  refine zr_iconst hX dX6_kindsMany_23 (zrl rfl) ?_
  refine zr_iload_n hX dX6_kindsMany_24 rfl rfl ?_
  refine zr_iadd hX dX6_kindsMany_25 ?_
  refine zr_iald (N := 10956) hX dX6_kindsMany_26 rfl rfl h (fun h => ?_)
  refine zr_icmpge (tgt := 77) hX dX6_kindsMany_27 rfl h (fun h => ?_) (fun h => ?_)
  · refine zr_iinc hX dX6_kindsMany_77 rfl (Nat.le_of_ble_eq_true rfl) ?_
    refine zr_goto hX dX6_kindsMany_80 (tgt := 4) rfl ?_
    exact zW_lf (k_M_kindsMany_4 h) (And.intro rfl (And.intro rfl (And.intro rfl (And.intro rfl trivial))))
  · refine zr_iload_n hX dX6_kindsMany_30 rfl rfl ?_
    refine zr_iload_n hX dX6_kindsMany_31 rfl rfl ?_
    refine zr_ifeq (tgt := 51) hX dX6_kindsMany_32 rfl h (fun h => ?_) (fun h => ?_)
    · refine zr_aload_n hX dX6_kindsMany_51 rfl rfl ?_
      refine zr_iload_n hX dX6_kindsMany_52 rfl rfl ?_
      refine zr_iload hX dX6_kindsMany_53 rfl ?_
      refine zP_bind h (fun q1 hq1 h => ?_)
      refine zr_callV hX dX6_kindsMany_55 (m_M_kindAt hq1) rfl rfl rfl (z5 ww_1029 ww_1031 ww_34 ww_75 ww_1032) hy_X6_kindAt rfl (Nat.le_of_ble_eq_true rfl) (Nat.le_of_ble_eq_true rfl) (Nat.le_of_ble_eq_true rfl) ?_
      refine zr_callS hX dX6_kindsMany_58 (m_M_isLeaning) rfl (z4 ww_1062 ww_1063 ww_75 ww_1064) hy_X6_isLeaning rfl (Nat.le_of_ble_eq_true rfl) (Nat.le_of_ble_eq_true rfl) (Nat.le_of_ble_eq_true rfl) ?_
      refine zr_ifeq (tgt := 68) hX dX6_kindsMany_61 rfl h (fun h => ?_) (fun h => ?_)
      · refine zr_iconst hX dX6_kindsMany_68 (zrl rfl) ?_
        refine zr_iadd hX dX6_kindsMany_69 ?_
        refine zr_istore_n hX dX6_kindsMany_70 rfl (Nat.le_of_ble_eq_true rfl) ?_
        refine zr_iinc hX dX6_kindsMany_71 rfl (Nat.le_of_ble_eq_true rfl) ?_
        refine zr_goto hX dX6_kindsMany_74 (tgt := 17) rfl ?_
        exact zW_lf (k_M_kindsMany_17 h) (And.intro rfl (And.intro rfl (And.intro rfl (And.intro rfl (And.intro rfl trivial)))))
      · refine zr_iconst hX dX6_kindsMany_64 (zrl rfl) ?_
        refine zr_goto hX dX6_kindsMany_65 (tgt := 69) rfl ?_
        refine zr_iadd hX dX6_kindsMany_69 ?_
        refine zr_istore_n hX dX6_kindsMany_70 rfl (Nat.le_of_ble_eq_true rfl) ?_
        refine zr_iinc hX dX6_kindsMany_71 rfl (Nat.le_of_ble_eq_true rfl) ?_
        refine zr_goto hX dX6_kindsMany_74 (tgt := 17) rfl ?_
        exact zW_lf (k_M_kindsMany_17 h) (And.intro rfl (And.intro rfl (And.intro rfl (And.intro rfl (And.intro rfl trivial)))))
    · refine zr_aload_n hX dX6_kindsMany_35 rfl rfl ?_
      refine zr_iload_n hX dX6_kindsMany_36 rfl rfl ?_
      refine zr_iload hX dX6_kindsMany_37 rfl ?_
      refine zP_bind h (fun q2 hq2 h => ?_)
      refine zr_callV hX dX6_kindsMany_39 (m_M_kindAt hq2) rfl rfl rfl (z5 ww_1029 ww_1031 ww_34 ww_75 ww_1032) hy_X6_kindAt rfl (Nat.le_of_ble_eq_true rfl) (Nat.le_of_ble_eq_true rfl) (Nat.le_of_ble_eq_true rfl) ?_
      refine zr_callS hX dX6_kindsMany_42 (m_M_isGlass) rfl (z4 ww_1043 ww_1044 ww_75 ww_1045) hy_X6_isGlass rfl (Nat.le_of_ble_eq_true rfl) (Nat.le_of_ble_eq_true rfl) (Nat.le_of_ble_eq_true rfl) ?_
      refine zr_ifeq (tgt := 68) hX dX6_kindsMany_45 rfl h (fun h => ?_) (fun h => ?_)
      · refine zr_iconst hX dX6_kindsMany_68 (zrl rfl) ?_
        refine zr_iadd hX dX6_kindsMany_69 ?_
        refine zr_istore_n hX dX6_kindsMany_70 rfl (Nat.le_of_ble_eq_true rfl) ?_
        refine zr_iinc hX dX6_kindsMany_71 rfl (Nat.le_of_ble_eq_true rfl) ?_
        refine zr_goto hX dX6_kindsMany_74 (tgt := 17) rfl ?_
        exact zW_lf (k_M_kindsMany_17 h) (And.intro rfl (And.intro rfl (And.intro rfl (And.intro rfl (And.intro rfl trivial)))))
      · refine zr_goto hX dX6_kindsMany_48 (tgt := 64) rfl ?_
        refine zr_iconst hX dX6_kindsMany_64 (zrl rfl) ?_
        refine zr_goto hX dX6_kindsMany_65 (tgt := 69) rfl ?_
        refine zr_iadd hX dX6_kindsMany_69 ?_
        refine zr_istore_n hX dX6_kindsMany_70 rfl (Nat.le_of_ble_eq_true rfl) ?_
        refine zr_iinc hX dX6_kindsMany_71 rfl (Nat.le_of_ble_eq_true rfl) ?_
        refine zr_goto hX dX6_kindsMany_74 (tgt := 17) rfl ?_
        exact zW_lf (k_M_kindsMany_17 h) (And.intro rfl (And.intro rfl (And.intro rfl (And.intro rfl (And.intro rfl trivial)))))
set_option maxRecDepth 100000 in
set_option maxHeartbeats 4000000 in
theorem w_M_kindsMany_e {X : zX} {G : zG} {v1 : Int} {μ : zM} {rv : Option zV} {ν : zM} (hX : zOk X G cX6_kindsMany RX6 5 (some .int) 2) (hF : zFin X G rv ν) (h : zP (Sum.elim (k_M_kindsMany X G v1 μ) (fun r : Int => (some (zI r), μ) = (rv, ν))) (e_M_kindsMany v1 μ)) : zW X G 5 0 [some (zR 42), some (zI v1), none, none, none] [] μ := by
  refine zr_iconst hX dX6_kindsMany_0 (zrl rfl) ?_
  refine zr_istore_n hX dX6_kindsMany_1 rfl (Nat.le_of_ble_eq_true rfl) ?_
  refine zr_iconst hX dX6_kindsMany_2 (zrl rfl) ?_
  refine zr_istore_n hX dX6_kindsMany_3 rfl (Nat.le_of_ble_eq_true rfl) ?_
  exact zW_lf (k_M_kindsMany_4 h) (And.intro rfl (And.intro rfl (And.intro rfl (And.intro rfl trivial))))
set_option maxRecDepth 100000 in
theorem m_M_kindsMany {l : Launch} {G : zG} {v1 : Int} {μ : zM} {q : Int} (hq : f_M_kindsMany v1 μ = some q) : zCT l G yX6_kindsMany cX6_kindsMany 5 (some .int) 2 [zR 42, zI v1] μ (some (zI q)) μ := by
  refine zMet (lv := [some (zR 42), some (zI v1), none, none, none]) (k := 3) pl_X6 rfl (Nat.le_of_ble_eq_true rfl) (fun X hl hX hF _ _ => ?_)
  refine w_M_kindsMany_e hX hF (zgo_K (r := q) (step := t_M_kindsMany v1 μ) (fun s h => ?_) rfl hq)
  cases s with
  | inl s => exact w_M_kindsMany_4 hX hF h
  | inr s => exact w_M_kindsMany_17 hX hF h
def k_M_thereOf (X : zX) (G : zG) (o0 : Nat) (v1 : Int) (μ : zM) : (Int × Int) → Prop := fun s => zW X G 4 4 [some (zR o0), some (zI v1), some (zI s.1), some (zI s.2)] [] μ
theorem k_M_thereOf_4 {X : zX} {G : zG} {o0 : Nat} {v1 : Int} {μ : zM} {F : Int → Prop} {v2 v3 : Int} (h : zP (Sum.elim (k_M_thereOf X G o0 v1 μ) F) (some (.inl ((v2, v3))))) : zW X G 4 4 [some (zR o0), some (zI v1), some (zI v2), some (zI v3)] [] μ := h
set_option maxRecDepth 100000 in
set_option maxHeartbeats 4000000 in
theorem w_M_thereOf_4 {X : zX} {G : zG} {o0 : Nat} {v1 : Int} {μ : zM} {rv : Option zV} {ν : zM} (hX : zOk X G cX6_thereOf RX6 4 (some .int) 1) (hF : zFin X G rv ν) (ho0 : zsh o0 = (1, (zsh o0).2)) {v2 v3 : Int} (h : zP (Sum.elim (k_M_thereOf X G o0 v1 μ) (fun r : Int => (some (zI r), μ) = (rv, ν))) (b_M_thereOf_4 o0 v1 v2 v3 μ)) : zW X G 4 4 [some (zR o0), some (zI v1), some (zI v2), some (zI v3)] [] μ := by
  refine zr_iload_n hX dX6_thereOf_4 rfl rfl ?_
  refine zr_iload_n hX dX6_thereOf_5 rfl rfl ?_
  refine zr_icmpge (tgt := 29) hX dX6_thereOf_6 rfl h (fun h => ?_) (fun h => ?_)
  · refine zr_iload_n hX dX6_thereOf_29 rfl rfl ?_
    exact zr_iret hX dX6_thereOf_30 hF h
  · refine zr_iload_n hX dX6_thereOf_9 rfl rfl ?_
    refine zr_aload_n hX dX6_thereOf_10 rfl rfl ?_
    refine zr_iload_n hX dX6_thereOf_11 rfl rfl ?_
    refine zr_iald (N := zsz o0) hX dX6_thereOf_12 ho0 rfl h (fun h => ?_)
    refine zr_ifge (tgt := 20) hX dX6_thereOf_13 rfl h (fun h => ?_) (fun h => ?_)
    · refine zr_iconst hX dX6_thereOf_20 (zrl rfl) ?_
      refine zr_iadd hX dX6_thereOf_21 ?_
      refine zr_istore_n hX dX6_thereOf_22 rfl (Nat.le_of_ble_eq_true rfl) ?_
      refine zr_iinc hX dX6_thereOf_23 rfl (Nat.le_of_ble_eq_true rfl) ?_
      refine zr_goto hX dX6_thereOf_26 (tgt := 4) rfl ?_
      exact zW_lf (k_M_thereOf_4 h) (And.intro rfl (And.intro rfl (And.intro rfl (And.intro rfl trivial))))
    · refine zr_iconst hX dX6_thereOf_16 (zrl rfl) ?_
      refine zr_goto hX dX6_thereOf_17 (tgt := 21) rfl ?_
      refine zr_iadd hX dX6_thereOf_21 ?_
      refine zr_istore_n hX dX6_thereOf_22 rfl (Nat.le_of_ble_eq_true rfl) ?_
      refine zr_iinc hX dX6_thereOf_23 rfl (Nat.le_of_ble_eq_true rfl) ?_
      refine zr_goto hX dX6_thereOf_26 (tgt := 4) rfl ?_
      exact zW_lf (k_M_thereOf_4 h) (And.intro rfl (And.intro rfl (And.intro rfl (And.intro rfl trivial))))
set_option maxRecDepth 100000 in
set_option maxHeartbeats 4000000 in
theorem w_M_thereOf_e {X : zX} {G : zG} {o0 : Nat} {v1 : Int} {μ : zM} {rv : Option zV} {ν : zM} (hX : zOk X G cX6_thereOf RX6 4 (some .int) 1) (hF : zFin X G rv ν) (ho0 : zsh o0 = (1, (zsh o0).2)) (h : zP (Sum.elim (k_M_thereOf X G o0 v1 μ) (fun r : Int => (some (zI r), μ) = (rv, ν))) (e_M_thereOf o0 v1 μ)) : zW X G 4 0 [some (zR o0), some (zI v1), none, none] [] μ := by
  refine zr_iconst hX dX6_thereOf_0 (zrl rfl) ?_
  refine zr_istore_n hX dX6_thereOf_1 rfl (Nat.le_of_ble_eq_true rfl) ?_
  refine zr_iconst hX dX6_thereOf_2 (zrl rfl) ?_
  refine zr_istore_n hX dX6_thereOf_3 rfl (Nat.le_of_ble_eq_true rfl) ?_
  exact zW_lf (k_M_thereOf_4 h) (And.intro rfl (And.intro rfl (And.intro rfl (And.intro rfl trivial))))
set_option maxRecDepth 100000 in
theorem m_M_thereOf {l : Launch} {G : zG} {o0 : Nat} {v1 : Int} {μ : zM} (ho0 : zsh o0 = (1, (zsh o0).2)) {q : Int} (hq : f_M_thereOf o0 v1 μ = some q) : zCT l G yX6_thereOf cX6_thereOf 4 (some .int) 1 [zR o0, zI v1] μ (some (zI q)) μ := by
  refine zMet (lv := [some (zR o0), some (zI v1), none, none]) (k := 2) pl_X6 rfl (Nat.le_of_ble_eq_true rfl) (fun X hl hX hF _ _ => ?_)
  refine w_M_thereOf_e hX hF ho0 (zgo_K (r := q) (step := t_M_thereOf o0 v1 μ) (fun s h => ?_) rfl hq)
  exact w_M_thereOf_4 hX hF ho0 h
def k_M_highest (X : zX) (G : zG) (μ : zM) : (Int × Int) → Prop := fun s => zW X G 3 4 [some (zR 42), some (zI s.1), some (zI s.2)] [] μ
theorem k_M_highest_4 {X : zX} {G : zG} {μ : zM} {F : Int → Prop} {v1 v2 : Int} (h : zP (Sum.elim (k_M_highest X G μ) F) (some (.inl ((v1, v2))))) : zW X G 3 4 [some (zR 42), some (zI v1), some (zI v2)] [] μ := h
set_option maxRecDepth 100000 in
set_option maxHeartbeats 4000000 in
theorem w_M_highest_4 {X : zX} {G : zG} {μ : zM} {rv : Option zV} {ν : zM} (hX : zOk X G cX6_highest RX6 3 (some .int) 1) (hF : zFin X G rv ν) {v1 v2 : Int} (h : zP (Sum.elim (k_M_highest X G μ) (fun r : Int => (some (zI r), μ) = (rv, ν))) (b_M_highest_4 v1 v2 μ)) : zW X G 3 4 [some (zR 42), some (zI v1), some (zI v2)] [] μ := by
  refine zr_iload_n hX dX6_highest_4 rfl rfl ?_
  refine zr_aload_n hX dX6_highest_5 rfl rfl ?_
  refine zr_getr hX dX6_highest_6 (k := 0) (q := 43) rfl rfl ww_841 rfl ?_
  refine zr_iconst hX dX6_highest_9 (zrl rfl) ?_
  refine zr_ialdc hX dX6_highest_10 (N := 10956) rfl rfl rfl ?_
  refine zr_icmpge (tgt := 45) hX dX6_highest_11 rfl h (fun h => ?_) (fun h => ?_)
  · refine zr_iload_n hX dX6_highest_45 rfl rfl ?_
    exact zr_iret hX dX6_highest_46 hF h
  · refine zr_aload_n hX dX6_highest_14 rfl rfl ?_
    refine zr_getr hX dX6_highest_15 (k := 0) (q := 43) rfl rfl ww_841 rfl ?_
    refine zr_iconst hX dX6_highest_18 (zrl rfl) ?_
    refine zr_iload_n hX dX6_highest_19 rfl rfl ?_
    refine zr_iadd hX dX6_highest_20 ?_
    refine zr_iald (N := 10956) hX dX6_highest_21 rfl rfl h (fun h => ?_)
    refine zr_iload_n hX dX6_highest_22 rfl rfl ?_
    refine zr_icmple (tgt := 37) hX dX6_highest_23 rfl h (fun h => ?_) (fun h => ?_)
    · refine zr_iload_n hX dX6_highest_37 rfl rfl ?_
      refine zr_istore_n hX dX6_highest_38 rfl (Nat.le_of_ble_eq_true rfl) ?_
      refine zr_iinc hX dX6_highest_39 rfl (Nat.le_of_ble_eq_true rfl) ?_
      refine zr_goto hX dX6_highest_42 (tgt := 4) rfl ?_
      exact zW_lf (k_M_highest_4 h) (And.intro rfl (And.intro rfl (And.intro rfl trivial)))
    · refine zr_aload_n hX dX6_highest_26 rfl rfl ?_
      refine zr_getr hX dX6_highest_27 (k := 0) (q := 43) rfl rfl ww_841 rfl ?_
      refine zr_iconst hX dX6_highest_30 (zrl rfl) ?_
      refine zr_iload_n hX dX6_highest_31 rfl rfl ?_
      refine zr_iadd hX dX6_highest_32 ?_
      refine zr_iald (N := 10956) hX dX6_highest_33 rfl rfl h (fun h => ?_)
      refine zr_goto hX dX6_highest_34 (tgt := 38) rfl ?_
      refine zr_istore_n hX dX6_highest_38 rfl (Nat.le_of_ble_eq_true rfl) ?_
      refine zr_iinc hX dX6_highest_39 rfl (Nat.le_of_ble_eq_true rfl) ?_
      refine zr_goto hX dX6_highest_42 (tgt := 4) rfl ?_
      exact zW_lf (k_M_highest_4 h) (And.intro rfl (And.intro rfl (And.intro rfl trivial)))
set_option maxRecDepth 100000 in
set_option maxHeartbeats 4000000 in
theorem w_M_highest_e {X : zX} {G : zG} {μ : zM} {rv : Option zV} {ν : zM} (hX : zOk X G cX6_highest RX6 3 (some .int) 1) (hF : zFin X G rv ν) (h : zP (Sum.elim (k_M_highest X G μ) (fun r : Int => (some (zI r), μ) = (rv, ν))) (e_M_highest μ)) : zW X G 3 0 [some (zR 42), none, none] [] μ := by
  refine zr_iconst hX dX6_highest_0 (zrl rfl) ?_
  refine zr_istore_n hX dX6_highest_1 rfl (Nat.le_of_ble_eq_true rfl) ?_
  refine zr_iconst hX dX6_highest_2 (zrl rfl) ?_
  refine zr_istore_n hX dX6_highest_3 rfl (Nat.le_of_ble_eq_true rfl) ?_
  exact zW_lf (k_M_highest_4 h) (And.intro rfl (And.intro rfl (And.intro rfl trivial)))
set_option maxRecDepth 100000 in
theorem m_M_highest {l : Launch} {G : zG} {μ : zM} {q : Int} (hq : f_M_highest μ = some q) : zCT l G yX6_highest cX6_highest 3 (some .int) 1 [zR 42] μ (some (zI q)) μ := by
  refine zMet (lv := [some (zR 42), none, none]) (k := 2) pl_X6 rfl (Nat.le_of_ble_eq_true rfl) (fun X hl hX hF _ _ => ?_)
  refine w_M_highest_e hX hF (zgo_K (r := q) (step := t_M_highest μ) (fun s h => ?_) rfl hq)
  exact w_M_highest_4 hX hF h
set_option maxRecDepth 100000 in
set_option maxHeartbeats 4000000 in
theorem w_M_count_e {X : zX} {G : zG} {v1 : Int} {μ : zM} {rv : Option zV} {ν : zM} (hX : zOk X G cX6_count RX6 2 (some .int) 3) (hF : zFin X G rv ν) (h : zP (fun r : Int => (some (zI r), μ) = (rv, ν)) (f_M_count v1 μ)) : zW X G 2 0 [some (zR 42), some (zI v1)] [] μ := by
  refine zr_iload_n hX dX6_count_0 rfl rfl ?_
  refine zr_tsw hX 0 dX6_count_1 (by decide) (zrl rfl) (t2 := 52) rfl rfl h (fun h => ?_) (fun hs1 h => ?_)
  · refine zr_aload_n hX dX6_count_52 rfl rfl ?_
    refine zr_getr hX dX6_count_53 (k := 0) (q := 43) rfl rfl ww_841 rfl ?_
    refine zr_iconst hX dX6_count_56 (zrl rfl) ?_
    refine zr_ialdc hX dX6_count_57 (N := 10956) rfl rfl rfl ?_
    exact zr_iret hX dX6_count_58 hF h
  refine zr_tsw hX 1 dX6_count_1 (by decide) (zrl rfl) (t2 := 59) rfl rfl h (fun h => ?_) (fun hs2 h => ?_)
  · refine zr_aload_n hX dX6_count_59 rfl rfl ?_
    refine zP_bind h (fun q3 hq3 h => ?_)
    refine zr_callV hX dX6_count_60 (m_M_houses hq3) rfl rfl rfl (z5 ww_1013 ww_1015 ww_30 ww_75 ww_1016) hy_X6_houses rfl (Nat.le_of_ble_eq_true rfl) (Nat.le_of_ble_eq_true rfl) (Nat.le_of_ble_eq_true rfl) ?_
    exact zr_iret hX dX6_count_63 hF h
  refine zr_tsw hX 2 dX6_count_1 (by decide) (zrl rfl) (t2 := 64) rfl rfl h (fun h => ?_) (fun hs4 h => ?_)
  · refine zr_aload_n hX dX6_count_64 rfl rfl ?_
    refine zr_geti hX dX6_count_65 (k := 1) rfl rfl ww_842 ?_
    exact zr_iret hX dX6_count_68 hF h
  refine zr_tsw hX 3 dX6_count_1 (by decide) (zrl rfl) (t2 := 69) rfl rfl h (fun h => ?_) (fun hs5 h => ?_)
  · refine zr_aload_n hX dX6_count_69 rfl rfl ?_
    refine zP_bind h (fun q6 hq6 h => ?_)
    refine zr_callV hX dX6_count_70 (m_M_highest hq6) rfl rfl rfl (z5 ww_1315 ww_1317 ww_64 ww_75 ww_1318) hy_X6_highest rfl (Nat.le_of_ble_eq_true rfl) (Nat.le_of_ble_eq_true rfl) (Nat.le_of_ble_eq_true rfl) ?_
    exact zr_iret hX dX6_count_73 hF h
  refine zr_tsw hX 4 dX6_count_1 (by decide) (zrl rfl) (t2 := 74) rfl rfl h (fun h => ?_) (fun hs7 h => ?_)
  · refine zr_aload_n hX dX6_count_74 rfl rfl ?_
    refine zr_iconst hX dX6_count_75 (zrl rfl) ?_
    refine zP_bind h (fun q8 hq8 h => ?_)
    refine zr_callV hX dX6_count_76 (m_M_kindsMany hq8) rfl rfl rfl (z5 ww_1319 ww_1321 ww_65 ww_75 ww_1322) hy_X6_kindsMany rfl (Nat.le_of_ble_eq_true rfl) (Nat.le_of_ble_eq_true rfl) (Nat.le_of_ble_eq_true rfl) ?_
    exact zr_iret hX dX6_count_79 hF h
  refine zr_tsw hX 5 dX6_count_1 (by decide) (zrl rfl) (t2 := 80) rfl rfl h (fun h => ?_) (fun hs9 h => ?_)
  · refine zr_aload_n hX dX6_count_80 rfl rfl ?_
    refine zr_iconst hX dX6_count_81 (zrl rfl) ?_
    refine zP_bind h (fun q10 hq10 h => ?_)
    refine zr_callV hX dX6_count_82 (m_M_kindsMany hq10) rfl rfl rfl (z5 ww_1319 ww_1321 ww_65 ww_75 ww_1322) hy_X6_kindsMany rfl (Nat.le_of_ble_eq_true rfl) (Nat.le_of_ble_eq_true rfl) (Nat.le_of_ble_eq_true rfl) ?_
    exact zr_iret hX dX6_count_85 hF h
  refine zr_tsw hX 6 dX6_count_1 (by decide) (zrl rfl) (t2 := 86) rfl rfl h (fun h => ?_) (fun hs11 h => ?_)
  · refine zr_aload_n hX dX6_count_86 rfl rfl ?_
    refine zr_getr hX dX6_count_87 (k := 4) (q := 46) rfl rfl ww_845 rfl ?_
    refine zr_bipush hX dX6_count_90 rfl ?_
    refine zP_bind h (fun q12 hq12 h => ?_)
    refine zr_callS hX dX6_count_92 (m_M_thereOf (zarr rfl) hq12) rfl (z4 ww_1323 ww_1324 ww_75 ww_1325) hy_X6_thereOf rfl (Nat.le_of_ble_eq_true rfl) (Nat.le_of_ble_eq_true rfl) (Nat.le_of_ble_eq_true rfl) ?_
    exact zr_iret hX dX6_count_95 hF h
  refine zr_tsw hX 7 dX6_count_1 (by decide) (zrl rfl) (t2 := 96) rfl rfl h (fun h => ?_) (fun hs13 h => ?_)
  · refine zr_aload_n hX dX6_count_96 rfl rfl ?_
    refine zr_getr hX dX6_count_97 (k := 6) (q := 48) rfl rfl ww_847 rfl ?_
    refine zr_iconst hX dX6_count_100 (zrl rfl) ?_
    refine zP_bind h (fun q14 hq14 h => ?_)
    refine zr_callS hX dX6_count_101 (m_M_thereOf (zarr rfl) hq14) rfl (z4 ww_1323 ww_1324 ww_75 ww_1325) hy_X6_thereOf rfl (Nat.le_of_ble_eq_true rfl) (Nat.le_of_ble_eq_true rfl) (Nat.le_of_ble_eq_true rfl) ?_
    exact zr_iret hX dX6_count_104 hF h
  refine zr_tsw hX 8 dX6_count_1 (by decide) (zrl rfl) (t2 := 105) rfl rfl h (fun h => ?_) (fun hs15 h => ?_)
  · refine zr_aload_n hX dX6_count_105 rfl rfl ?_
    refine zr_getr hX dX6_count_106 (k := 2) (q := 44) rfl rfl ww_843 rfl ?_
    refine zr_iconst hX dX6_count_109 (zrl rfl) ?_
    refine zP_bind h (fun q16 hq16 h => ?_)
    refine zr_callS hX dX6_count_110 (m_M_thereOf (zarr rfl) hq16) rfl (z4 ww_1323 ww_1324 ww_75 ww_1325) hy_X6_thereOf rfl (Nat.le_of_ble_eq_true rfl) (Nat.le_of_ble_eq_true rfl) (Nat.le_of_ble_eq_true rfl) ?_
    exact zr_iret hX dX6_count_113 hF h
  refine zr_tswd (tgt := 114) hX dX6_count_1 (by omega) rfl ?_
  refine zr_iconst hX dX6_count_114 (zrl rfl) ?_
  exact zr_iret hX dX6_count_115 hF h
set_option maxRecDepth 100000 in
theorem m_M_count {l : Launch} {G : zG} {v1 : Int} {μ : zM} {q : Int} (hq : f_M_count v1 μ = some q) : zCT l G yX6_count cX6_count 2 (some .int) 3 [zR 42, zI v1] μ (some (zI q)) μ := by
  refine zMet (lv := [some (zR 42), some (zI v1)]) (k := 0) pl_X6 rfl (Nat.le_of_ble_eq_true rfl) (fun X hl hX hF _ _ => ?_)
  exact w_M_count_e hX hF (zP_of hq rfl)
set_option maxRecDepth 100000 in
set_option maxHeartbeats 4000000 in
theorem w_M_finding_e {X : zX} {G : zG} {μ : zM} {rv : Option zV} {ν : zM} (hX : zOk X G cX6_finding RX6 1 (some .int) 1) (hF : zFin X G rv ν) (h : zP (fun r : Int => (some (zI r), μ) = (rv, ν)) (fo_M_finding μ)) : zW X G 1 0 [some (zR 42)] [] μ := by
  refine zr_aload_n hX dX6_finding_0 rfl rfl ?_
  refine zr_geti hX dX6_finding_1 (k := 8) rfl rfl ww_849 ?_
  exact zr_iret hX dX6_finding_4 hF h
set_option maxRecDepth 100000 in
theorem m_M_finding {l : Launch} {G : zG} {μ : zM} : zCT l G yX6_finding cX6_finding 1 (some .int) 1 [zR 42] μ (some (zI (f_M_finding μ))) μ := by
  refine zMet (lv := [some (zR 42)]) (k := 0) pl_X6 rfl (Nat.le_of_ble_eq_true rfl) (fun X hl hX hF _ _ => ?_)
  exact w_M_finding_e hX hF (by rw [fo_M_finding_eq]; rfl)
set_option maxRecDepth 100000 in
set_option maxHeartbeats 4000000 in
theorem w_M_findings_e {X : zX} {G : zG} {v1 : Int} {μ : zM} {rv : Option zV} {ν : zM} (hX : zOk X G cX6_findings RX6 2 (some .int) 2) (hF : zFin X G rv ν) (h : zP (fun r : Int => (some (zI r), μ) = (rv, ν)) (f_M_findings v1 μ)) : zW X G 2 0 [some (zR 42), some (zI v1)] [] μ := by
  refine zr_iload_n hX dX6_findings_0 rfl rfl ?_
  refine zr_i2l hX dX6_findings_1 ?_
  refine zr_lconst hX dX6_findings_2 (n := 1) rfl (zrlJ rfl) ?_
  refine zr_ldc2 hX dX6_findings_3 ww_907 rfl (zrlJ rfl) ?_
  refine zr_callS hX dX6_findings_6 (m_M_in) rfl (z4 ww_908 ww_909 ww_75 ww_910) hy_X6_in rfl (Nat.le_of_ble_eq_true rfl) (Nat.le_of_ble_eq_true rfl) (Nat.le_of_ble_eq_true rfl) ?_
  refine zr_ifeq (tgt := 21) hX dX6_findings_9 rfl h (fun h => ?_) (fun h => ?_)
  · refine zr_iconst hX dX6_findings_21 (zrl rfl) ?_
    exact zr_iret hX dX6_findings_22 hF h
  · refine zr_aload_n hX dX6_findings_12 rfl rfl ?_
    refine zr_getr hX dX6_findings_13 (k := 9) (q := 50) rfl rfl ww_850 rfl ?_
    refine zr_iload_n hX dX6_findings_16 rfl rfl ?_
    refine zr_iald (N := 6) hX dX6_findings_17 rfl rfl h (fun h => ?_)
    refine zr_goto hX dX6_findings_18 (tgt := 22) rfl ?_
    exact zr_iret hX dX6_findings_22 hF h
set_option maxRecDepth 100000 in
theorem m_M_findings {l : Launch} {G : zG} {v1 : Int} {μ : zM} {q : Int} (hq : f_M_findings v1 μ = some q) : zCT l G yX6_findings cX6_findings 2 (some .int) 2 [zR 42, zI v1] μ (some (zI q)) μ := by
  refine zMet (lv := [some (zR 42), some (zI v1)]) (k := 0) pl_X6 rfl (Nat.le_of_ble_eq_true rfl) (fun X hl hX hF _ _ => ?_)
  exact w_M_findings_e hX hF (zP_of hq rfl)
set_option maxRecDepth 100000 in
set_option maxHeartbeats 4000000 in
theorem w_M_mix_e {X : zX} {G : zG} {v1 : Int} {μ : zM} {rv : Option zV} {ν : zM} (hX : zOk X G cX6_mix RX6 3 none 1) (hF : zFin X G rv ν) (h : zP (fun r : zM => ((none : Option zV), r) = (rv, ν)) (f_M_mix v1 μ)) : zW X G 3 0 [some (zR 42), some (zJ v1), none] [] μ := by
  refine zr_aload_n hX dX6_mix_0 rfl rfl ?_
  refine zr_ldc2 hX dX6_mix_1 ww_1344 rfl (zrlJ rfl) ?_
  refine zr_aload_n hX dX6_mix_4 rfl rfl ?_
  refine zr_getj hX dX6_mix_5 (k := 18) rfl rfl ww_859 ?_
  refine zr_lmul hX dX6_mix_8 ?_
  refine zr_lload_n hX dX6_mix_9 rfl rfl ?_
  refine zr_ladd hX dX6_mix_10 ?_
  refine zr_putj hX dX6_mix_11 (k := 18) rfl rfl ww_859 rfl (by decide +kernel) ?_
  exact zr_vret hX dX6_mix_14 hF h
set_option maxRecDepth 100000 in
theorem m_M_mix {l : Launch} {G : zG} {v1 : Int} {μ : zM} {q : zM} (hq : f_M_mix v1 μ = some q) : zCT l G yX6_mix cX6_mix 3 none 1 [zR 42, zJ v1] μ (none) q := by
  refine zMet (lv := [some (zR 42), some (zJ v1), none]) (k := 0) pl_X6 rfl (Nat.le_of_ble_eq_true rfl) (fun X hl hX hF _ _ => ?_)
  exact w_M_mix_e hX hF (zP_of hq rfl)
def k_M_digest (X : zX) (G : zG) : ((Int × zM) ⊕ (Int × zM) ⊕ (Int × zM) ⊕ (Int × Int × zM) ⊕ (Int × zM) ⊕ (Int × Int × Int × zM) ⊕ (Int × zM) ⊕ (Int × Int × zM) ⊕ (Int × Int × zM)) → Prop := fun s => match s with
  | .inl (s) => zW X G 4 9 [some (zR 42), some (zI s.1), none, none] [] s.2
  | .inr (.inl (s)) => zW X G 4 37 [some (zR 42), some (zI s.1), none, none] [] s.2
  | .inr (.inr (.inl (s))) => zW X G 4 114 [some (zR 42), some (zI s.1), none, none] [] s.2
  | .inr (.inr (.inr (.inl (s)))) => zW X G 4 62 [some (zR 42), some (zI s.1), some (zI s.2.1), none] [] s.2.2
  | .inr (.inr (.inr (.inr (.inl (s))))) => zW X G 4 138 [some (zR 42), some (zI s.1), none, none] [] s.2
  | .inr (.inr (.inr (.inr (.inr (.inl (s)))))) => zW X G 4 76 [some (zR 42), some (zI s.1), some (zI s.2.1), some (zI s.2.2.1)] [] s.2.2.2
  | .inr (.inr (.inr (.inr (.inr (.inr (.inl (s))))))) => zW X G 4 197 [some (zR 42), some (zI s.1), none, none] [] s.2
  | .inr (.inr (.inr (.inr (.inr (.inr (.inr (.inl (s)))))))) => zW X G 4 157 [some (zR 42), some (zI s.1), some (zI s.2.1), none] [] s.2.2
  | .inr (.inr (.inr (.inr (.inr (.inr (.inr (.inr (s)))))))) => zW X G 4 215 [some (zR 42), some (zI s.1), some (zI s.2.1), none] [] s.2.2
theorem k_M_digest_9 {X : zX} {G : zG} {F : (Int × zM) → Prop} {v1 : Int} {κ : zM} (h : zP (Sum.elim (k_M_digest X G) F) (some (.inl (.inl ((v1, κ)))))) : zW X G 4 9 [some (zR 42), some (zI v1), none, none] [] κ := h
theorem k_M_digest_37 {X : zX} {G : zG} {F : (Int × zM) → Prop} {v1 : Int} {κ : zM} (h : zP (Sum.elim (k_M_digest X G) F) (some (.inl (.inr (.inl ((v1, κ))))))) : zW X G 4 37 [some (zR 42), some (zI v1), none, none] [] κ := h
theorem k_M_digest_114 {X : zX} {G : zG} {F : (Int × zM) → Prop} {v1 : Int} {κ : zM} (h : zP (Sum.elim (k_M_digest X G) F) (some (.inl (.inr (.inr (.inl ((v1, κ)))))))) : zW X G 4 114 [some (zR 42), some (zI v1), none, none] [] κ := h
theorem k_M_digest_62 {X : zX} {G : zG} {F : (Int × zM) → Prop} {v1 v2 : Int} {κ : zM} (h : zP (Sum.elim (k_M_digest X G) F) (some (.inl (.inr (.inr (.inr (.inl ((v1, v2, κ))))))))) : zW X G 4 62 [some (zR 42), some (zI v1), some (zI v2), none] [] κ := h
theorem k_M_digest_138 {X : zX} {G : zG} {F : (Int × zM) → Prop} {v1 : Int} {κ : zM} (h : zP (Sum.elim (k_M_digest X G) F) (some (.inl (.inr (.inr (.inr (.inr (.inl ((v1, κ)))))))))) : zW X G 4 138 [some (zR 42), some (zI v1), none, none] [] κ := h
theorem k_M_digest_76 {X : zX} {G : zG} {F : (Int × zM) → Prop} {v1 v2 v3 : Int} {κ : zM} (h : zP (Sum.elim (k_M_digest X G) F) (some (.inl (.inr (.inr (.inr (.inr (.inr (.inl ((v1, v2, v3, κ))))))))))) : zW X G 4 76 [some (zR 42), some (zI v1), some (zI v2), some (zI v3)] [] κ := h
theorem k_M_digest_197 {X : zX} {G : zG} {F : (Int × zM) → Prop} {v1 : Int} {κ : zM} (h : zP (Sum.elim (k_M_digest X G) F) (some (.inl (.inr (.inr (.inr (.inr (.inr (.inr (.inl ((v1, κ)))))))))))) : zW X G 4 197 [some (zR 42), some (zI v1), none, none] [] κ := h
theorem k_M_digest_157 {X : zX} {G : zG} {F : (Int × zM) → Prop} {v1 v2 : Int} {κ : zM} (h : zP (Sum.elim (k_M_digest X G) F) (some (.inl (.inr (.inr (.inr (.inr (.inr (.inr (.inr (.inl ((v1, v2, κ))))))))))))) : zW X G 4 157 [some (zR 42), some (zI v1), some (zI v2), none] [] κ := h
theorem k_M_digest_215 {X : zX} {G : zG} {F : (Int × zM) → Prop} {v1 v2 : Int} {κ : zM} (h : zP (Sum.elim (k_M_digest X G) F) (some (.inl (.inr (.inr (.inr (.inr (.inr (.inr (.inr (.inr ((v1, v2, κ))))))))))))) : zW X G 4 215 [some (zR 42), some (zI v1), some (zI v2), none] [] κ := h
set_option maxRecDepth 100000 in
set_option maxHeartbeats 4000000 in
theorem w_M_digest_9 {X : zX} {G : zG} {μ : zM} {rv : Option zV} {ν : zM} (hX : zOk X G cX6_digest RX6 4 (some .long) 7) (hF : zFin X G rv ν) {v1 : Int} (h : zP (Sum.elim (k_M_digest X G) (fun r : (Int × zM) => (some (zJ r.1), r.2) = (rv, ν))) (b_M_digest_9 v1 μ)) : zW X G 4 9 [some (zR 42), some (zI v1), none, none] [] μ := by
  refine zr_iload_n hX dX6_digest_9 rfl rfl ?_
  refine zr_bipush hX dX6_digest_10 rfl ?_
  refine zr_icmpge (tgt := 31) hX dX6_digest_12 rfl h (fun h => ?_) (fun h => ?_)
  · refine zr_aload_n hX dX6_digest_31 rfl rfl ?_
    refine zP_bind h (fun q1 hq1 h => ?_)
    refine zr_callV hX dX6_digest_32 (m_M_layLamps hq1) rfl rfl rfl (z5 ww_1009 ww_1011 ww_29 ww_75 ww_1012) hy_X6_layLamps rfl (Nat.le_of_ble_eq_true rfl) (Nat.le_of_ble_eq_true rfl) (Nat.le_of_ble_eq_true rfl) ?_
    refine zr_iconst hX dX6_digest_35 (zrl rfl) ?_
    refine zr_istore_n hX dX6_digest_36 rfl (Nat.le_of_ble_eq_true rfl) ?_
    exact zW_lf (k_M_digest_37 h) (And.intro rfl (And.intro rfl trivial))
  · refine zr_aload_n hX dX6_digest_15 rfl rfl ?_
    refine zr_aload_n hX dX6_digest_16 rfl rfl ?_
    refine zr_iload_n hX dX6_digest_17 rfl rfl ?_
    refine zP_bind h (fun q2 hq2 h => ?_)
    refine zr_callV hX dX6_digest_18 (m_M_count hq2) rfl rfl rfl (z5 ww_1339 ww_1312 ww_1313 ww_75 ww_1314) hy_X6_count rfl (Nat.le_of_ble_eq_true rfl) (Nat.le_of_ble_eq_true rfl) (Nat.le_of_ble_eq_true rfl) ?_
    refine zr_i2l hX dX6_digest_21 ?_
    refine zP_bind h (fun q3 hq3 h => ?_)
    refine zr_callV hX dX6_digest_22 (m_M_mix hq3) rfl rfl rfl (z5 ww_1340 ww_1342 ww_66 ww_75 ww_1343) hy_X6_mix rfl (Nat.le_of_ble_eq_true rfl) (Nat.le_of_ble_eq_true rfl) (Nat.le_of_ble_eq_true rfl) ?_
    refine zr_iinc hX dX6_digest_25 rfl (Nat.le_of_ble_eq_true rfl) ?_
    refine zr_goto hX dX6_digest_28 (tgt := 9) rfl ?_
    exact zW_lf (k_M_digest_9 h) (And.intro rfl (And.intro rfl trivial))
set_option maxRecDepth 100000 in
set_option maxHeartbeats 4000000 in
theorem w_M_digest_37 {X : zX} {G : zG} {μ : zM} {rv : Option zV} {ν : zM} (hX : zOk X G cX6_digest RX6 4 (some .long) 7) (hF : zFin X G rv ν) {v1 : Int} (h : zP (Sum.elim (k_M_digest X G) (fun r : (Int × zM) => (some (zJ r.1), r.2) = (rv, ν))) (b_M_digest_37 v1 μ)) : zW X G 4 37 [some (zR 42), some (zI v1), none, none] [] μ := by
  refine zr_iload_n hX dX6_digest_37 rfl rfl ?_
  refine zr_aload_n hX dX6_digest_38 rfl rfl ?_
  refine zr_getr hX dX6_digest_39 (k := 0) (q := 43) rfl rfl ww_841 rfl ?_
  refine zr_iconst hX dX6_digest_42 (zrl rfl) ?_
  refine zr_ialdc hX dX6_digest_43 (N := 10956) rfl rfl rfl ?_
  refine zr_icmpge (tgt := 112) hX dX6_digest_44 rfl h (fun h => ?_) (fun h => ?_)
  · refine zr_iconst hX dX6_digest_112 (zrl rfl) ?_
    refine zr_istore_n hX dX6_digest_113 rfl (Nat.le_of_ble_eq_true rfl) ?_
    exact zW_lf (k_M_digest_114 h) (And.intro rfl (And.intro rfl trivial))
  · refine zr_aload_n hX dX6_digest_47 rfl rfl ?_
    refine zr_aload_n hX dX6_digest_48 rfl rfl ?_
    refine zr_getr hX dX6_digest_49 (k := 0) (q := 43) rfl rfl ww_841 rfl ?_
    refine zr_iconst hX dX6_digest_52 (zrl rfl) ?_
    refine zr_iload_n hX dX6_digest_53 rfl rfl ?_
    refine zr_iadd hX dX6_digest_54 ?_
    refine zr_iald (N := 10956) hX dX6_digest_55 rfl rfl h (fun h => ?_)
    refine zr_i2l hX dX6_digest_56 ?_
    refine zP_bind h (fun q4 hq4 h => ?_)
    refine zr_callV hX dX6_digest_57 (m_M_mix hq4) rfl rfl rfl (z5 ww_1340 ww_1342 ww_66 ww_75 ww_1343) hy_X6_mix rfl (Nat.le_of_ble_eq_true rfl) (Nat.le_of_ble_eq_true rfl) (Nat.le_of_ble_eq_true rfl) ?_
    refine zr_iconst hX dX6_digest_60 (zrl rfl) ?_
    refine zr_istore_n hX dX6_digest_61 rfl (Nat.le_of_ble_eq_true rfl) ?_
    exact zW_lf (k_M_digest_62 h) (And.intro rfl (And.intro rfl (And.intro rfl trivial)))
set_option maxRecDepth 100000 in
set_option maxHeartbeats 4000000 in
theorem w_M_digest_114 {X : zX} {G : zG} {μ : zM} {rv : Option zV} {ν : zM} (hX : zOk X G cX6_digest RX6 4 (some .long) 7) (hF : zFin X G rv ν) {v1 : Int} (h : zP (Sum.elim (k_M_digest X G) (fun r : (Int × zM) => (some (zJ r.1), r.2) = (rv, ν))) (b_M_digest_114 v1 μ)) : zW X G 4 114 [some (zR 42), some (zI v1), none, none] [] μ := by
  refine zr_iload_n hX dX6_digest_114 rfl rfl ?_
  refine zr_iconst hX dX6_digest_115 (zrl rfl) ?_
  refine zr_icmpge (tgt := 136) hX dX6_digest_116 rfl h (fun h => ?_) (fun h => ?_)
  · refine zr_iconst hX dX6_digest_136 (zrl rfl) ?_
    refine zr_istore_n hX dX6_digest_137 rfl (Nat.le_of_ble_eq_true rfl) ?_
    exact zW_lf (k_M_digest_138 h) (And.intro rfl (And.intro rfl trivial))
  · refine zr_aload_n hX dX6_digest_119 rfl rfl ?_
    refine zr_aload_n hX dX6_digest_120 rfl rfl ?_
    refine zr_getr hX dX6_digest_121 (k := 2) (q := 44) rfl rfl ww_843 rfl ?_
    refine zr_iload_n hX dX6_digest_124 rfl rfl ?_
    refine zr_iald (N := 3) hX dX6_digest_125 rfl rfl h (fun h => ?_)
    refine zr_i2l hX dX6_digest_126 ?_
    refine zP_bind h (fun q5 hq5 h => ?_)
    refine zr_callV hX dX6_digest_127 (m_M_mix hq5) rfl rfl rfl (z5 ww_1340 ww_1342 ww_66 ww_75 ww_1343) hy_X6_mix rfl (Nat.le_of_ble_eq_true rfl) (Nat.le_of_ble_eq_true rfl) (Nat.le_of_ble_eq_true rfl) ?_
    refine zr_iinc hX dX6_digest_130 rfl (Nat.le_of_ble_eq_true rfl) ?_
    refine zr_goto hX dX6_digest_133 (tgt := 114) rfl ?_
    exact zW_lf (k_M_digest_114 h) (And.intro rfl (And.intro rfl trivial))
set_option maxRecDepth 100000 in
set_option maxHeartbeats 4000000 in
theorem w_M_digest_62 {X : zX} {G : zG} {μ : zM} {rv : Option zV} {ν : zM} (hX : zOk X G cX6_digest RX6 4 (some .long) 7) (hF : zFin X G rv ν) {v1 v2 : Int} (h : zP (Sum.elim (k_M_digest X G) (fun r : (Int × zM) => (some (zJ r.1), r.2) = (rv, ν))) (b_M_digest_62 v1 v2 μ)) : zW X G 4 62 [some (zR 42), some (zI v1), some (zI v2), none] [] μ := by
  refine zr_iload_n hX dX6_digest_62 rfl rfl ?_
  refine zr_aload_n hX dX6_digest_63 rfl rfl ?_
  refine zr_getr hX dX6_digest_64 (k := 0) (q := 43) rfl rfl ww_841 rfl ?_
  refine zr_iconst hX dX6_digest_67 (zrl rfl) ?_
  refine zr_iload_n hX dX6_digest_68 rfl rfl ?_
  refine zr_iadd hX dX6_digest_69 ?_
  refine zr_iald (N := 10956) hX dX6_digest_70 rfl rfl h (fun h => ?_)
  refine zr_icmpge (tgt := 106) hX dX6_digest_71 rfl h (fun h => ?_) (fun h => ?_)
  · refine zr_iinc hX dX6_digest_106 rfl (Nat.le_of_ble_eq_true rfl) ?_
    refine zr_goto hX dX6_digest_109 (tgt := 37) rfl ?_
    exact zW_lf (k_M_digest_37 h) (And.intro rfl (And.intro rfl trivial))
  · refine zr_iconst hX dX6_digest_74 (zrl rfl) ?_
    refine zr_istore_n hX dX6_digest_75 rfl (Nat.le_of_ble_eq_true rfl) ?_
    exact zW_lf (k_M_digest_76 h) (And.intro rfl (And.intro rfl (And.intro rfl (And.intro rfl trivial))))
set_option maxRecDepth 100000 in
set_option maxHeartbeats 4000000 in
theorem w_M_digest_138 {X : zX} {G : zG} {μ : zM} {rv : Option zV} {ν : zM} (hX : zOk X G cX6_digest RX6 4 (some .long) 7) (hF : zFin X G rv ν) {v1 : Int} (h : zP (Sum.elim (k_M_digest X G) (fun r : (Int × zM) => (some (zJ r.1), r.2) = (rv, ν))) (b_M_digest_138 v1 μ)) : zW X G 4 138 [some (zR 42), some (zI v1), none, none] [] μ := by
  refine zr_iload_n hX dX6_digest_138 rfl rfl ?_
  refine zr_bipush hX dX6_digest_139 rfl ?_
  refine zr_icmpge (tgt := 195) hX dX6_digest_141 rfl h (fun h => ?_) (fun h => ?_)
  · refine zr_iconst hX dX6_digest_195 (zrl rfl) ?_
    refine zr_istore_n hX dX6_digest_196 rfl (Nat.le_of_ble_eq_true rfl) ?_
    exact zW_lf (k_M_digest_197 h) (And.intro rfl (And.intro rfl trivial))
  · refine zr_aload_n hX dX6_digest_144 rfl rfl ?_
    refine zr_aload_n hX dX6_digest_145 rfl rfl ?_
    refine zr_getr hX dX6_digest_146 (k := 4) (q := 46) rfl rfl ww_845 rfl ?_
    refine zr_iload_n hX dX6_digest_149 rfl rfl ?_
    refine zr_iald (N := 6) hX dX6_digest_150 rfl rfl h (fun h => ?_)
    refine zr_i2l hX dX6_digest_151 ?_
    refine zP_bind h (fun q6 hq6 h => ?_)
    refine zr_callV hX dX6_digest_152 (m_M_mix hq6) rfl rfl rfl (z5 ww_1340 ww_1342 ww_66 ww_75 ww_1343) hy_X6_mix rfl (Nat.le_of_ble_eq_true rfl) (Nat.le_of_ble_eq_true rfl) (Nat.le_of_ble_eq_true rfl) ?_
    refine zr_iconst hX dX6_digest_155 (zrl rfl) ?_
    refine zr_istore_n hX dX6_digest_156 rfl (Nat.le_of_ble_eq_true rfl) ?_
    exact zW_lf (k_M_digest_157 h) (And.intro rfl (And.intro rfl (And.intro rfl trivial)))
set_option maxRecDepth 100000 in
set_option maxHeartbeats 4000000 in
theorem w_M_digest_76 {X : zX} {G : zG} {μ : zM} {rv : Option zV} {ν : zM} (hX : zOk X G cX6_digest RX6 4 (some .long) 7) (hF : zFin X G rv ν) {v1 v2 v3 : Int} (h : zP (Sum.elim (k_M_digest X G) (fun r : (Int × zM) => (some (zJ r.1), r.2) = (rv, ν))) (b_M_digest_76 v1 v2 v3 μ)) : zW X G 4 76 [some (zR 42), some (zI v1), some (zI v2), some (zI v3)] [] μ := by
  refine zr_iload_n hX dX6_digest_76 rfl rfl ?_
  refine zr_bipush hX dX6_digest_77 rfl ?_
  refine zr_icmpge (tgt := 100) hX dX6_digest_79 rfl h (fun h => ?_) (fun h => ?_)
  · refine zr_iinc hX dX6_digest_100 rfl (Nat.le_of_ble_eq_true rfl) ?_
    refine zr_goto hX dX6_digest_103 (tgt := 62) rfl ?_
    exact zW_lf (k_M_digest_62 h) (And.intro rfl (And.intro rfl (And.intro rfl trivial)))
  · refine zr_aload_n hX dX6_digest_82 rfl rfl ?_
    refine zr_aload_n hX dX6_digest_83 rfl rfl ?_
    refine zr_iload_n hX dX6_digest_84 rfl rfl ?_
    refine zr_iload_n hX dX6_digest_85 rfl rfl ?_
    refine zr_iload_n hX dX6_digest_86 rfl rfl ?_
    refine zP_bind h (fun q7 hq7 h => ?_)
    refine zr_callV hX dX6_digest_87 (m_M_houseTells hq7) rfl rfl rfl (z5 ww_1046 ww_1048 ww_36 ww_75 ww_1049) hy_X6_houseTells rfl (Nat.le_of_ble_eq_true rfl) (Nat.le_of_ble_eq_true rfl) (Nat.le_of_ble_eq_true rfl) ?_
    refine zr_i2l hX dX6_digest_90 ?_
    refine zP_bind h (fun q8 hq8 h => ?_)
    refine zr_callV hX dX6_digest_91 (m_M_mix hq8) rfl rfl rfl (z5 ww_1340 ww_1342 ww_66 ww_75 ww_1343) hy_X6_mix rfl (Nat.le_of_ble_eq_true rfl) (Nat.le_of_ble_eq_true rfl) (Nat.le_of_ble_eq_true rfl) ?_
    refine zr_iinc hX dX6_digest_94 rfl (Nat.le_of_ble_eq_true rfl) ?_
    refine zr_goto hX dX6_digest_97 (tgt := 76) rfl ?_
    exact zW_lf (k_M_digest_76 h) (And.intro rfl (And.intro rfl (And.intro rfl (And.intro rfl trivial))))
set_option maxRecDepth 100000 in
set_option maxHeartbeats 4000000 in
theorem w_M_digest_197 {X : zX} {G : zG} {μ : zM} {rv : Option zV} {ν : zM} (hX : zOk X G cX6_digest RX6 4 (some .long) 7) (hF : zFin X G rv ν) {v1 : Int} (h : zP (Sum.elim (k_M_digest X G) (fun r : (Int × zM) => (some (zJ r.1), r.2) = (rv, ν))) (b_M_digest_197 v1 μ)) : zW X G 4 197 [some (zR 42), some (zI v1), none, none] [] μ := by
  refine zr_iload_n hX dX6_digest_197 rfl rfl ?_
  refine zr_iconst hX dX6_digest_198 (zrl rfl) ?_
  refine zr_icmpge (tgt := 253) hX dX6_digest_199 rfl h (fun h => ?_) (fun h => ?_)
  · refine zr_aload_n hX dX6_digest_253 rfl rfl ?_
    refine zr_getj hX dX6_digest_254 (k := 18) rfl rfl ww_859 ?_
    exact zr_lret hX dX6_digest_257 hF h
  · refine zr_aload_n hX dX6_digest_202 rfl rfl ?_
    refine zr_aload_n hX dX6_digest_203 rfl rfl ?_
    refine zr_getr hX dX6_digest_204 (k := 6) (q := 48) rfl rfl ww_847 rfl ?_
    refine zr_iload_n hX dX6_digest_207 rfl rfl ?_
    refine zr_iald (N := 4) hX dX6_digest_208 rfl rfl h (fun h => ?_)
    refine zr_i2l hX dX6_digest_209 ?_
    refine zP_bind h (fun q9 hq9 h => ?_)
    refine zr_callV hX dX6_digest_210 (m_M_mix hq9) rfl rfl rfl (z5 ww_1340 ww_1342 ww_66 ww_75 ww_1343) hy_X6_mix rfl (Nat.le_of_ble_eq_true rfl) (Nat.le_of_ble_eq_true rfl) (Nat.le_of_ble_eq_true rfl) ?_
    refine zr_iconst hX dX6_digest_213 (zrl rfl) ?_
    refine zr_istore_n hX dX6_digest_214 rfl (Nat.le_of_ble_eq_true rfl) ?_
    exact zW_lf (k_M_digest_215 h) (And.intro rfl (And.intro rfl (And.intro rfl trivial)))
set_option maxRecDepth 100000 in
set_option maxHeartbeats 4000000 in
theorem w_M_digest_157 {X : zX} {G : zG} {μ : zM} {rv : Option zV} {ν : zM} (hX : zOk X G cX6_digest RX6 4 (some .long) 7) (hF : zFin X G rv ν) {v1 v2 : Int} (h : zP (Sum.elim (k_M_digest X G) (fun r : (Int × zM) => (some (zJ r.1), r.2) = (rv, ν))) (b_M_digest_157 v1 v2 μ)) : zW X G 4 157 [some (zR 42), some (zI v1), some (zI v2), none] [] μ := by
  refine zr_iload_n hX dX6_digest_157 rfl rfl ?_
  refine zr_aload_n hX dX6_digest_158 rfl rfl ?_
  refine zr_getr hX dX6_digest_159 (k := 4) (q := 46) rfl rfl ww_845 rfl ?_
  refine zr_iload_n hX dX6_digest_162 rfl rfl ?_
  refine zr_iald (N := 6) hX dX6_digest_163 rfl rfl h (fun h => ?_)
  refine zr_icmpge (tgt := 189) hX dX6_digest_164 rfl h (fun h => ?_) (fun h => ?_)
  · refine zr_iinc hX dX6_digest_189 rfl (Nat.le_of_ble_eq_true rfl) ?_
    refine zr_goto hX dX6_digest_192 (tgt := 138) rfl ?_
    exact zW_lf (k_M_digest_138 h) (And.intro rfl (And.intro rfl trivial))
  · refine zr_aload_n hX dX6_digest_167 rfl rfl ?_
    refine zr_aload_n hX dX6_digest_168 rfl rfl ?_
    refine zr_getr hX dX6_digest_169 (k := 3) (q := 45) rfl rfl ww_844 rfl ?_
    refine zr_bipush hX dX6_digest_172 rfl ?_
    refine zr_iload_n hX dX6_digest_174 rfl rfl ?_
    refine zr_imul hX dX6_digest_175 ?_
    refine zr_iload_n hX dX6_digest_176 rfl rfl ?_
    refine zr_iadd hX dX6_digest_177 ?_
    refine zr_iald (N := 240) hX dX6_digest_178 rfl rfl h (fun h => ?_)
    refine zr_i2l hX dX6_digest_179 ?_
    refine zP_bind h (fun q10 hq10 h => ?_)
    refine zr_callV hX dX6_digest_180 (m_M_mix hq10) rfl rfl rfl (z5 ww_1340 ww_1342 ww_66 ww_75 ww_1343) hy_X6_mix rfl (Nat.le_of_ble_eq_true rfl) (Nat.le_of_ble_eq_true rfl) (Nat.le_of_ble_eq_true rfl) ?_
    refine zr_iinc hX dX6_digest_183 rfl (Nat.le_of_ble_eq_true rfl) ?_
    refine zr_goto hX dX6_digest_186 (tgt := 157) rfl ?_
    exact zW_lf (k_M_digest_157 h) (And.intro rfl (And.intro rfl (And.intro rfl trivial)))
set_option maxRecDepth 100000 in
set_option maxHeartbeats 4000000 in
theorem w_M_digest_215 {X : zX} {G : zG} {μ : zM} {rv : Option zV} {ν : zM} (hX : zOk X G cX6_digest RX6 4 (some .long) 7) (hF : zFin X G rv ν) {v1 v2 : Int} (h : zP (Sum.elim (k_M_digest X G) (fun r : (Int × zM) => (some (zJ r.1), r.2) = (rv, ν))) (b_M_digest_215 v1 v2 μ)) : zW X G 4 215 [some (zR 42), some (zI v1), some (zI v2), none] [] μ := by
  refine zr_iload_n hX dX6_digest_215 rfl rfl ?_
  refine zr_aload_n hX dX6_digest_216 rfl rfl ?_
  refine zr_getr hX dX6_digest_217 (k := 6) (q := 48) rfl rfl ww_847 rfl ?_
  refine zr_iload_n hX dX6_digest_220 rfl rfl ?_
  refine zr_iald (N := 4) hX dX6_digest_221 rfl rfl h (fun h => ?_)
  refine zr_icmpge (tgt := 247) hX dX6_digest_222 rfl h (fun h => ?_) (fun h => ?_)
  · refine zr_iinc hX dX6_digest_247 rfl (Nat.le_of_ble_eq_true rfl) ?_
    refine zr_goto hX dX6_digest_250 (tgt := 197) rfl ?_
    exact zW_lf (k_M_digest_197 h) (And.intro rfl (And.intro rfl trivial))
  · refine zr_aload_n hX dX6_digest_225 rfl rfl ?_
    refine zr_aload_n hX dX6_digest_226 rfl rfl ?_
    refine zr_getr hX dX6_digest_227 (k := 5) (q := 47) rfl rfl ww_846 rfl ?_
    refine zr_bipush hX dX6_digest_230 rfl ?_
    refine zr_iload_n hX dX6_digest_232 rfl rfl ?_
    refine zr_imul hX dX6_digest_233 ?_
    refine zr_iload_n hX dX6_digest_234 rfl rfl ?_
    refine zr_iadd hX dX6_digest_235 ?_
    refine zr_iald (N := 240) hX dX6_digest_236 rfl rfl h (fun h => ?_)
    refine zr_i2l hX dX6_digest_237 ?_
    refine zP_bind h (fun q11 hq11 h => ?_)
    refine zr_callV hX dX6_digest_238 (m_M_mix hq11) rfl rfl rfl (z5 ww_1340 ww_1342 ww_66 ww_75 ww_1343) hy_X6_mix rfl (Nat.le_of_ble_eq_true rfl) (Nat.le_of_ble_eq_true rfl) (Nat.le_of_ble_eq_true rfl) ?_
    refine zr_iinc hX dX6_digest_241 rfl (Nat.le_of_ble_eq_true rfl) ?_
    refine zr_goto hX dX6_digest_244 (tgt := 215) rfl ?_
    exact zW_lf (k_M_digest_215 h) (And.intro rfl (And.intro rfl (And.intro rfl trivial)))
set_option maxRecDepth 100000 in
set_option maxHeartbeats 4000000 in
theorem w_M_digest_e {X : zX} {G : zG} {μ : zM} {rv : Option zV} {ν : zM} (hX : zOk X G cX6_digest RX6 4 (some .long) 7) (hF : zFin X G rv ν) (h : zP (Sum.elim (k_M_digest X G) (fun r : (Int × zM) => (some (zJ r.1), r.2) = (rv, ν))) (e_M_digest μ)) : zW X G 4 0 [some (zR 42), none, none, none] [] μ := by
  refine zr_aload_n hX dX6_digest_0 rfl rfl ?_
  refine zr_ldc2 hX dX6_digest_1 ww_1338 rfl (zrlJ rfl) ?_
  refine zr_putj hX dX6_digest_4 (k := 18) rfl rfl ww_859 rfl (by decide +kernel) ?_
  refine zr_iconst hX dX6_digest_7 (zrl rfl) ?_
  refine zr_istore_n hX dX6_digest_8 rfl (Nat.le_of_ble_eq_true rfl) ?_
  exact zW_lf (k_M_digest_9 h) (And.intro rfl (And.intro rfl trivial))
set_option maxRecDepth 100000 in
theorem m_M_digest {l : Launch} {G : zG} {μ : zM} {q : Int × zM} (hq : f_M_digest μ = some q) : zCT l G yX6_digest cX6_digest 4 (some .long) 7 [zR 42] μ (some (zJ q.1)) q.2 := by
  refine zMet (lv := [some (zR 42), none, none, none]) (k := 3) pl_X6 rfl (Nat.le_of_ble_eq_true rfl) (fun X hl hX hF _ _ => ?_)
  refine w_M_digest_e hX hF (zgo_K (r := q) (step := t_M_digest) (fun s h => ?_) rfl hq)
  cases s with
  | inl s => exact w_M_digest_9 hX hF h
  | inr s =>
    cases s with
    | inl s => exact w_M_digest_37 hX hF h
    | inr s =>
      cases s with
      | inl s => exact w_M_digest_114 hX hF h
      | inr s =>
        cases s with
        | inl s => exact w_M_digest_62 hX hF h
        | inr s =>
          cases s with
          | inl s => exact w_M_digest_138 hX hF h
          | inr s =>
            cases s with
            | inl s => exact w_M_digest_76 hX hF h
            | inr s =>
              cases s with
              | inl s => exact w_M_digest_197 hX hF h
              | inr s =>
                cases s with
                | inl s => exact w_M_digest_157 hX hF h
                | inr s => exact w_M_digest_215 hX hF h
