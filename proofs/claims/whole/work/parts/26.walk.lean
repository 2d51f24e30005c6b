def k_M_lightened (X : zX) (G : zG) (v1 : Int) (v2 : Int) (μ : zM) : (Int × Int) → Prop := fun s => zW X G 5 5 [some (zR 42), some (zI v1), some (zI v2), some (zI s.1), some (zI s.2)] [] μ
theorem k_M_lightened_5 {X : zX} {G : zG} {v1 : Int} {v2 : Int} {μ : zM} {F : Int → Prop} {v3 v4 : Int} (h : zP (Sum.elim (k_M_lightened X G v1 v2 μ) F) (some (.inl ((v3, v4))))) : zW X G 5 5 [some (zR 42), some (zI v1), some (zI v2), some (zI v3), some (zI v4)] [] μ := h
set_option maxRecDepth 100000 in
set_option maxHeartbeats 4000000 in
theorem w_M_lightened_5 {X : zX} {G : zG} {v1 : Int} {v2 : Int} {μ : zM} {rv : Option zV} {ν : zM} (hX : zOk X G cX6_lightened RX6 5 (some .int) 4) (hF : zFin X G rv ν) {v3 v4 : Int} (h : zP (Sum.elim (k_M_lightened X G v1 v2 μ) (fun r : Int => (some (zI r), μ) = (rv, ν))) (b_M_lightened_5 v1 v2 v3 v4 μ)) : zW X G 5 5 [some (zR 42), some (zI v1), some (zI v2), some (zI v3), some (zI v4)] [] μ := by
  refine zr_iload hX dX6_lightened_5 rfl ?_
  refine zr_iload_n hX dX6_lightened_7 rfl rfl ?_
  refine zr_icmpge (tgt := 47) hX dX6_lightened_8 rfl h (fun h => ?_) (fun h => ?_)
  · refine zr_iload_n hX dX6_lightened_47 rfl rfl ?_
    exact zr_iret hX dX6_lightened_48 hF h
  · refine zr_iload_n hX dX6_lightened_11 rfl rfl ?_
    refine zr_aload_n hX dX6_lightened_12 rfl rfl ?_
    refine zr_iload_n hX dX6_lightened_13 rfl rfl ?_
    refine zr_iload hX dX6_lightened_14 rfl ?_
    refine zP_bind h (fun q1 hq1 h => ?_)
    refine zr_callV hX dX6_lightened_16 (m_M_hoursOf hq1) rfl rfl rfl (z5 ww_1083 ww_1085 ww_44 ww_77 ww_1086) hy_X6_hoursOf rfl (Nat.le_of_ble_eq_true rfl) (Nat.le_of_ble_eq_true rfl) (Nat.le_of_ble_eq_true rfl) ?_
    refine zP_bind h (fun q2 hq2 h => ?_)
    refine zr_callS hX dX6_lightened_19 (m_M_ones hq2) rfl (z4 ww_1087 ww_1088 ww_77 ww_1089) hy_X6_ones rfl (Nat.le_of_ble_eq_true rfl) (Nat.le_of_ble_eq_true rfl) (Nat.le_of_ble_eq_true rfl) ?_
    refine zr_aload_n hX dX6_lightened_22 rfl rfl ?_
    refine zr_iload_n hX dX6_lightened_23 rfl rfl ?_
    refine zr_iload hX dX6_lightened_24 rfl ?_
    refine zP_bind h (fun q3 hq3 h => ?_)
    refine zr_callV hX dX6_lightened_26 (m_M_lampsOver hq3) rfl rfl rfl (z5 ww_1090 ww_1092 ww_45 ww_77 ww_1093) hy_X6_lampsOver rfl (Nat.le_of_ble_eq_true rfl) (Nat.le_of_ble_eq_true rfl) (Nat.le_of_ble_eq_true rfl) ?_
    refine zr_iadd hX dX6_lightened_29 ?_
    refine zr_iconst hX dX6_lightened_30 (zrl rfl) ?_
    refine zr_icmpgt (tgt := 38) hX dX6_lightened_31 rfl h (fun h => ?_) (fun h => ?_)
    · refine zr_iconst hX dX6_lightened_38 (zrl rfl) ?_
      refine zr_iadd hX dX6_lightened_39 ?_
      refine zr_istore_n hX dX6_lightened_40 rfl (Nat.le_of_ble_eq_true rfl) ?_
      refine zr_iinc hX dX6_lightened_41 rfl (Nat.le_of_ble_eq_true rfl) ?_
      refine zr_goto hX dX6_lightened_44 (tgt := 5) rfl ?_
      exact zW_lf (k_M_lightened_5 h) (And.intro rfl (And.intro rfl (And.intro rfl (And.intro rfl (And.intro rfl trivial)))))
    · refine zr_iconst hX dX6_lightened_34 (zrl rfl) ?_
      refine zr_goto hX dX6_lightened_35 (tgt := 39) rfl ?_
      refine zr_iadd hX dX6_lightened_39 ?_
      refine zr_istore_n hX dX6_lightened_40 rfl (Nat.le_of_ble_eq_true rfl) ?_
      refine zr_iinc hX dX6_lightened_41 rfl (Nat.le_of_ble_eq_true rfl) ?_
      refine zr_goto hX dX6_lightened_44 (tgt := 5) rfl ?_
      exact zW_lf (k_M_lightened_5 h) (And.intro rfl (And.intro rfl (And.intro rfl (And.intro rfl (And.intro rfl trivial)))))
set_option maxRecDepth 100000 in
set_option maxHeartbeats 4000000 in
theorem w_M_lightened_e {X : zX} {G : zG} {v1 : Int} {v2 : Int} {μ : zM} {rv : Option zV} {ν : zM} (hX : zOk X G cX6_lightened RX6 5 (some .int) 4) (hF : zFin X G rv ν) (h : zP (Sum.elim (k_M_lightened X G v1 v2 μ) (fun r : Int => (some (zI r), μ) = (rv, ν))) (e_M_lightened v1 v2 μ)) : zW X G 5 0 [some (zR 42), some (zI v1), some (zI v2), none, none] [] μ := by
  refine zr_iconst hX dX6_lightened_0 (zrl rfl) ?_
  refine zr_istore_n hX dX6_lightened_1 rfl (Nat.le_of_ble_eq_true rfl) ?_
  refine zr_iconst hX dX6_lightened_2 (zrl rfl) ?_
  refine zr_istore hX dX6_lightened_3 (Nat.le_of_ble_eq_true rfl) ?_
  exact zW_lf (k_M_lightened_5 h) (And.intro rfl (And.intro rfl (And.intro rfl (And.intro rfl (And.intro rfl trivial)))))
set_option maxRecDepth 100000 in
theorem m_M_lightened {l : Launch} {G : zG} {v1 : Int} {v2 : Int} {μ : zM} {q : Int} (hq : f_M_lightened v1 v2 μ = some q) : zCT l G yX6_lightened cX6_lightened 5 (some .int) 4 [zR 42, zI v1, zI v2] μ (some (zI q)) μ := by
  refine zMet (lv := [some (zR 42), some (zI v1), some (zI v2), none, none]) (k := 2) pl_X6 rfl (Nat.le_of_ble_eq_true rfl) (fun X hl hX hF _ _ => ?_)
  refine w_M_lightened_e hX hF (zgo_K (r := q) (step := t_M_lightened v1 v2 μ) (fun s h => ?_) rfl hq)
  exact w_M_lightened_5 hX hF h
set_option maxRecDepth 100000 in
set_option maxHeartbeats 4000000 in
theorem w_M_mark_e {X : zX} {G : zG} {v1 : Int} {v2 : Int} {v3 : Int} {μ : zM} {rv : Option zV} {ν : zM} (hX : zOk X G cX6_mark RX6 4 (some .int) 5) (hF : zFin X G rv ν) (h : zP (fun r : (Int × zM) => (some (zI r.1), r.2) = (rv, ν)) (f_M_mark v1 v2 v3 μ)) : zW X G 4 0 [some (zR 42), some (zI v1), some (zI v2), some (zI v3)] [] μ := by
  refine zr_aload_n hX dX6_mark_0 rfl rfl ?_
  refine zr_iload_n hX dX6_mark_1 rfl rfl ?_
  refine zr_iload_n hX dX6_mark_2 rfl rfl ?_
  refine zr_callV hX dX6_mark_3 (m_M_isTold) rfl rfl rfl (z5 ww_1010 ww_1012 ww_29 ww_77 ww_1013) hy_X6_isTold rfl (Nat.le_of_ble_eq_true rfl) (Nat.le_of_ble_eq_true rfl) (Nat.le_of_ble_eq_true rfl) ?_
  refine zr_ifeq (tgt := 21) hX dX6_mark_6 rfl h (fun h => ?_) (fun h => ?_)
  · refine zr_iconst hX dX6_mark_21 (zrl rfl) ?_
    exact zr_iret hX dX6_mark_22 hF h
  · refine zr_iload_n hX dX6_mark_9 rfl rfl ?_
    refine zr_i2l hX dX6_mark_10 ?_
    refine zr_lconst hX dX6_mark_11 (n := 1) rfl (zrlJ rfl) ?_
    refine zr_ldc2 hX dX6_mark_12 ww_917 rfl (zrlJ rfl) ?_
    refine zr_callS hX dX6_mark_15 (m_M_in) rfl (z4 ww_918 ww_919 ww_77 ww_920) hy_X6_in rfl (Nat.le_of_ble_eq_true rfl) (Nat.le_of_ble_eq_true rfl) (Nat.le_of_ble_eq_true rfl) ?_
    refine zr_ifne (tgt := 23) hX dX6_mark_18 rfl h (fun h => ?_) (fun h => ?_)
    · refine zr_aload_n hX dX6_mark_23 rfl rfl ?_
      refine zr_iload_n hX dX6_mark_24 rfl rfl ?_
      refine zr_iload_n hX dX6_mark_25 rfl rfl ?_
      refine zP_bind h (fun q1 hq1 h => ?_)
      refine zr_callV hX dX6_mark_26 (m_M_isThere hq1) rfl rfl rfl (z5 ww_1015 ww_1017 ww_30 ww_77 ww_1018) hy_X6_isThere rfl (Nat.le_of_ble_eq_true rfl) (Nat.le_of_ble_eq_true rfl) (Nat.le_of_ble_eq_true rfl) ?_
      refine zr_ifne (tgt := 38) hX dX6_mark_29 rfl h (fun h => ?_) (fun h => ?_)
      · refine zr_aload_n hX dX6_mark_38 rfl rfl ?_
        refine zr_iload_n hX dX6_mark_39 rfl rfl ?_
        refine zr_iload_n hX dX6_mark_40 rfl rfl ?_
        refine zP_bind h (fun q2 hq2 h => ?_)
        refine zr_callV hX dX6_mark_41 (m_M_kindAt hq2) rfl rfl rfl (z5 ww_1039 ww_1041 ww_36 ww_77 ww_1042) hy_X6_kindAt rfl (Nat.le_of_ble_eq_true rfl) (Nat.le_of_ble_eq_true rfl) (Nat.le_of_ble_eq_true rfl) ?_
        refine zr_iload_n hX dX6_mark_44 rfl rfl ?_
        refine zP_bind h (fun q3 hq3 h => ?_)
        refine zr_callS hX dX6_mark_45 (m_M_isOf hq3) rfl (z4 ww_1109 ww_1110 ww_77 ww_1111) hy_X6_isOf rfl (Nat.le_of_ble_eq_true rfl) (Nat.le_of_ble_eq_true rfl) (Nat.le_of_ble_eq_true rfl) ?_
        refine zr_ifne (tgt := 57) hX dX6_mark_48 rfl h (fun h => ?_) (fun h => ?_)
        · refine zr_iload_n hX dX6_mark_57 rfl rfl ?_
          refine zr_tsw hX 1 dX6_mark_58 (by decide) (zrl rfl) (t2 := 88) rfl rfl h (fun h => ?_) (fun hs4 h => ?_)
          · refine zr_aload_n hX dX6_mark_88 rfl rfl ?_
            refine zr_iload_n hX dX6_mark_89 rfl rfl ?_
            refine zr_iload_n hX dX6_mark_90 rfl rfl ?_
            refine zP_bind h (fun q5 hq5 h => ?_)
            refine zr_callV hX dX6_mark_91 (m_M_couldShade hq5) rfl rfl rfl (z5 ww_1112 ww_1114 ww_48 ww_77 ww_1115) hy_X6_couldShade rfl (Nat.le_of_ble_eq_true rfl) (Nat.le_of_ble_eq_true rfl) (Nat.le_of_ble_eq_true rfl) ?_
            exact zr_iret hX dX6_mark_94 hF h
          refine zr_tsw hX 2 dX6_mark_58 (by decide) (zrl rfl) (t2 := 95) rfl rfl h (fun h => ?_) (fun hs6 h => ?_)
          · refine zr_iload_n hX dX6_mark_95 rfl rfl ?_
            refine zr_iconst hX dX6_mark_96 (zrl rfl) ?_
            refine zr_iadd hX dX6_mark_97 ?_
            refine zr_aload_n hX dX6_mark_98 rfl rfl ?_
            refine zr_getr hX dX6_mark_99 (k := 0) (q := 43) rfl rfl ww_851 rfl ?_
            refine zr_iconst hX dX6_mark_102 (zrl rfl) ?_
            refine zr_ialdc hX dX6_mark_103 (N := 10956) rfl rfl rfl ?_
            refine zr_icmpne (tgt := 111) hX dX6_mark_104 rfl h (fun h => ?_) (fun h => ?_)
            · refine zr_iload_n hX dX6_mark_111 rfl rfl ?_
              refine zr_iconst hX dX6_mark_112 (zrl rfl) ?_
              refine zr_iadd hX dX6_mark_113 ?_
              refine zr_aload_n hX dX6_mark_114 rfl rfl ?_
              refine zr_getr hX dX6_mark_115 (k := 0) (q := 43) rfl rfl ww_851 rfl ?_
              refine zr_iconst hX dX6_mark_118 (zrl rfl) ?_
              refine zr_iload_n hX dX6_mark_119 rfl rfl ?_
              refine zr_iadd hX dX6_mark_120 ?_
              refine zr_iconst hX dX6_mark_121 (zrl rfl) ?_
              refine zr_iadd hX dX6_mark_122 ?_
              refine zr_iald (N := 10956) hX dX6_mark_123 rfl rfl h (fun h => ?_)
              refine zr_callS hX dX6_mark_124 (m_M_lesser) rfl (z4 ww_1094 ww_1095 ww_77 ww_1096) hy_X6_lesser rfl (Nat.le_of_ble_eq_true rfl) (Nat.le_of_ble_eq_true rfl) (Nat.le_of_ble_eq_true rfl) ?_
              exact zr_iret hX dX6_mark_127 hF h
            · refine zr_iconst hX dX6_mark_107 (zrl rfl) ?_
              refine zr_goto hX dX6_mark_108 (tgt := 127) rfl ?_
              exact zr_iret hX dX6_mark_127 hF h
          refine zr_tsw hX 3 dX6_mark_58 (by decide) (zrl rfl) (t2 := 128) rfl rfl h (fun h => ?_) (fun hs7 h => ?_)
          · refine zr_aload_n hX dX6_mark_128 rfl rfl ?_
            refine zP_bind h (fun q8 hq8 h => ?_)
            refine zr_callV hX dX6_mark_129 (m_M_layLamps hq8) rfl rfl rfl (z5 ww_1019 ww_1021 ww_31 ww_77 ww_1022) hy_X6_layLamps rfl (Nat.le_of_ble_eq_true rfl) (Nat.le_of_ble_eq_true rfl) (Nat.le_of_ble_eq_true rfl) ?_
            refine zr_aload_n hX dX6_mark_132 rfl rfl ?_
            refine zr_aload_n hX dX6_mark_133 rfl rfl ?_
            refine zr_iload_n hX dX6_mark_134 rfl rfl ?_
            refine zr_iload_n hX dX6_mark_135 rfl rfl ?_
            refine zP_bind h (fun q9 hq9 h => ?_)
            refine zr_callV hX dX6_mark_136 (m_M_numberOf hq9) rfl rfl rfl (z5 ww_1035 ww_1037 ww_35 ww_77 ww_1038) hy_X6_numberOf rfl (Nat.le_of_ble_eq_true rfl) (Nat.le_of_ble_eq_true rfl) (Nat.le_of_ble_eq_true rfl) ?_
            refine zP_bind h (fun q10 hq10 h => ?_)
            refine zr_callV hX dX6_mark_139 (m_M_owedAll hq10) rfl rfl rfl (z5 ww_1101 ww_1103 ww_47 ww_77 ww_1104) hy_X6_owedAll rfl (Nat.le_of_ble_eq_true rfl) (Nat.le_of_ble_eq_true rfl) (Nat.le_of_ble_eq_true rfl) ?_
            exact zr_iret hX dX6_mark_142 hF h
          refine zr_tsw hX 4 dX6_mark_58 (by decide) (zrl rfl) (t2 := 143) rfl rfl h (fun h => ?_) (fun hs11 h => ?_)
          · refine zr_aload_n hX dX6_mark_143 rfl rfl ?_
            refine zr_getr hX dX6_mark_144 (k := 0) (q := 43) rfl rfl ww_851 rfl ?_
            refine zr_iconst hX dX6_mark_147 (zrl rfl) ?_
            refine zr_iload_n hX dX6_mark_148 rfl rfl ?_
            refine zr_iadd hX dX6_mark_149 ?_
            refine zr_iald (N := 10956) hX dX6_mark_150 rfl rfl h (fun h => ?_)
            refine zr_iconst hX dX6_mark_151 (zrl rfl) ?_
            refine zr_isub hX dX6_mark_152 ?_
            refine zr_iload_n hX dX6_mark_153 rfl rfl ?_
            refine zr_isub hX dX6_mark_154 ?_
            exact zr_iret hX dX6_mark_155 hF h
          refine zr_tswd (tgt := 156) hX dX6_mark_58 (by omega) rfl ?_
          refine zr_aload_n hX dX6_mark_156 rfl rfl ?_
          refine zr_iload_n hX dX6_mark_157 rfl rfl ?_
          refine zr_iload_n hX dX6_mark_158 rfl rfl ?_
          refine zP_bind h (fun q12 hq12 h => ?_)
          refine zr_callV hX dX6_mark_159 (m_M_lightened hq12) rfl rfl rfl (z5 ww_1119 ww_1121 ww_49 ww_77 ww_1122) hy_X6_lightened rfl (Nat.le_of_ble_eq_true rfl) (Nat.le_of_ble_eq_true rfl) (Nat.le_of_ble_eq_true rfl) ?_
          exact zr_iret hX dX6_mark_162 hF h
        · refine zr_aload_n hX dX6_mark_51 rfl rfl ?_
          refine zr_iconst hX dX6_mark_52 (zrl rfl) ?_
          refine zP_bind h (fun q13 hq13 h => ?_)
          refine zr_callV hX dX6_mark_53 (m_M_found hq13) rfl rfl rfl (z5 ww_921 ww_923 ww_21 ww_77 ww_924) hy_X6_found rfl (Nat.le_of_ble_eq_true rfl) (Nat.le_of_ble_eq_true rfl) (Nat.le_of_ble_eq_true rfl) ?_
          exact zr_iret hX dX6_mark_56 hF h
      · refine zr_aload_n hX dX6_mark_32 rfl rfl ?_
        refine zr_iconst hX dX6_mark_33 (zrl rfl) ?_
        refine zP_bind h (fun q14 hq14 h => ?_)
        refine zr_callV hX dX6_mark_34 (m_M_found hq14) rfl rfl rfl (z5 ww_921 ww_923 ww_21 ww_77 ww_924) hy_X6_found rfl (Nat.le_of_ble_eq_true rfl) (Nat.le_of_ble_eq_true rfl) (Nat.le_of_ble_eq_true rfl) ?_
        exact zr_iret hX dX6_mark_37 hF h
    · refine zr_iconst hX dX6_mark_21 (zrl rfl) ?_
      exact zr_iret hX dX6_mark_22 hF h
set_option maxRecDepth 100000 in
theorem m_M_mark {l : Launch} {G : zG} {v1 : Int} {v2 : Int} {v3 : Int} {μ : zM} {q : Int × zM} (hq : f_M_mark v1 v2 v3 μ = some q) : zCT l G yX6_mark cX6_mark 4 (some .int) 5 [zR 42, zI v1, zI v2, zI v3] μ (some (zI q.1)) q.2 := by
  refine zMet (lv := [some (zR 42), some (zI v1), some (zI v2), some (zI v3)]) (k := 0) pl_X6 rfl (Nat.le_of_ble_eq_true rfl) (fun X hl hX hF _ _ => ?_)
  exact w_M_mark_e hX hF (zP_of hq rfl)
set_option maxRecDepth 100000 in
set_option maxHeartbeats 4000000 in
theorem w_M_bear_e {X : zX} {G : zG} {v1 : Int} {v2 : Int} {v3 : Int} {μ : zM} {rv : Option zV} {ν : zM} (hX : zOk X G cX6_bear RX6 5 (some .int) 4) (hF : zFin X G rv ν) (h : zP (fun r : (Int × zM) => (some (zI r.1), r.2) = (rv, ν)) (f_M_bear v1 v2 v3 μ)) : zW X G 5 0 [some (zR 42), some (zI v1), some (zI v2), some (zI v3), none] [] μ := by
  refine zr_aload_n hX dX6_bear_0 rfl rfl ?_
  refine zr_iload_n hX dX6_bear_1 rfl rfl ?_
  refine zr_iload_n hX dX6_bear_2 rfl rfl ?_
  refine zr_callV hX dX6_bear_3 (m_M_isTold) rfl rfl rfl (z5 ww_1010 ww_1012 ww_29 ww_77 ww_1013) hy_X6_isTold rfl (Nat.le_of_ble_eq_true rfl) (Nat.le_of_ble_eq_true rfl) (Nat.le_of_ble_eq_true rfl) ?_
  refine zr_ifeq (tgt := 21) hX dX6_bear_6 rfl h (fun h => ?_) (fun h => ?_)
  · refine zr_iconst hX dX6_bear_21 (zrl rfl) ?_
    exact zr_iret hX dX6_bear_22 hF h
  · refine zr_iload_n hX dX6_bear_9 rfl rfl ?_
    refine zr_i2l hX dX6_bear_10 ?_
    refine zr_lconst hX dX6_bear_11 (n := 0) rfl (zrlJ rfl) ?_
    refine zr_ldc2 hX dX6_bear_12 ww_1127 rfl (zrlJ rfl) ?_
    refine zr_callS hX dX6_bear_15 (m_M_in) rfl (z4 ww_918 ww_919 ww_77 ww_920) hy_X6_in rfl (Nat.le_of_ble_eq_true rfl) (Nat.le_of_ble_eq_true rfl) (Nat.le_of_ble_eq_true rfl) ?_
    refine zr_ifne (tgt := 23) hX dX6_bear_18 rfl h (fun h => ?_) (fun h => ?_)
    · refine zr_aload_n hX dX6_bear_23 rfl rfl ?_
      refine zr_iload_n hX dX6_bear_24 rfl rfl ?_
      refine zr_iload_n hX dX6_bear_25 rfl rfl ?_
      refine zP_bind h (fun q1 hq1 h => ?_)
      refine zr_callV hX dX6_bear_26 (m_M_isThere hq1) rfl rfl rfl (z5 ww_1015 ww_1017 ww_30 ww_77 ww_1018) hy_X6_isThere rfl (Nat.le_of_ble_eq_true rfl) (Nat.le_of_ble_eq_true rfl) (Nat.le_of_ble_eq_true rfl) ?_
      refine zr_ifne (tgt := 38) hX dX6_bear_29 rfl h (fun h => ?_) (fun h => ?_)
      · refine zr_aload_n hX dX6_bear_38 rfl rfl ?_
        refine zr_iload_n hX dX6_bear_39 rfl rfl ?_
        refine zr_iload_n hX dX6_bear_40 rfl rfl ?_
        refine zP_bind h (fun q2 hq2 h => ?_)
        refine zr_callV hX dX6_bear_41 (m_M_bearsAt hq2) rfl rfl rfl (z5 ww_1060 ww_1062 ww_39 ww_77 ww_1063) hy_X6_bearsAt rfl (Nat.le_of_ble_eq_true rfl) (Nat.le_of_ble_eq_true rfl) (Nat.le_of_ble_eq_true rfl) ?_
        refine zr_istore hX dX6_bear_44 (Nat.le_of_ble_eq_true rfl) ?_
        refine zr_aload_n hX dX6_bear_46 rfl rfl ?_
        refine zr_getr hX dX6_bear_47 (k := 0) (q := 43) rfl rfl ww_851 rfl ?_
        refine zr_bipush hX dX6_bear_50 rfl ?_
        refine zr_bipush hX dX6_bear_52 rfl ?_
        refine zr_iload_n hX dX6_bear_54 rfl rfl ?_
        refine zr_imul hX dX6_bear_55 ?_
        refine zr_iadd hX dX6_bear_56 ?_
        refine zr_iload_n hX dX6_bear_57 rfl rfl ?_
        refine zr_iadd hX dX6_bear_58 ?_
        refine zr_iload_n hX dX6_bear_59 rfl rfl ?_
        refine zr_iast (N := 10956) hX dX6_bear_60 rfl rfl h (fun h => ?_)
        refine zr_iload hX dX6_bear_61 rfl ?_
        exact zr_iret hX dX6_bear_63 hF h
      · refine zr_aload_n hX dX6_bear_32 rfl rfl ?_
        refine zr_iconst hX dX6_bear_33 (zrl rfl) ?_
        refine zP_bind h (fun q3 hq3 h => ?_)
        refine zr_callV hX dX6_bear_34 (m_M_found hq3) rfl rfl rfl (z5 ww_921 ww_923 ww_21 ww_77 ww_924) hy_X6_found rfl (Nat.le_of_ble_eq_true rfl) (Nat.le_of_ble_eq_true rfl) (Nat.le_of_ble_eq_true rfl) ?_
        exact zr_iret hX dX6_bear_37 hF h
    · refine zr_iconst hX dX6_bear_21 (zrl rfl) ?_
      exact zr_iret hX dX6_bear_22 hF h
set_option maxRecDepth 100000 in
theorem m_M_bear {l : Launch} {G : zG} {v1 : Int} {v2 : Int} {v3 : Int} {μ : zM} {q : Int × zM} (hq : f_M_bear v1 v2 v3 μ = some q) : zCT l G yX6_bear cX6_bear 5 (some .int) 4 [zR 42, zI v1, zI v2, zI v3] μ (some (zI q.1)) q.2 := by
  refine zMet (lv := [some (zR 42), some (zI v1), some (zI v2), some (zI v3), none]) (k := 1) pl_X6 rfl (Nat.le_of_ble_eq_true rfl) (fun X hl hX hF _ _ => ?_)
  exact w_M_bear_e hX hF (zP_of hq rfl)
set_option maxRecDepth 100000 in
set_option maxHeartbeats 4000000 in
theorem w_M_minds_e {X : zX} {G : zG} {μ : zM} {rv : Option zV} {ν : zM} (hX : zOk X G cX6_minds RX6 1 none 2) (hF : zFin X G rv ν) (h : zP (fun r : zM => ((none : Option zV), r) = (rv, ν)) (f_M_minds μ)) : zW X G 1 0 [some (zR 42)] [] μ := by
  refine zr_aload_n hX dX6_minds_0 rfl rfl ?_
  refine zr_iconst hX dX6_minds_1 (zrl rfl) ?_
  refine zr_bipush hX dX6_minds_2 rfl ?_
  refine zr_aload_n hX dX6_minds_4 rfl rfl ?_
  refine zr_geti hX dX6_minds_5 (k := 1) rfl rfl ww_852 ?_
  refine zr_iconst hX dX6_minds_8 (zrl rfl) ?_
  refine zr_iadd hX dX6_minds_9 ?_
  refine zr_imul hX dX6_minds_10 ?_
  refine zr_bipush hX dX6_minds_11 rfl ?_
  refine zP_bind h (fun q1 hq1 h => ?_)
  refine zr_callV hX dX6_minds_13 (m_M_copyAll hq1) rfl rfl rfl (z5 ww_994 ww_996 ww_27 ww_77 ww_997) hy_X6_copyAll rfl (Nat.le_of_ble_eq_true rfl) (Nat.le_of_ble_eq_true rfl) (Nat.le_of_ble_eq_true rfl) ?_
  refine zr_aload_n hX dX6_minds_16 rfl rfl ?_
  refine zr_dup hX dX6_minds_17 rfl ?_
  refine zr_geti hX dX6_minds_18 (k := 1) rfl rfl ww_852 ?_
  refine zr_iconst hX dX6_minds_21 (zrl rfl) ?_
  refine zr_iadd hX dX6_minds_22 ?_
  refine zr_puti hX dX6_minds_23 (k := 1) rfl rfl ww_852 rfl (by decide +kernel) ?_
  exact zr_vret hX dX6_minds_26 hF h
set_option maxRecDepth 100000 in
theorem m_M_minds {l : Launch} {G : zG} {μ : zM} {q : zM} (hq : f_M_minds μ = some q) : zCT l G yX6_minds cX6_minds 1 none 2 [zR 42] μ (none) q := by
  refine zMet (lv := [some (zR 42)]) (k := 0) pl_X6 rfl (Nat.le_of_ble_eq_true rfl) (fun X hl hX hF _ _ => ?_)
  exact w_M_minds_e hX hF (zP_of hq rfl)
set_option maxRecDepth 100000 in
set_option maxHeartbeats 4000000 in
theorem w_M_hasRoom_e {X : zX} {G : zG} {v1 : Int} {μ : zM} {rv : Option zV} {ν : zM} (hX : zOk X G cX6_hasRoom RX6 2 (some .boolean) 3) (hF : zFin X G rv ν) (h : zP (fun r : Int => (some (zI r), μ) = (rv, ν)) (f_M_hasRoom v1 μ)) : zW X G 2 0 [some (zR 42), some (zI v1)] [] μ := by
  refine zr_aload_n hX dX6_hasRoom_0 rfl rfl ?_
  refine zr_getr hX dX6_hasRoom_1 (k := 0) (q := 43) rfl rfl ww_851 rfl ?_
  refine zr_iconst hX dX6_hasRoom_4 (zrl rfl) ?_
  refine zr_iload_n hX dX6_hasRoom_5 rfl rfl ?_
  refine zr_iadd hX dX6_hasRoom_6 ?_
  refine zr_iald (N := 10956) hX dX6_hasRoom_7 rfl rfl h (fun h => ?_)
  refine zr_bipush hX dX6_hasRoom_8 rfl ?_
  refine zr_icmpge (tgt := 26) hX dX6_hasRoom_10 rfl h (fun h => ?_) (fun h => ?_)
  · refine zr_iconst hX dX6_hasRoom_26 (zrl rfl) ?_
    exact zr_bretc hX dX6_hasRoom_27 hF (Or.inl rfl) h
  · refine zr_aload_n hX dX6_hasRoom_13 rfl rfl ?_
    refine zP_bind h (fun q1 hq1 h => ?_)
    refine zr_callV hX dX6_hasRoom_14 (m_M_houses hq1) rfl rfl rfl (z5 ww_1023 ww_1025 ww_32 ww_77 ww_1026) hy_X6_houses rfl (Nat.le_of_ble_eq_true rfl) (Nat.le_of_ble_eq_true rfl) (Nat.le_of_ble_eq_true rfl) ?_
    refine zr_bipush hX dX6_hasRoom_17 rfl ?_
    refine zr_icmpge (tgt := 26) hX dX6_hasRoom_19 rfl h (fun h => ?_) (fun h => ?_)
    · refine zr_iconst hX dX6_hasRoom_26 (zrl rfl) ?_
      exact zr_bretc hX dX6_hasRoom_27 hF (Or.inl rfl) h
    · refine zr_iconst hX dX6_hasRoom_22 (zrl rfl) ?_
      refine zr_goto hX dX6_hasRoom_23 (tgt := 27) rfl ?_
      exact zr_bretc hX dX6_hasRoom_27 hF (Or.inr rfl) h
set_option maxRecDepth 100000 in
theorem m_M_hasRoom {l : Launch} {G : zG} {v1 : Int} {μ : zM} {q : Int} (hq : f_M_hasRoom v1 μ = some q) : zCT l G yX6_hasRoom cX6_hasRoom 2 (some .boolean) 3 [zR 42, zI v1] μ (some (zI q)) μ := by
  refine zMet (lv := [some (zR 42), some (zI v1)]) (k := 0) pl_X6 rfl (Nat.le_of_ble_eq_true rfl) (fun X hl hX hF _ _ => ?_)
  exact w_M_hasRoom_e hX hF (zP_of hq rfl)
set_option maxRecDepth 100000 in
set_option maxHeartbeats 4000000 in
theorem w_M_build_e {X : zX} {G : zG} {v1 : Int} {v2 : Int} {v3 : Int} {μ : zM} {rv : Option zV} {ν : zM} (hX : zOk X G cX6_build RX6 4 (some .int) 4) (hF : zFin X G rv ν) (h : zP (fun r : (Int × zM) => (some (zI r.1), r.2) = (rv, ν)) (f_M_build v1 v2 v3 μ)) : zW X G 4 0 [some (zR 42), some (zI v1), some (zI v2), some (zI v3)] [] μ := by
  refine zr_aload_n hX dX6_build_0 rfl rfl ?_
  refine zr_iload_n hX dX6_build_1 rfl rfl ?_
  refine zr_callV hX dX6_build_2 (m_M_isTower) rfl rfl rfl (z5 ww_1002 ww_1004 ww_28 ww_77 ww_1005) hy_X6_isTower rfl (Nat.le_of_ble_eq_true rfl) (Nat.le_of_ble_eq_true rfl) (Nat.le_of_ble_eq_true rfl) ?_
  refine zr_ifeq (tgt := 32) hX dX6_build_5 rfl h (fun h => ?_) (fun h => ?_)
  · refine zr_iconst hX dX6_build_32 (zrl rfl) ?_
    exact zr_iret hX dX6_build_33 hF h
  · refine zr_iload_n hX dX6_build_8 rfl rfl ?_
    refine zr_i2l hX dX6_build_9 ?_
    refine zr_lconst hX dX6_build_10 (n := 0) rfl (zrlJ rfl) ?_
    refine zr_ldc2 hX dX6_build_11 ww_917 rfl (zrlJ rfl) ?_
    refine zr_callS hX dX6_build_14 (m_M_in) rfl (z4 ww_918 ww_919 ww_77 ww_920) hy_X6_in rfl (Nat.le_of_ble_eq_true rfl) (Nat.le_of_ble_eq_true rfl) (Nat.le_of_ble_eq_true rfl) ?_
    refine zr_ifeq (tgt := 32) hX dX6_build_17 rfl h (fun h => ?_) (fun h => ?_)
    · refine zr_iconst hX dX6_build_32 (zrl rfl) ?_
      exact zr_iret hX dX6_build_33 hF h
    · refine zr_iload_n hX dX6_build_20 rfl rfl ?_
      refine zr_i2l hX dX6_build_21 ?_
      refine zr_lconst hX dX6_build_22 (n := 0) rfl (zrlJ rfl) ?_
      refine zr_ldc2 hX dX6_build_23 ww_1127 rfl (zrlJ rfl) ?_
      refine zr_callS hX dX6_build_26 (m_M_in) rfl (z4 ww_918 ww_919 ww_77 ww_920) hy_X6_in rfl (Nat.le_of_ble_eq_true rfl) (Nat.le_of_ble_eq_true rfl) (Nat.le_of_ble_eq_true rfl) ?_
      refine zr_ifne (tgt := 34) hX dX6_build_29 rfl h (fun h => ?_) (fun h => ?_)
      · refine zr_aload_n hX dX6_build_34 rfl rfl ?_
        refine zr_iload_n hX dX6_build_35 rfl rfl ?_
        refine zP_bind h (fun q1 hq1 h => ?_)
        refine zr_callV hX dX6_build_36 (m_M_hasRoom hq1) rfl rfl rfl (z5 ww_1132 ww_1134 ww_50 ww_77 ww_1135) hy_X6_hasRoom rfl (Nat.le_of_ble_eq_true rfl) (Nat.le_of_ble_eq_true rfl) (Nat.le_of_ble_eq_true rfl) ?_
        refine zr_ifeq (tgt := 51) hX dX6_build_39 rfl h (fun h => ?_) (fun h => ?_)
        · refine zr_bipush hX dX6_build_51 rfl ?_
          exact zr_iret hX dX6_build_53 hF h
        · refine zr_aload_n hX dX6_build_42 rfl rfl ?_
          refine zr_geti hX dX6_build_43 (k := 1) rfl rfl ww_852 ?_
          refine zr_bipush hX dX6_build_46 rfl ?_
          refine zr_icmpne (tgt := 54) hX dX6_build_48 rfl h (fun h => ?_) (fun h => ?_)
          · refine zr_aload_n hX dX6_build_54 rfl rfl ?_
            refine zP_bind h (fun q2 hq2 h => ?_)
            refine zr_callV hX dX6_build_55 (m_M_minds hq2) rfl rfl rfl (z5 ww_1136 ww_1138 ww_51 ww_77 ww_1139) hy_X6_minds rfl (Nat.le_of_ble_eq_true rfl) (Nat.le_of_ble_eq_true rfl) (Nat.le_of_ble_eq_true rfl) ?_
            refine zr_aload_n hX dX6_build_58 rfl rfl ?_
            refine zr_iconst hX dX6_build_59 (zrl rfl) ?_
            refine zr_iload_n hX dX6_build_60 rfl rfl ?_
            refine zr_iload_n hX dX6_build_61 rfl rfl ?_
            refine zr_iload_n hX dX6_build_62 rfl rfl ?_
            refine zP_bind h (fun q3 hq3 h => ?_)
            refine zr_callV hX dX6_build_63 (m_M_adds hq3) rfl rfl rfl (z5 ww_986 ww_988 ww_26 ww_77 ww_989) hy_X6_adds rfl (Nat.le_of_ble_eq_true rfl) (Nat.le_of_ble_eq_true rfl) (Nat.le_of_ble_eq_true rfl) ?_
            refine zr_aload_n hX dX6_build_66 rfl rfl ?_
            refine zr_getr hX dX6_build_67 (k := 0) (q := 43) rfl rfl ww_851 rfl ?_
            refine zr_iconst hX dX6_build_70 (zrl rfl) ?_
            refine zr_iload_n hX dX6_build_71 rfl rfl ?_
            refine zr_iadd hX dX6_build_72 ?_
            refine zr_iald (N := 10956) hX dX6_build_73 rfl rfl h (fun h => ?_)
            refine zr_iconst hX dX6_build_74 (zrl rfl) ?_
            refine zr_isub hX dX6_build_75 ?_
            exact zr_iret hX dX6_build_76 hF h
          · refine zr_bipush hX dX6_build_51 rfl ?_
            exact zr_iret hX dX6_build_53 hF h
      · refine zr_iconst hX dX6_build_32 (zrl rfl) ?_
        exact zr_iret hX dX6_build_33 hF h
set_option maxRecDepth 100000 in
theorem m_M_build {l : Launch} {G : zG} {v1 : Int} {v2 : Int} {v3 : Int} {μ : zM} {q : Int × zM} (hq : f_M_build v1 v2 v3 μ = some q) : zCT l G yX6_build cX6_build 4 (some .int) 4 [zR 42, zI v1, zI v2, zI v3] μ (some (zI q.1)) q.2 := by
  refine zMet (lv := [some (zR 42), some (zI v1), some (zI v2), some (zI v3)]) (k := 0) pl_X6 rfl (Nat.le_of_ble_eq_true rfl) (fun X hl hX hF _ _ => ?_)
  exact w_M_build_e hX hF (zP_of hq rfl)
set_option maxRecDepth 100000 in
set_option maxHeartbeats 4000000 in
theorem w_M_leave_e {X : zX} {G : zG} {v1 : Int} {v2 : Int} {μ : zM} {rv : Option zV} {ν : zM} (hX : zOk X G cX6_leave RX6 3 (some .int) 4) (hF : zFin X G rv ν) (h : zP (fun r : (Int × zM) => (some (zI r.1), r.2) = (rv, ν)) (f_M_leave v1 v2 μ)) : zW X G 3 0 [some (zR 42), some (zI v1), some (zI v2)] [] μ := by
  refine zr_aload_n hX dX6_leave_0 rfl rfl ?_
  refine zr_iload_n hX dX6_leave_1 rfl rfl ?_
  refine zr_iload_n hX dX6_leave_2 rfl rfl ?_
  refine zr_callV hX dX6_leave_3 (m_M_isTold) rfl rfl rfl (z5 ww_1010 ww_1012 ww_29 ww_77 ww_1013) hy_X6_isTold rfl (Nat.le_of_ble_eq_true rfl) (Nat.le_of_ble_eq_true rfl) (Nat.le_of_ble_eq_true rfl) ?_
  refine zr_ifne (tgt := 11) hX dX6_leave_6 rfl h (fun h => ?_) (fun h => ?_)
  · refine zr_aload_n hX dX6_leave_11 rfl rfl ?_
    refine zr_iload_n hX dX6_leave_12 rfl rfl ?_
    refine zr_iload_n hX dX6_leave_13 rfl rfl ?_
    refine zP_bind h (fun q1 hq1 h => ?_)
    refine zr_callV hX dX6_leave_14 (m_M_isThere hq1) rfl rfl rfl (z5 ww_1015 ww_1017 ww_30 ww_77 ww_1018) hy_X6_isThere rfl (Nat.le_of_ble_eq_true rfl) (Nat.le_of_ble_eq_true rfl) (Nat.le_of_ble_eq_true rfl) ?_
    refine zr_ifne (tgt := 26) hX dX6_leave_17 rfl h (fun h => ?_) (fun h => ?_)
    · refine zr_aload_n hX dX6_leave_26 rfl rfl ?_
      refine zr_geti hX dX6_leave_27 (k := 1) rfl rfl ww_852 ?_
      refine zr_bipush hX dX6_leave_30 rfl ?_
      refine zr_icmpne (tgt := 38) hX dX6_leave_32 rfl h (fun h => ?_) (fun h => ?_)
      · refine zr_aload_n hX dX6_leave_38 rfl rfl ?_
        refine zP_bind h (fun q2 hq2 h => ?_)
        refine zr_callV hX dX6_leave_39 (m_M_minds hq2) rfl rfl rfl (z5 ww_1136 ww_1138 ww_51 ww_77 ww_1139) hy_X6_minds rfl (Nat.le_of_ble_eq_true rfl) (Nat.le_of_ble_eq_true rfl) (Nat.le_of_ble_eq_true rfl) ?_
        refine zr_aload_n hX dX6_leave_42 rfl rfl ?_
        refine zr_iload_n hX dX6_leave_43 rfl rfl ?_
        refine zr_iload_n hX dX6_leave_44 rfl rfl ?_
        refine zP_bind h (fun q3 hq3 h => ?_)
        refine zr_callV hX dX6_leave_45 (m_M_goes hq3) rfl rfl rfl (z5 ww_1144 ww_1146 ww_52 ww_77 ww_1147) hy_X6_goes rfl (Nat.le_of_ble_eq_true rfl) (Nat.le_of_ble_eq_true rfl) (Nat.le_of_ble_eq_true rfl) ?_
        refine zr_aload_n hX dX6_leave_48 rfl rfl ?_
        refine zr_getr hX dX6_leave_49 (k := 0) (q := 43) rfl rfl ww_851 rfl ?_
        refine zr_iconst hX dX6_leave_52 (zrl rfl) ?_
        refine zr_iload_n hX dX6_leave_53 rfl rfl ?_
        refine zr_iadd hX dX6_leave_54 ?_
        refine zr_iald (N := 10956) hX dX6_leave_55 rfl rfl h (fun h => ?_)
        refine zr_iload_n hX dX6_leave_56 rfl rfl ?_
        refine zr_isub hX dX6_leave_57 ?_
        exact zr_iret hX dX6_leave_58 hF h
      · refine zr_bipush hX dX6_leave_35 rfl ?_
        exact zr_iret hX dX6_leave_37 hF h
    · refine zr_aload_n hX dX6_leave_20 rfl rfl ?_
      refine zr_iconst hX dX6_leave_21 (zrl rfl) ?_
      refine zP_bind h (fun q4 hq4 h => ?_)
      refine zr_callV hX dX6_leave_22 (m_M_found hq4) rfl rfl rfl (z5 ww_921 ww_923 ww_21 ww_77 ww_924) hy_X6_found rfl (Nat.le_of_ble_eq_true rfl) (Nat.le_of_ble_eq_true rfl) (Nat.le_of_ble_eq_true rfl) ?_
      exact zr_iret hX dX6_leave_25 hF h
  · refine zr_iconst hX dX6_leave_9 (zrl rfl) ?_
    exact zr_iret hX dX6_leave_10 hF h
set_option maxRecDepth 100000 in
theorem m_M_leave {l : Launch} {G : zG} {v1 : Int} {v2 : Int} {μ : zM} {q : Int × zM} (hq : f_M_leave v1 v2 μ = some q) : zCT l G yX6_leave cX6_leave 3 (some .int) 4 [zR 42, zI v1, zI v2] μ (some (zI q.1)) q.2 := by
  refine zMet (lv := [some (zR 42), some (zI v1), some (zI v2)]) (k := 0) pl_X6 rfl (Nat.le_of_ble_eq_true rfl) (fun X hl hX hF _ _ => ?_)
  exact w_M_leave_e hX hF (zP_of hq rfl)
set_option maxRecDepth 100000 in
set_option maxHeartbeats 4000000 in
theorem w_M_undo_e {X : zX} {G : zG} {v1 : Int} {μ : zM} {rv : Option zV} {ν : zM} (hX : zOk X G cX6_undo RX6 3 (some .int) 2) (hF : zFin X G rv ν) (h : zP (fun r : (Int × zM) => (some (zI r.1), r.2) = (rv, ν)) (f_M_undo v1 μ)) : zW X G 3 0 [some (zR 42), some (zI v1), none] [] μ := by
  refine zr_iload_n hX dX6_undo_0 rfl rfl ?_
  refine zr_i2l hX dX6_undo_1 ?_
  refine zr_lconst hX dX6_undo_2 (n := 0) rfl (zrlJ rfl) ?_
  refine zr_aload_n hX dX6_undo_3 rfl rfl ?_
  refine zr_geti hX dX6_undo_4 (k := 1) rfl rfl ww_852 ?_
  refine zr_i2l hX dX6_undo_7 ?_
  refine zr_callS hX dX6_undo_8 (m_M_in) rfl (z4 ww_918 ww_919 ww_77 ww_920) hy_X6_in rfl (Nat.le_of_ble_eq_true rfl) (Nat.le_of_ble_eq_true rfl) (Nat.le_of_ble_eq_true rfl) ?_
  refine zr_ifne (tgt := 16) hX dX6_undo_11 rfl h (fun h => ?_) (fun h => ?_)
  · refine zr_aload_n hX dX6_undo_16 rfl rfl ?_
    refine zr_geti hX dX6_undo_17 (k := 1) rfl rfl ww_852 ?_
    refine zr_iload_n hX dX6_undo_20 rfl rfl ?_
    refine zr_isub hX dX6_undo_21 ?_
    refine zr_istore_n hX dX6_undo_22 rfl (Nat.le_of_ble_eq_true rfl) ?_
    refine zr_iload_n hX dX6_undo_23 rfl rfl ?_
    refine zr_ifle (tgt := 45) hX dX6_undo_24 rfl h (fun h => ?_) (fun h => ?_)
    · refine zr_iload_n hX dX6_undo_45 rfl rfl ?_
      exact zr_iret hX dX6_undo_46 hF h
    · refine zr_aload_n hX dX6_undo_27 rfl rfl ?_
      refine zr_bipush hX dX6_undo_28 rfl ?_
      refine zr_iload_n hX dX6_undo_30 rfl rfl ?_
      refine zr_iconst hX dX6_undo_31 (zrl rfl) ?_
      refine zr_iadd hX dX6_undo_32 ?_
      refine zr_imul hX dX6_undo_33 ?_
      refine zr_iconst hX dX6_undo_34 (zrl rfl) ?_
      refine zr_bipush hX dX6_undo_35 rfl ?_
      refine zP_bind h (fun q1 hq1 h => ?_)
      refine zr_callV hX dX6_undo_37 (m_M_copyAll hq1) rfl rfl rfl (z5 ww_994 ww_996 ww_27 ww_77 ww_997) hy_X6_copyAll rfl (Nat.le_of_ble_eq_true rfl) (Nat.le_of_ble_eq_true rfl) (Nat.le_of_ble_eq_true rfl) ?_
      refine zr_aload_n hX dX6_undo_40 rfl rfl ?_
      refine zr_iload_n hX dX6_undo_41 rfl rfl ?_
      refine zr_puti hX dX6_undo_42 (k := 1) rfl rfl ww_852 rfl (by decide +kernel) ?_
      refine zr_iload_n hX dX6_undo_45 rfl rfl ?_
      exact zr_iret hX dX6_undo_46 hF h
  · refine zr_iconst hX dX6_undo_14 (zrl rfl) ?_
    exact zr_iret hX dX6_undo_15 hF h
set_option maxRecDepth 100000 in
theorem m_M_undo {l : Launch} {G : zG} {v1 : Int} {μ : zM} {q : Int × zM} (hq : f_M_undo v1 μ = some q) : zCT l G yX6_undo cX6_undo 3 (some .int) 2 [zR 42, zI v1] μ (some (zI q.1)) q.2 := by
  refine zMet (lv := [some (zR 42), some (zI v1), none]) (k := 1) pl_X6 rfl (Nat.le_of_ble_eq_true rfl) (fun X hl hX hF _ _ => ?_)
  exact w_M_undo_e hX hF (zP_of hq rfl)
set_option maxRecDepth 100000 in
set_option maxHeartbeats 4000000 in
theorem w_M_keep_e {X : zX} {G : zG} {v1 : Int} {μ : zM} {rv : Option zV} {ν : zM} (hX : zOk X G cX6_keep RX6 2 (some .int) 2) (hF : zFin X G rv ν) (h : zP (fun r : (Int × zM) => (some (zI r.1), r.2) = (rv, ν)) (f_M_keep v1 μ)) : zW X G 2 0 [some (zR 42), some (zI v1)] [] μ := by
  refine zr_iload_n hX dX6_keep_0 rfl rfl ?_
  refine zr_i2l hX dX6_keep_1 ?_
  refine zr_lconst hX dX6_keep_2 (n := 0) rfl (zrlJ rfl) ?_
  refine zr_ldc2 hX dX6_keep_3 ww_1156 rfl (zrlJ rfl) ?_
  refine zr_callS hX dX6_keep_6 (m_M_in) rfl (z4 ww_918 ww_919 ww_77 ww_920) hy_X6_in rfl (Nat.le_of_ble_eq_true rfl) (Nat.le_of_ble_eq_true rfl) (Nat.le_of_ble_eq_true rfl) ?_
  refine zr_ifne (tgt := 14) hX dX6_keep_9 rfl h (fun h => ?_) (fun h => ?_)
  · refine zr_aload_n hX dX6_keep_14 rfl rfl ?_
    refine zr_callV hX dX6_keep_15 (m_M_isNone) rfl rfl rfl (z5 ww_1157 ww_1159 ww_53 ww_77 ww_1160) hy_X6_isNone rfl (Nat.le_of_ble_eq_true rfl) (Nat.le_of_ble_eq_true rfl) (Nat.le_of_ble_eq_true rfl) ?_
    refine zr_ifeq (tgt := 24) hX dX6_keep_18 rfl h (fun h => ?_) (fun h => ?_)
    · refine zr_aload_n hX dX6_keep_24 rfl rfl ?_
      refine zr_iconst hX dX6_keep_25 (zrl rfl) ?_
      refine zr_sipush hX dX6_keep_26 rfl ?_
      refine zr_iload_n hX dX6_keep_29 rfl rfl ?_
      refine zr_iconst hX dX6_keep_30 (zrl rfl) ?_
      refine zr_iadd hX dX6_keep_31 ?_
      refine zr_imul hX dX6_keep_32 ?_
      refine zr_sipush hX dX6_keep_33 rfl ?_
      refine zP_bind h (fun q1 hq1 h => ?_)
      refine zr_callV hX dX6_keep_36 (m_M_copyAll hq1) rfl rfl rfl (z5 ww_994 ww_996 ww_27 ww_77 ww_997) hy_X6_copyAll rfl (Nat.le_of_ble_eq_true rfl) (Nat.le_of_ble_eq_true rfl) (Nat.le_of_ble_eq_true rfl) ?_
      refine zr_aload_n hX dX6_keep_39 rfl rfl ?_
      refine zr_getr hX dX6_keep_40 (k := 2) (q := 44) rfl rfl ww_853 rfl ?_
      refine zr_iload_n hX dX6_keep_43 rfl rfl ?_
      refine zr_aload_n hX dX6_keep_44 rfl rfl ?_
      refine zr_geti hX dX6_keep_45 (k := 1) rfl rfl ww_852 ?_
      refine zr_iast (N := 3) hX dX6_keep_48 rfl rfl h (fun h => ?_)
      refine zr_aload_n hX dX6_keep_49 rfl rfl ?_
      refine zr_geti hX dX6_keep_50 (k := 1) rfl rfl ww_852 ?_
      exact zr_iret hX dX6_keep_53 hF h
    · refine zr_bipush hX dX6_keep_21 rfl ?_
      exact zr_iret hX dX6_keep_23 hF h
  · refine zr_iconst hX dX6_keep_12 (zrl rfl) ?_
    exact zr_iret hX dX6_keep_13 hF h
set_option maxRecDepth 100000 in
theorem m_M_keep {l : Launch} {G : zG} {v1 : Int} {μ : zM} {q : Int × zM} (hq : f_M_keep v1 μ = some q) : zCT l G yX6_keep cX6_keep 2 (some .int) 2 [zR 42, zI v1] μ (some (zI q.1)) q.2 := by
  refine zMet (lv := [some (zR 42), some (zI v1)]) (k := 0) pl_X6 rfl (Nat.le_of_ble_eq_true rfl) (fun X hl hX hF _ _ => ?_)
  exact w_M_keep_e hX hF (zP_of hq rfl)
set_option maxRecDepth 100000 in
set_option maxHeartbeats 4000000 in
theorem w_M_on_e {X : zX} {G : zG} {v1 : Int} {μ : zM} {rv : Option zV} {ν : zM} (hX : zOk X G cX6_on RX6 2 (some .int) 2) (hF : zFin X G rv ν) (h : zP (fun r : (Int × zM) => (some (zI r.1), r.2) = (rv, ν)) (f_M_on v1 μ)) : zW X G 2 0 [some (zR 42), some (zI v1)] [] μ := by
  refine zr_iload_n hX dX6_on_0 rfl rfl ?_
  refine zr_i2l hX dX6_on_1 ?_
  refine zr_lconst hX dX6_on_2 (n := 0) rfl (zrlJ rfl) ?_
  refine zr_ldc2 hX dX6_on_3 ww_1156 rfl (zrlJ rfl) ?_
  refine zr_callS hX dX6_on_6 (m_M_in) rfl (z4 ww_918 ww_919 ww_77 ww_920) hy_X6_in rfl (Nat.le_of_ble_eq_true rfl) (Nat.le_of_ble_eq_true rfl) (Nat.le_of_ble_eq_true rfl) ?_
  refine zr_ifne (tgt := 14) hX dX6_on_9 rfl h (fun h => ?_) (fun h => ?_)
  · refine zr_aload_n hX dX6_on_14 rfl rfl ?_
    refine zr_getr hX dX6_on_15 (k := 2) (q := 44) rfl rfl ww_853 rfl ?_
    refine zr_iload_n hX dX6_on_18 rfl rfl ?_
    refine zr_iald (N := 3) hX dX6_on_19 rfl rfl h (fun h => ?_)
    refine zr_ifge (tgt := 29) hX dX6_on_20 rfl h (fun h => ?_) (fun h => ?_)
    · refine zr_aload_n hX dX6_on_29 rfl rfl ?_
      refine zr_sipush hX dX6_on_30 rfl ?_
      refine zr_iload_n hX dX6_on_33 rfl rfl ?_
      refine zr_iconst hX dX6_on_34 (zrl rfl) ?_
      refine zr_iadd hX dX6_on_35 ?_
      refine zr_imul hX dX6_on_36 ?_
      refine zr_iconst hX dX6_on_37 (zrl rfl) ?_
      refine zr_sipush hX dX6_on_38 rfl ?_
      refine zP_bind h (fun q1 hq1 h => ?_)
      refine zr_callV hX dX6_on_41 (m_M_copyAll hq1) rfl rfl rfl (z5 ww_994 ww_996 ww_27 ww_77 ww_997) hy_X6_copyAll rfl (Nat.le_of_ble_eq_true rfl) (Nat.le_of_ble_eq_true rfl) (Nat.le_of_ble_eq_true rfl) ?_
      refine zr_aload_n hX dX6_on_44 rfl rfl ?_
      refine zr_aload_n hX dX6_on_45 rfl rfl ?_
      refine zr_getr hX dX6_on_46 (k := 2) (q := 44) rfl rfl ww_853 rfl ?_
      refine zr_iload_n hX dX6_on_49 rfl rfl ?_
      refine zr_iald (N := 3) hX dX6_on_50 rfl rfl h (fun h => ?_)
      refine zr_puti hX dX6_on_51 (k := 1) rfl rfl ww_852 rfl (by decide +kernel) ?_
      refine zr_aload_n hX dX6_on_54 rfl rfl ?_
      refine zr_geti hX dX6_on_55 (k := 1) rfl rfl ww_852 ?_
      exact zr_iret hX dX6_on_58 hF h
    · refine zr_aload_n hX dX6_on_23 rfl rfl ?_
      refine zr_iconst hX dX6_on_24 (zrl rfl) ?_
      refine zP_bind h (fun q2 hq2 h => ?_)
      refine zr_callV hX dX6_on_25 (m_M_found hq2) rfl rfl rfl (z5 ww_921 ww_923 ww_21 ww_77 ww_924) hy_X6_found rfl (Nat.le_of_ble_eq_true rfl) (Nat.le_of_ble_eq_true rfl) (Nat.le_of_ble_eq_true rfl) ?_
      exact zr_iret hX dX6_on_28 hF h
  · refine zr_iconst hX dX6_on_12 (zrl rfl) ?_
    exact zr_iret hX dX6_on_13 hF h
set_option maxRecDepth 100000 in
theorem m_M_on {l : Launch} {G : zG} {v1 : Int} {μ : zM} {q : Int × zM} (hq : f_M_on v1 μ = some q) : zCT l G yX6_on cX6_on 2 (some .int) 2 [zR 42, zI v1] μ (some (zI q.1)) q.2 := by
  refine zMet (lv := [some (zR 42), some (zI v1)]) (k := 0) pl_X6 rfl (Nat.le_of_ble_eq_true rfl) (fun X hl hX hF _ _ => ?_)
  exact w_M_on_e hX hF (zP_of hq rfl)
set_option maxRecDepth 100000 in
set_option maxHeartbeats 4000000 in
theorem w_M_shades_e {X : zX} {G : zG} {v1 : Int} {v2 : Int} {v3 : Int} {μ : zM} {rv : Option zV} {ν : zM} (hX : zOk X G cX6_shades RX6 4 (some .int) 4) (hF : zFin X G rv ν) (h : zP (fun r : (Int × zM) => (some (zI r.1), r.2) = (rv, ν)) (f_M_shades v1 v2 v3 μ)) : zW X G 4 0 [some (zR 42), some (zI v1), some (zI v2), some (zI v3)] [] μ := by
  refine zr_aload_n hX dX6_shades_0 rfl rfl ?_
  refine zr_iload_n hX dX6_shades_1 rfl rfl ?_
  refine zr_iload_n hX dX6_shades_2 rfl rfl ?_
  refine zr_callV hX dX6_shades_3 (m_M_isTold) rfl rfl rfl (z5 ww_1010 ww_1012 ww_29 ww_77 ww_1013) hy_X6_isTold rfl (Nat.le_of_ble_eq_true rfl) (Nat.le_of_ble_eq_true rfl) (Nat.le_of_ble_eq_true rfl) ?_
  refine zr_ifeq (tgt := 21) hX dX6_shades_6 rfl h (fun h => ?_) (fun h => ?_)
  · refine zr_iconst hX dX6_shades_21 (zrl rfl) ?_
    exact zr_iret hX dX6_shades_22 hF h
  · refine zr_iload_n hX dX6_shades_9 rfl rfl ?_
    refine zr_i2l hX dX6_shades_10 ?_
    refine zr_lconst hX dX6_shades_11 (n := 0) rfl (zrlJ rfl) ?_
    refine zr_ldc2 hX dX6_shades_12 ww_1169 rfl (zrlJ rfl) ?_
    refine zr_callS hX dX6_shades_15 (m_M_in) rfl (z4 ww_918 ww_919 ww_77 ww_920) hy_X6_in rfl (Nat.le_of_ble_eq_true rfl) (Nat.le_of_ble_eq_true rfl) (Nat.le_of_ble_eq_true rfl) ?_
    refine zr_ifne (tgt := 23) hX dX6_shades_18 rfl h (fun h => ?_) (fun h => ?_)
    · refine zr_aload_n hX dX6_shades_23 rfl rfl ?_
      refine zr_iload_n hX dX6_shades_24 rfl rfl ?_
      refine zr_iload_n hX dX6_shades_25 rfl rfl ?_
      refine zP_bind h (fun q1 hq1 h => ?_)
      refine zr_callV hX dX6_shades_26 (m_M_isThere hq1) rfl rfl rfl (z5 ww_1015 ww_1017 ww_30 ww_77 ww_1018) hy_X6_isThere rfl (Nat.le_of_ble_eq_true rfl) (Nat.le_of_ble_eq_true rfl) (Nat.le_of_ble_eq_true rfl) ?_
      refine zr_ifeq (tgt := 42) hX dX6_shades_29 rfl h (fun h => ?_) (fun h => ?_)
      · refine zr_aload_n hX dX6_shades_42 rfl rfl ?_
        refine zr_iconst hX dX6_shades_43 (zrl rfl) ?_
        refine zP_bind h (fun q2 hq2 h => ?_)
        refine zr_callV hX dX6_shades_44 (m_M_found hq2) rfl rfl rfl (z5 ww_921 ww_923 ww_21 ww_77 ww_924) hy_X6_found rfl (Nat.le_of_ble_eq_true rfl) (Nat.le_of_ble_eq_true rfl) (Nat.le_of_ble_eq_true rfl) ?_
        exact zr_iret hX dX6_shades_47 hF h
      · refine zr_aload_n hX dX6_shades_32 rfl rfl ?_
        refine zr_iload_n hX dX6_shades_33 rfl rfl ?_
        refine zr_iload_n hX dX6_shades_34 rfl rfl ?_
        refine zr_iload_n hX dX6_shades_35 rfl rfl ?_
        refine zP_bind h (fun q3 hq3 h => ?_)
        refine zr_callV hX dX6_shades_36 (m_M_shader hq3) rfl rfl rfl (z5 ww_1043 ww_1045 ww_37 ww_77 ww_1046) hy_X6_shader rfl (Nat.le_of_ble_eq_true rfl) (Nat.le_of_ble_eq_true rfl) (Nat.le_of_ble_eq_true rfl) ?_
        refine zr_goto hX dX6_shades_39 (tgt := 47) rfl ?_
        exact zr_iret hX dX6_shades_47 hF h
    · refine zr_iconst hX dX6_shades_21 (zrl rfl) ?_
      exact zr_iret hX dX6_shades_22 hF h
set_option maxRecDepth 100000 in
theorem m_M_shades {l : Launch} {G : zG} {v1 : Int} {v2 : Int} {v3 : Int} {μ : zM} {q : Int × zM} (hq : f_M_shades v1 v2 v3 μ = some q) : zCT l G yX6_shades cX6_shades 4 (some .int) 4 [zR 42, zI v1, zI v2, zI v3] μ (some (zI q.1)) q.2 := by
  refine zMet (lv := [some (zR 42), some (zI v1), some (zI v2), some (zI v3)]) (k := 0) pl_X6 rfl (Nat.le_of_ble_eq_true rfl) (fun X hl hX hF _ _ => ?_)
  exact w_M_shades_e hX hF (zP_of hq rfl)
set_option maxRecDepth 100000 in
set_option maxHeartbeats 4000000 in
theorem w_M_sees_e {X : zX} {G : zG} {v1 : Int} {v2 : Int} {μ : zM} {rv : Option zV} {ν : zM} (hX : zOk X G cX6_sees RX6 3 (some .int) 4) (hF : zFin X G rv ν) (h : zP (fun r : (Int × zM) => (some (zI r.1), r.2) = (rv, ν)) (f_M_sees v1 v2 μ)) : zW X G 3 0 [some (zR 42), some (zI v1), some (zI v2)] [] μ := by
  refine zr_aload_n hX dX6_sees_0 rfl rfl ?_
  refine zr_iload_n hX dX6_sees_1 rfl rfl ?_
  refine zr_iload_n hX dX6_sees_2 rfl rfl ?_
  refine zr_callV hX dX6_sees_3 (m_M_isTold) rfl rfl rfl (z5 ww_1010 ww_1012 ww_29 ww_77 ww_1013) hy_X6_isTold rfl (Nat.le_of_ble_eq_true rfl) (Nat.le_of_ble_eq_true rfl) (Nat.le_of_ble_eq_true rfl) ?_
  refine zr_ifne (tgt := 11) hX dX6_sees_6 rfl h (fun h => ?_) (fun h => ?_)
  · refine zr_aload_n hX dX6_sees_11 rfl rfl ?_
    refine zr_iload_n hX dX6_sees_12 rfl rfl ?_
    refine zr_iload_n hX dX6_sees_13 rfl rfl ?_
    refine zP_bind h (fun q1 hq1 h => ?_)
    refine zr_callV hX dX6_sees_14 (m_M_isThere hq1) rfl rfl rfl (z5 ww_1015 ww_1017 ww_30 ww_77 ww_1018) hy_X6_isThere rfl (Nat.le_of_ble_eq_true rfl) (Nat.le_of_ble_eq_true rfl) (Nat.le_of_ble_eq_true rfl) ?_
    refine zr_ifeq (tgt := 39) hX dX6_sees_17 rfl h (fun h => ?_) (fun h => ?_)
    · refine zr_aload_n hX dX6_sees_39 rfl rfl ?_
      refine zr_iconst hX dX6_sees_40 (zrl rfl) ?_
      refine zP_bind h (fun q2 hq2 h => ?_)
      refine zr_callV hX dX6_sees_41 (m_M_found hq2) rfl rfl rfl (z5 ww_921 ww_923 ww_21 ww_77 ww_924) hy_X6_found rfl (Nat.le_of_ble_eq_true rfl) (Nat.le_of_ble_eq_true rfl) (Nat.le_of_ble_eq_true rfl) ?_
      exact zr_iret hX dX6_sees_44 hF h
    · refine zr_aload_n hX dX6_sees_20 rfl rfl ?_
      refine zr_aload_n hX dX6_sees_21 rfl rfl ?_
      refine zr_iload_n hX dX6_sees_22 rfl rfl ?_
      refine zr_iload_n hX dX6_sees_23 rfl rfl ?_
      refine zP_bind h (fun q3 hq3 h => ?_)
      refine zr_callV hX dX6_sees_24 (m_M_lampsOver hq3) rfl rfl rfl (z5 ww_1090 ww_1092 ww_45 ww_77 ww_1093) hy_X6_lampsOver rfl (Nat.le_of_ble_eq_true rfl) (Nat.le_of_ble_eq_true rfl) (Nat.le_of_ble_eq_true rfl) ?_
      refine zr_aload_n hX dX6_sees_27 rfl rfl ?_
      refine zr_iload_n hX dX6_sees_28 rfl rfl ?_
      refine zr_iload_n hX dX6_sees_29 rfl rfl ?_
      refine zP_bind h (fun q4 hq4 h => ?_)
      refine zr_callV hX dX6_sees_30 (m_M_hoursOf hq4) rfl rfl rfl (z5 ww_1083 ww_1085 ww_44 ww_77 ww_1086) hy_X6_hoursOf rfl (Nat.le_of_ble_eq_true rfl) (Nat.le_of_ble_eq_true rfl) (Nat.le_of_ble_eq_true rfl) ?_
      refine zP_bind h (fun q5 hq5 h => ?_)
      refine zr_callV hX dX6_sees_33 (m_M_tells hq5) rfl rfl rfl (z5 ww_933 ww_935 ww_22 ww_77 ww_936) hy_X6_tells rfl (Nat.le_of_ble_eq_true rfl) (Nat.le_of_ble_eq_true rfl) (Nat.le_of_ble_eq_true rfl) ?_
      refine zr_goto hX dX6_sees_36 (tgt := 44) rfl ?_
      exact zr_iret hX dX6_sees_44 hF h
  · refine zr_iconst hX dX6_sees_9 (zrl rfl) ?_
    exact zr_iret hX dX6_sees_10 hF h
set_option maxRecDepth 100000 in
theorem m_M_sees {l : Launch} {G : zG} {v1 : Int} {v2 : Int} {μ : zM} {q : Int × zM} (hq : f_M_sees v1 v2 μ = some q) : zCT l G yX6_sees cX6_sees 3 (some .int) 4 [zR 42, zI v1, zI v2] μ (some (zI q.1)) q.2 := by
  refine zMet (lv := [some (zR 42), some (zI v1), some (zI v2)]) (k := 0) pl_X6 rfl (Nat.le_of_ble_eq_true rfl) (fun X hl hX hF _ _ => ?_)
  exact w_M_sees_e hX hF (zP_of hq rfl)
set_option maxRecDepth 100000 in
set_option maxHeartbeats 4000000 in
theorem w_M_isHouse_e {X : zX} {G : zG} {v1 : Int} {μ : zM} {rv : Option zV} {ν : zM} (hX : zOk X G cX6_isHouse RX6 2 (some .boolean) 3) (hF : zFin X G rv ν) (h : zP (fun r : Int => (some (zI r), μ) = (rv, ν)) (f_M_isHouse v1 μ)) : zW X G 2 0 [some (zR 42), some (zI v1)] [] μ := by
  refine zr_iload_n hX dX6_isHouse_0 rfl rfl ?_
  refine zr_i2l hX dX6_isHouse_1 ?_
  refine zr_lconst hX dX6_isHouse_2 (n := 0) rfl (zrlJ rfl) ?_
  refine zr_aload_n hX dX6_isHouse_3 rfl rfl ?_
  refine zP_bind h (fun q1 hq1 h => ?_)
  refine zr_callV hX dX6_isHouse_4 (m_M_houses hq1) rfl rfl rfl (z5 ww_1023 ww_1025 ww_32 ww_77 ww_1026) hy_X6_houses rfl (Nat.le_of_ble_eq_true rfl) (Nat.le_of_ble_eq_true rfl) (Nat.le_of_ble_eq_true rfl) ?_
  refine zr_iconst hX dX6_isHouse_7 (zrl rfl) ?_
  refine zr_isub hX dX6_isHouse_8 ?_
  refine zr_i2l hX dX6_isHouse_9 ?_
  refine zr_callS hX dX6_isHouse_10 (m_M_in) rfl (z4 ww_918 ww_919 ww_77 ww_920) hy_X6_in rfl (Nat.le_of_ble_eq_true rfl) (Nat.le_of_ble_eq_true rfl) (Nat.le_of_ble_eq_true rfl) ?_
  exact zr_bretc hX dX6_isHouse_13 hF (b_M_in _ _ _) h
set_option maxRecDepth 100000 in
theorem m_M_isHouse {l : Launch} {G : zG} {v1 : Int} {μ : zM} {q : Int} (hq : f_M_isHouse v1 μ = some q) : zCT l G yX6_isHouse cX6_isHouse 2 (some .boolean) 3 [zR 42, zI v1] μ (some (zI q)) μ := by
  refine zMet (lv := [some (zR 42), some (zI v1)]) (k := 0) pl_X6 rfl (Nat.le_of_ble_eq_true rfl) (fun X hl hX hF _ _ => ?_)
  exact w_M_isHouse_e hX hF (zP_of hq rfl)
set_option maxRecDepth 100000 in
set_option maxHeartbeats 4000000 in
theorem w_M_owes_e {X : zX} {G : zG} {v1 : Int} {v2 : Int} {μ : zM} {rv : Option zV} {ν : zM} (hX : zOk X G cX6_owes RX6 3 (some .int) 4) (hF : zFin X G rv ν) (h : zP (fun r : (Int × zM) => (some (zI r.1), r.2) = (rv, ν)) (f_M_owes v1 v2 μ)) : zW X G 3 0 [some (zR 42), some (zI v1), some (zI v2)] [] μ := by
  refine zr_aload_n hX dX6_owes_0 rfl rfl ?_
  refine zr_iload_n hX dX6_owes_1 rfl rfl ?_
  refine zP_bind h (fun q1 hq1 h => ?_)
  refine zr_callV hX dX6_owes_2 (m_M_isHouse hq1) rfl rfl rfl (z5 ww_1178 ww_1180 ww_54 ww_77 ww_1181) hy_X6_isHouse rfl (Nat.le_of_ble_eq_true rfl) (Nat.le_of_ble_eq_true rfl) (Nat.le_of_ble_eq_true rfl) ?_
  refine zr_ifeq (tgt := 21) hX dX6_owes_5 rfl h (fun h => ?_) (fun h => ?_)
  · refine zr_iconst hX dX6_owes_21 (zrl rfl) ?_
    exact zr_iret hX dX6_owes_22 hF h
  · refine zr_aload_n hX dX6_owes_8 rfl rfl ?_
    refine zr_iload_n hX dX6_owes_9 rfl rfl ?_
    refine zP_bind h (fun q2 hq2 h => ?_)
    refine zr_callV hX dX6_owes_10 (m_M_isHouse hq2) rfl rfl rfl (z5 ww_1178 ww_1180 ww_54 ww_77 ww_1181) hy_X6_isHouse rfl (Nat.le_of_ble_eq_true rfl) (Nat.le_of_ble_eq_true rfl) (Nat.le_of_ble_eq_true rfl) ?_
    refine zr_ifeq (tgt := 21) hX dX6_owes_13 rfl h (fun h => ?_) (fun h => ?_)
    · refine zr_iconst hX dX6_owes_21 (zrl rfl) ?_
      exact zr_iret hX dX6_owes_22 hF h
    · refine zr_iload_n hX dX6_owes_16 rfl rfl ?_
      refine zr_iload_n hX dX6_owes_17 rfl rfl ?_
      refine zr_icmpne (tgt := 23) hX dX6_owes_18 rfl h (fun h => ?_) (fun h => ?_)
      · refine zr_aload_n hX dX6_owes_23 rfl rfl ?_
        refine zP_bind h (fun q3 hq3 h => ?_)
        refine zr_callV hX dX6_owes_24 (m_M_layLamps hq3) rfl rfl rfl (z5 ww_1019 ww_1021 ww_31 ww_77 ww_1022) hy_X6_layLamps rfl (Nat.le_of_ble_eq_true rfl) (Nat.le_of_ble_eq_true rfl) (Nat.le_of_ble_eq_true rfl) ?_
        refine zr_aload_n hX dX6_owes_27 rfl rfl ?_
        refine zr_getr hX dX6_owes_28 (k := 13) (q := 51) rfl rfl ww_864 rfl ?_
        refine zr_bipush hX dX6_owes_31 rfl ?_
        refine zr_iload_n hX dX6_owes_33 rfl rfl ?_
        refine zr_imul hX dX6_owes_34 ?_
        refine zr_iload_n hX dX6_owes_35 rfl rfl ?_
        refine zr_iadd hX dX6_owes_36 ?_
        refine zr_iald (N := 144) hX dX6_owes_37 rfl rfl h (fun h => ?_)
        exact zr_iret hX dX6_owes_38 hF h
      · refine zr_iconst hX dX6_owes_21 (zrl rfl) ?_
        exact zr_iret hX dX6_owes_22 hF h
set_option maxRecDepth 100000 in
theorem m_M_owes {l : Launch} {G : zG} {v1 : Int} {v2 : Int} {μ : zM} {q : Int × zM} (hq : f_M_owes v1 v2 μ = some q) : zCT l G yX6_owes cX6_owes 3 (some .int) 4 [zR 42, zI v1, zI v2] μ (some (zI q.1)) q.2 := by
  refine zMet (lv := [some (zR 42), some (zI v1), some (zI v2)]) (k := 0) pl_X6 rfl (Nat.le_of_ble_eq_true rfl) (fun X hl hX hF _ _ => ?_)
  exact w_M_owes_e hX hF (zP_of hq rfl)
set_option maxRecDepth 100000 in
set_option maxHeartbeats 4000000 in
theorem w_M_debt_e {X : zX} {G : zG} {v1 : Int} {μ : zM} {rv : Option zV} {ν : zM} (hX : zOk X G cX6_debt RX6 2 (some .int) 4) (hF : zFin X G rv ν) (h : zP (fun r : (Int × zM) => (some (zI r.1), r.2) = (rv, ν)) (f_M_debt v1 μ)) : zW X G 2 0 [some (zR 42), some (zI v1)] [] μ := by
  refine zr_aload_n hX dX6_debt_0 rfl rfl ?_
  refine zr_iload_n hX dX6_debt_1 rfl rfl ?_
  refine zP_bind h (fun q1 hq1 h => ?_)
  refine zr_callV hX dX6_debt_2 (m_M_isHouse hq1) rfl rfl rfl (z5 ww_1178 ww_1180 ww_54 ww_77 ww_1181) hy_X6_isHouse rfl (Nat.le_of_ble_eq_true rfl) (Nat.le_of_ble_eq_true rfl) (Nat.le_of_ble_eq_true rfl) ?_
  refine zr_ifne (tgt := 10) hX dX6_debt_5 rfl h (fun h => ?_) (fun h => ?_)
  · refine zr_aload_n hX dX6_debt_10 rfl rfl ?_
    refine zP_bind h (fun q2 hq2 h => ?_)
    refine zr_callV hX dX6_debt_11 (m_M_layLamps hq2) rfl rfl rfl (z5 ww_1019 ww_1021 ww_31 ww_77 ww_1022) hy_X6_layLamps rfl (Nat.le_of_ble_eq_true rfl) (Nat.le_of_ble_eq_true rfl) (Nat.le_of_ble_eq_true rfl) ?_
    refine zr_aload_n hX dX6_debt_14 rfl rfl ?_
    refine zr_aload_n hX dX6_debt_15 rfl rfl ?_
    refine zr_iload_n hX dX6_debt_16 rfl rfl ?_
    refine zP_bind h (fun q3 hq3 h => ?_)
    refine zr_callV hX dX6_debt_17 (m_M_owesAll hq3) rfl rfl rfl (z5 ww_1097 ww_1099 ww_46 ww_77 ww_1100) hy_X6_owesAll rfl (Nat.le_of_ble_eq_true rfl) (Nat.le_of_ble_eq_true rfl) (Nat.le_of_ble_eq_true rfl) ?_
    refine zr_aload_n hX dX6_debt_20 rfl rfl ?_
    refine zr_iload_n hX dX6_debt_21 rfl rfl ?_
    refine zP_bind h (fun q4 hq4 h => ?_)
    refine zr_callV hX dX6_debt_22 (m_M_owedAll hq4) rfl rfl rfl (z5 ww_1101 ww_1103 ww_47 ww_77 ww_1104) hy_X6_owedAll rfl (Nat.le_of_ble_eq_true rfl) (Nat.le_of_ble_eq_true rfl) (Nat.le_of_ble_eq_true rfl) ?_
    refine zr_isub hX dX6_debt_25 ?_
    refine zr_iconst hX dX6_debt_26 (zrl rfl) ?_
    refine zP_bind h (fun q5 hq5 h => ?_)
    refine zr_callV hX dX6_debt_27 (m_M_tells hq5) rfl rfl rfl (z5 ww_933 ww_935 ww_22 ww_77 ww_936) hy_X6_tells rfl (Nat.le_of_ble_eq_true rfl) (Nat.le_of_ble_eq_true rfl) (Nat.le_of_ble_eq_true rfl) ?_
    exact zr_iret hX dX6_debt_30 hF h
  · refine zr_iconst hX dX6_debt_8 (zrl rfl) ?_
    exact zr_iret hX dX6_debt_9 hF h
set_option maxRecDepth 100000 in
theorem m_M_debt {l : Launch} {G : zG} {v1 : Int} {μ : zM} {q : Int × zM} (hq : f_M_debt v1 μ = some q) : zCT l G yX6_debt cX6_debt 2 (some .int) 4 [zR 42, zI v1] μ (some (zI q.1)) q.2 := by
  refine zMet (lv := [some (zR 42), some (zI v1)]) (k := 0) pl_X6 rfl (Nat.le_of_ble_eq_true rfl) (fun X hl hX hF _ _ => ?_)
  exact w_M_debt_e hX hF (zP_of hq rfl)
set_option maxRecDepth 100000 in
set_option maxHeartbeats 4000000 in
theorem w_M_light_e {X : zX} {G : zG} {μ : zM} {rv : Option zV} {ν : zM} (hX : zOk X G cX6_light RX6 1 (some .int) 7) (hF : zFin X G rv ν) (h : zP (fun r : (Int × zM) => (some (zI r.1), r.2) = (rv, ν)) (f_M_light μ)) : zW X G 1 0 [some (zR 42)] [] μ := by
  refine zr_aload_n hX dX6_light_0 rfl rfl ?_
  refine zr_aload_n hX dX6_light_1 rfl rfl ?_
  refine zP_bind h (fun q1 hq1 h => ?_)
  refine zr_callV hX dX6_light_2 (m_M_allLamps hq1) rfl rfl rfl (z5 ww_1190 ww_1192 ww_55 ww_77 ww_1193) hy_X6_allLamps rfl (Nat.le_of_ble_eq_true rfl) (Nat.le_of_ble_eq_true rfl) (Nat.le_of_ble_eq_true rfl) ?_
  refine zr_aload_n hX dX6_light_5 rfl rfl ?_
  refine zP_bind h (fun q2 hq2 h => ?_)
  refine zr_callV hX dX6_light_6 (m_M_allLight hq2) rfl rfl rfl (z5 ww_1194 ww_1196 ww_56 ww_77 ww_1197) hy_X6_allLight rfl (Nat.le_of_ble_eq_true rfl) (Nat.le_of_ble_eq_true rfl) (Nat.le_of_ble_eq_true rfl) ?_
  refine zP_bind h (fun q3 hq3 h => ?_)
  refine zr_callV hX dX6_light_9 (m_M_tells hq3) rfl rfl rfl (z5 ww_933 ww_935 ww_22 ww_77 ww_936) hy_X6_tells rfl (Nat.le_of_ble_eq_true rfl) (Nat.le_of_ble_eq_true rfl) (Nat.le_of_ble_eq_true rfl) ?_
  exact zr_iret hX dX6_light_12 hF h
set_option maxRecDepth 100000 in
theorem m_M_light {l : Launch} {G : zG} {μ : zM} {q : Int × zM} (hq : f_M_light μ = some q) : zCT l G yX6_light cX6_light 1 (some .int) 7 [zR 42] μ (some (zI q.1)) q.2 := by
  refine zMet (lv := [some (zR 42)]) (k := 0) pl_X6 rfl (Nat.le_of_ble_eq_true rfl) (fun X hl hX hF _ _ => ?_)
  exact w_M_light_e hX hF (zP_of hq rfl)
def k_M_ruined (X : zX) (G : zG) : (Int × Int × Int × zM) → Prop := fun s => zW X G 5 11 [some (zR 42), some (zI s.1), some (zI s.2.1), some (zI s.2.2.1), none] [] s.2.2.2
theorem k_M_ruined_11 {X : zX} {G : zG} {F : (Int × zM) → Prop} {v1 v2 v3 : Int} {κ : zM} (h : zP (Sum.elim (k_M_ruined X G) F) (some (.inl ((v1, v2, v3, κ))))) : zW X G 5 11 [some (zR 42), some (zI v1), some (zI v2), some (zI v3), none] [] κ := h
set_option maxRecDepth 100000 in
set_option maxHeartbeats 4000000 in
theorem w_M_ruined_37 {X : zX} {G : zG} {μ : zM} {rv : Option zV} {ν : zM} (hX : zOk X G cX6_ruined RX6 5 (some .int) 4) (hF : zFin X G rv ν) {v2 v3 v4 w0 : Int} (h : zP (Sum.elim (k_M_ruined X G) (fun r : (Int × zM) => (some (zI r.1), r.2) = (rv, ν))) (j_M_ruined_37 v2 v3 v4 w0 μ)) : zW X G 5 37 [some (zR 42), none, some (zI v2), some (zI v3), some (zI v4)] [zI w0] μ := by
  refine zr_istore_n hX dX6_ruined_37 rfl (Nat.le_of_ble_eq_true rfl) ?_
  refine zr_iload hX dX6_ruined_38 rfl ?_
  refine zr_iload_n hX dX6_ruined_40 rfl rfl ?_
  refine zr_icmple (tgt := 49) hX dX6_ruined_41 rfl h (fun h => ?_) (fun h => ?_)
  · refine zr_iload_n hX dX6_ruined_49 rfl rfl ?_
    refine zr_istore_n hX dX6_ruined_50 rfl (Nat.le_of_ble_eq_true rfl) ?_
    refine zr_iinc hX dX6_ruined_51 rfl (Nat.le_of_ble_eq_true rfl) ?_
    refine zr_goto hX dX6_ruined_54 (tgt := 11) rfl ?_
    exact zW_lf (k_M_ruined_11 h) (And.intro rfl (And.intro rfl (And.intro rfl (And.intro rfl trivial))))
  · refine zr_iload hX dX6_ruined_44 rfl ?_
    refine zr_goto hX dX6_ruined_46 (tgt := 50) rfl ?_
    refine zr_istore_n hX dX6_ruined_50 rfl (Nat.le_of_ble_eq_true rfl) ?_
    refine zr_iinc hX dX6_ruined_51 rfl (Nat.le_of_ble_eq_true rfl) ?_
    refine zr_goto hX dX6_ruined_54 (tgt := 11) rfl ?_
    exact zW_lf (k_M_ruined_11 h) (And.intro rfl (And.intro rfl (And.intro rfl (And.intro rfl trivial))))
set_option maxRecDepth 100000 in
set_option maxHeartbeats 4000000 in
theorem w_M_ruined_11 {X : zX} {G : zG} {μ : zM} {rv : Option zV} {ν : zM} (hX : zOk X G cX6_ruined RX6 5 (some .int) 4) (hF : zFin X G rv ν) {v1 v2 v3 : Int} (h : zP (Sum.elim (k_M_ruined X G) (fun r : (Int × zM) => (some (zI r.1), r.2) = (rv, ν))) (b_M_ruined_11 v1 v2 v3 μ)) : zW X G 5 11 [some (zR 42), some (zI v1), some (zI v2), some (zI v3), none] [] μ := by
  refine zr_iload_n hX dX6_ruined_11 rfl rfl ?_
  refine zr_aload_n hX dX6_ruined_12 rfl rfl ?_
  refine zP_bind h (fun q2 hq2 h => ?_)
  refine zr_callV hX dX6_ruined_13 (m_M_houses hq2) rfl rfl rfl (z5 ww_1023 ww_1025 ww_32 ww_77 ww_1026) hy_X6_houses rfl (Nat.le_of_ble_eq_true rfl) (Nat.le_of_ble_eq_true rfl) (Nat.le_of_ble_eq_true rfl) ?_
  refine zr_icmpge (tgt := 57) hX dX6_ruined_16 rfl h (fun h => ?_) (fun h => ?_)
  · refine zr_iload_n hX dX6_ruined_57 rfl rfl ?_
    refine zr_bipush hX dX6_ruined_58 rfl ?_
    refine zr_icmpne (tgt := 68) hX dX6_ruined_60 rfl h (fun h => ?_) (fun h => ?_)
    · refine zr_aload_n hX dX6_ruined_68 rfl rfl ?_
      refine zr_iload_n hX dX6_ruined_69 rfl rfl ?_
      refine zr_iload_n hX dX6_ruined_70 rfl rfl ?_
      refine zP_bind h (fun q3 hq3 h => ?_)
      refine zr_callV hX dX6_ruined_71 (m_M_tells hq3) rfl rfl rfl (z5 ww_933 ww_935 ww_22 ww_77 ww_936) hy_X6_tells rfl (Nat.le_of_ble_eq_true rfl) (Nat.le_of_ble_eq_true rfl) (Nat.le_of_ble_eq_true rfl) ?_
      exact zr_iret hX dX6_ruined_74 hF h
    · refine zr_bipush hX dX6_ruined_63 rfl ?_
      refine zr_goto hX dX6_ruined_65 (tgt := 74) rfl ?_
      exact zr_iret hX dX6_ruined_74 hF h
  · refine zr_aload_n hX dX6_ruined_19 rfl rfl ?_
    refine zr_iload_n hX dX6_ruined_20 rfl rfl ?_
    refine zP_bind h (fun q4 hq4 h => ?_)
    refine zr_callV hX dX6_ruined_21 (m_M_owesAll hq4) rfl rfl rfl (z5 ww_1097 ww_1099 ww_46 ww_77 ww_1100) hy_X6_owesAll rfl (Nat.le_of_ble_eq_true rfl) (Nat.le_of_ble_eq_true rfl) (Nat.le_of_ble_eq_true rfl) ?_
    refine zr_istore hX dX6_ruined_24 (Nat.le_of_ble_eq_true rfl) ?_
    refine zr_iload hX dX6_ruined_26 rfl ?_
    refine zr_iload_n hX dX6_ruined_28 rfl rfl ?_
    refine zr_icmple (tgt := 36) hX dX6_ruined_29 rfl h (fun h => ?_) (fun h => ?_)
    · refine zr_iload_n hX dX6_ruined_36 rfl rfl ?_
      exact zW_lf (w_M_ruined_37 hX hF h) (And.intro rfl (And.intro rfl (And.intro rfl (And.intro rfl trivial))))
    · refine zr_iload_n hX dX6_ruined_32 rfl rfl ?_
      refine zr_goto hX dX6_ruined_33 (tgt := 37) rfl ?_
      exact zW_lf (w_M_ruined_37 hX hF h) (And.intro rfl (And.intro rfl (And.intro rfl (And.intro rfl trivial))))
set_option maxRecDepth 100000 in
set_option maxHeartbeats 4000000 in
theorem w_M_ruined_e {X : zX} {G : zG} {μ : zM} {rv : Option zV} {ν : zM} (hX : zOk X G cX6_ruined RX6 5 (some .int) 4) (hF : zFin X G rv ν) (h : zP (Sum.elim (k_M_ruined X G) (fun r : (Int × zM) => (some (zI r.1), r.2) = (rv, ν))) (e_M_ruined μ)) : zW X G 5 0 [some (zR 42), none, none, none, none] [] μ := by
  refine zr_bipush hX dX6_ruined_0 rfl ?_
  refine zr_istore_n hX dX6_ruined_2 rfl (Nat.le_of_ble_eq_true rfl) ?_
  refine zr_iconst hX dX6_ruined_3 (zrl rfl) ?_
  refine zr_istore_n hX dX6_ruined_4 rfl (Nat.le_of_ble_eq_true rfl) ?_
  refine zr_aload_n hX dX6_ruined_5 rfl rfl ?_
  refine zP_bind h (fun q1 hq1 h => ?_)
  refine zr_callV hX dX6_ruined_6 (m_M_layLamps hq1) rfl rfl rfl (z5 ww_1019 ww_1021 ww_31 ww_77 ww_1022) hy_X6_layLamps rfl (Nat.le_of_ble_eq_true rfl) (Nat.le_of_ble_eq_true rfl) (Nat.le_of_ble_eq_true rfl) ?_
  refine zr_iconst hX dX6_ruined_9 (zrl rfl) ?_
  refine zr_istore_n hX dX6_ruined_10 rfl (Nat.le_of_ble_eq_true rfl) ?_
  exact zW_lf (k_M_ruined_11 h) (And.intro rfl (And.intro rfl (And.intro rfl (And.intro rfl trivial))))
set_option maxRecDepth 100000 in
theorem m_M_ruined {l : Launch} {G : zG} {μ : zM} {q : Int × zM} (hq : f_M_ruined μ = some q) : zCT l G yX6_ruined cX6_ruined 5 (some .int) 4 [zR 42] μ (some (zI q.1)) q.2 := by
  refine zMet (lv := [some (zR 42), none, none, none, none]) (k := 4) pl_X6 rfl (Nat.le_of_ble_eq_true rfl) (fun X hl hX hF _ _ => ?_)
  refine w_M_ruined_e hX hF (zgo_K (r := q) (step := t_M_ruined) (fun s h => ?_) rfl hq)
  exact w_M_ruined_11 hX hF h
def k_M_firstOf (X : zX) (G : zG) (v1 : Int) (μ : zM) : Int → Prop := fun s => zW X G 3 2 [none, some (zI v1), some (zI s)] [] μ
theorem k_M_firstOf_2 {X : zX} {G : zG} {v1 : Int} {μ : zM} {F : Int → Prop} {v2 : Int} (h : zP (Sum.elim (k_M_firstOf X G v1 μ) F) (some (.inl (v2)))) : zW X G 3 2 [none, some (zI v1), some (zI v2)] [] μ := h
set_option maxRecDepth 100000 in
set_option maxHeartbeats 4000000 in
theorem w_M_firstOf_2 {X : zX} {G : zG} {v1 : Int} {μ : zM} {rv : Option zV} {ν : zM} (hX : zOk X G cX6_firstOf RX6 3 (some .int) 2) (hF : zFin X G rv ν) {v2 : Int} (h : zP (Sum.elim (k_M_firstOf X G v1 μ) (fun r : Int => (some (zI r), μ) = (rv, ν))) (b_M_firstOf_2 v1 v2)) : zW X G 3 2 [none, some (zI v1), some (zI v2)] [] μ := by
  refine zr_iload_n hX dX6_firstOf_2 rfl rfl ?_
  refine zr_iload_n hX dX6_firstOf_3 rfl rfl ?_
  refine zr_callS hX dX6_firstOf_4 (m_M_has) rfl (z4 ww_1214 ww_1215 ww_77 ww_1216) hy_X6_has rfl (Nat.le_of_ble_eq_true rfl) (Nat.le_of_ble_eq_true rfl) (Nat.le_of_ble_eq_true rfl) ?_
  refine zr_ifne (tgt := 16) hX dX6_firstOf_7 rfl h (fun h => ?_) (fun h => ?_)
  · refine zr_iload_n hX dX6_firstOf_16 rfl rfl ?_
    exact zr_iret hX dX6_firstOf_17 hF h
  · refine zr_iinc hX dX6_firstOf_10 rfl (Nat.le_of_ble_eq_true rfl) ?_
    refine zr_goto hX dX6_firstOf_13 (tgt := 2) rfl ?_
    exact zW_lf (k_M_firstOf_2 h) (And.intro rfl (And.intro rfl trivial))
set_option maxRecDepth 100000 in
set_option maxHeartbeats 4000000 in
theorem w_M_firstOf_e {X : zX} {G : zG} {v1 : Int} {μ : zM} {rv : Option zV} {ν : zM} (hX : zOk X G cX6_firstOf RX6 3 (some .int) 2) (hF : zFin X G rv ν) (h : zP (Sum.elim (k_M_firstOf X G v1 μ) (fun r : Int => (some (zI r), μ) = (rv, ν))) (e_M_firstOf v1)) : zW X G 3 0 [some (zR 42), some (zI v1), none] [] μ := by
  refine zr_iconst hX dX6_firstOf_0 (zrl rfl) ?_
  refine zr_istore_n hX dX6_firstOf_1 rfl (Nat.le_of_ble_eq_true rfl) ?_
  exact zW_lf (k_M_firstOf_2 h) (And.intro rfl (And.intro rfl trivial))
set_option maxRecDepth 100000 in
theorem m_M_firstOf {l : Launch} {G : zG} {v1 : Int} {μ : zM} {q : Int} (hq : f_M_firstOf v1 = some q) : zCT l G yX6_firstOf cX6_firstOf 3 (some .int) 2 [zR 42, zI v1] μ (some (zI q)) μ := by
  refine zMet (lv := [some (zR 42), some (zI v1), none]) (k := 1) pl_X6 rfl (Nat.le_of_ble_eq_true rfl) (fun X hl hX hF _ _ => ?_)
  refine w_M_firstOf_e hX hF (zgo_K (r := q) (step := t_M_firstOf v1) (fun s h => ?_) rfl hq)
  exact w_M_firstOf_2 hX hF h
set_option maxRecDepth 100000 in
set_option maxHeartbeats 4000000 in
theorem w_M_sways_e {X : zX} {G : zG} {μ : zM} {rv : Option zV} {ν : zM} (hX : zOk X G cX6_sways RX6 2 (some .int) 5) (hF : zFin X G rv ν) (h : zP (fun r : (Int × zM) => (some (zI r.1), r.2) = (rv, ν)) (f_M_sways μ)) : zW X G 2 0 [some (zR 42), none] [] μ := by
  refine zr_aload_n hX dX6_sways_0 rfl rfl ?_
  refine zP_bind h (fun q1 hq1 h => ?_)
  refine zr_callV hX dX6_sways_1 (m_M_swaying hq1) rfl rfl rfl (z5 ww_1206 ww_1208 ww_57 ww_77 ww_1209) hy_X6_swaying rfl (Nat.le_of_ble_eq_true rfl) (Nat.le_of_ble_eq_true rfl) (Nat.le_of_ble_eq_true rfl) ?_
  refine zr_istore_n hX dX6_sways_4 rfl (Nat.le_of_ble_eq_true rfl) ?_
  refine zr_iload_n hX dX6_sways_5 rfl rfl ?_
  refine zr_ifne (tgt := 19) hX dX6_sways_6 rfl h (fun h => ?_) (fun h => ?_)
  · refine zr_aload_n hX dX6_sways_19 rfl rfl ?_
    refine zr_iload_n hX dX6_sways_20 rfl rfl ?_
    refine zP_bind h (fun q2 hq2 h => ?_)
    refine zr_callS hX dX6_sways_21 (m_M_ones hq2) rfl (z4 ww_1087 ww_1088 ww_77 ww_1089) hy_X6_ones rfl (Nat.le_of_ble_eq_true rfl) (Nat.le_of_ble_eq_true rfl) (Nat.le_of_ble_eq_true rfl) ?_
    refine zr_aload_n hX dX6_sways_24 rfl rfl ?_
    refine zr_iload_n hX dX6_sways_25 rfl rfl ?_
    refine zP_bind h (fun q3 hq3 h => ?_)
    refine zr_callV hX dX6_sways_26 (m_M_firstOf hq3) rfl rfl rfl (z5 ww_1210 ww_1212 ww_58 ww_77 ww_1213) hy_X6_firstOf rfl (Nat.le_of_ble_eq_true rfl) (Nat.le_of_ble_eq_true rfl) (Nat.le_of_ble_eq_true rfl) ?_
    refine zP_bind h (fun q4 hq4 h => ?_)
    refine zr_callV hX dX6_sways_29 (m_M_tells hq4) rfl rfl rfl (z5 ww_933 ww_935 ww_22 ww_77 ww_936) hy_X6_tells rfl (Nat.le_of_ble_eq_true rfl) (Nat.le_of_ble_eq_true rfl) (Nat.le_of_ble_eq_true rfl) ?_
    exact zr_iret hX dX6_sways_32 hF h
  · refine zr_aload_n hX dX6_sways_9 rfl rfl ?_
    refine zr_iconst hX dX6_sways_10 (zrl rfl) ?_
    refine zr_bipush hX dX6_sways_11 rfl ?_
    refine zP_bind h (fun q5 hq5 h => ?_)
    refine zr_callV hX dX6_sways_13 (m_M_tells hq5) rfl rfl rfl (z5 ww_933 ww_935 ww_22 ww_77 ww_936) hy_X6_tells rfl (Nat.le_of_ble_eq_true rfl) (Nat.le_of_ble_eq_true rfl) (Nat.le_of_ble_eq_true rfl) ?_
    refine zr_goto hX dX6_sways_16 (tgt := 32) rfl ?_
    exact zr_iret hX dX6_sways_32 hF h
set_option maxRecDepth 100000 in
theorem m_M_sways {l : Launch} {G : zG} {μ : zM} {q : Int × zM} (hq : f_M_sways μ = some q) : zCT l G yX6_sways cX6_sways 2 (some .int) 5 [zR 42] μ (some (zI q.1)) q.2 := by
  refine zMet (lv := [some (zR 42), none]) (k := 1) pl_X6 rfl (Nat.le_of_ble_eq_true rfl) (fun X hl hX hF _ _ => ?_)
  exact w_M_sways_e hX hF (zP_of hq rfl)
set_option maxRecDepth 100000 in
set_option maxHeartbeats 4000000 in
theorem w_M_lays_e {X : zX} {G : zG} {μ : zM} {rv : Option zV} {ν : zM} (hX : zOk X G cX6_lays RX6 1 none 2) (hF : zFin X G rv ν) (h : zP (fun r : zM => ((none : Option zV), r) = (rv, ν)) (f_M_lays μ)) : zW X G 1 0 [some (zR 42)] [] μ := by
  refine zr_aload_n hX dX6_lays_0 rfl rfl ?_
  refine zr_iconst hX dX6_lays_1 (zrl rfl) ?_
  refine zr_sipush hX dX6_lays_2 rfl ?_
  refine zr_bipush hX dX6_lays_5 rfl ?_
  refine zP_bind h (fun q1 hq1 h => ?_)
  refine zr_callV hX dX6_lays_7 (m_M_copyAll hq1) rfl rfl rfl (z5 ww_994 ww_996 ww_27 ww_77 ww_997) hy_X6_copyAll rfl (Nat.le_of_ble_eq_true rfl) (Nat.le_of_ble_eq_true rfl) (Nat.le_of_ble_eq_true rfl) ?_
  exact zr_vret hX dX6_lays_10 hF h
set_option maxRecDepth 100000 in
theorem m_M_lays {l : Launch} {G : zG} {μ : zM} {q : zM} (hq : f_M_lays μ = some q) : zCT l G yX6_lays cX6_lays 1 none 2 [zR 42] μ (none) q := by
  refine zMet (lv := [some (zR 42)]) (k := 0) pl_X6 rfl (Nat.le_of_ble_eq_true rfl) (fun X hl hX hF _ _ => ?_)
  exact w_M_lays_e hX hF (zP_of hq rfl)
set_option maxRecDepth 100000 in
set_option maxHeartbeats 4000000 in
theorem w_M_putsBack_e {X : zX} {G : zG} {μ : zM} {rv : Option zV} {ν : zM} (hX : zOk X G cX6_putsBack RX6 1 none 2) (hF : zFin X G rv ν) (h : zP (fun r : zM => ((none : Option zV), r) = (rv, ν)) (f_M_putsBack μ)) : zW X G 1 0 [some (zR 42)] [] μ := by
  refine zr_aload_n hX dX6_putsBack_0 rfl rfl ?_
  refine zr_sipush hX dX6_putsBack_1 rfl ?_
  refine zr_iconst hX dX6_putsBack_4 (zrl rfl) ?_
  refine zr_bipush hX dX6_putsBack_5 rfl ?_
  refine zP_bind h (fun q1 hq1 h => ?_)
  refine zr_callV hX dX6_putsBack_7 (m_M_copyAll hq1) rfl rfl rfl (z5 ww_994 ww_996 ww_27 ww_77 ww_997) hy_X6_copyAll rfl (Nat.le_of_ble_eq_true rfl) (Nat.le_of_ble_eq_true rfl) (Nat.le_of_ble_eq_true rfl) ?_
  exact zr_vret hX dX6_putsBack_10 hF h
set_option maxRecDepth 100000 in
theorem m_M_putsBack {l : Launch} {G : zG} {μ : zM} {q : zM} (hq : f_M_putsBack μ = some q) : zCT l G yX6_putsBack cX6_putsBack 1 none 2 [zR 42] μ (none) q := by
  refine zMet (lv := [some (zR 42)]) (k := 0) pl_X6 rfl (Nat.le_of_ble_eq_true rfl) (fun X hl hX hF _ _ => ?_)
  exact w_M_putsBack_e hX hF (zP_of hq rfl)
set_option maxRecDepth 100000 in
set_option maxHeartbeats 4000000 in
theorem w_M_isKind_e {X : zX} {G : zG} {v0 : Int} {μ : zM} {rv : Option zV} {ν : zM} (hX : zOk X G cX6_isKind RX6 1 (some .boolean) 2) (hF : zFin X G rv ν) (h : zP (fun r : Int => (some (zI r), μ) = (rv, ν)) (fo_M_isKind v0)) : zW X G 1 0 [some (zI v0)] [] μ := by
  refine zr_iload_n hX dX6_isKind_0 rfl rfl ?_
  refine zr_i2l hX dX6_isKind_1 ?_
  refine zr_lconst hX dX6_isKind_2 (n := 0) rfl (zrlJ rfl) ?_
  refine zr_ldc2 hX dX6_isKind_3 ww_917 rfl (zrlJ rfl) ?_
  refine zr_callS hX dX6_isKind_6 (m_M_in) rfl (z4 ww_918 ww_919 ww_77 ww_920) hy_X6_in rfl (Nat.le_of_ble_eq_true rfl) (Nat.le_of_ble_eq_true rfl) (Nat.le_of_ble_eq_true rfl) ?_
  exact zr_bretc hX dX6_isKind_9 hF (b_M_in _ _ _) h
set_option maxRecDepth 100000 in
theorem m_M_isKind {l : Launch} {G : zG} {v0 : Int} {μ : zM} : zCT l G yX6_isKind cX6_isKind 1 (some .boolean) 2 [zI v0] μ (some (zI (f_M_isKind v0))) μ := by
  refine zMet (lv := [some (zI v0)]) (k := 0) pl_X6 rfl (Nat.le_of_ble_eq_true rfl) (fun X hl hX hF _ _ => ?_)
  exact w_M_isKind_e hX hF (by rw [fo_M_isKind_eq]; rfl)
def k_M_best (X : zX) (G : zG) (v1 : Int) (v2 : Int) : (Int × Int × Int × zM) → Prop := fun s => zW X G 7 45 [some (zR 42), some (zI v1), some (zI v2), some (zI s.1), some (zI s.2.1), some (zI s.2.2.1), none] [] s.2.2.2
theorem k_M_best_45 {X : zX} {G : zG} {v1 : Int} {v2 : Int} {F : (Int × zM) → Prop} {v3 v4 v5 : Int} {κ : zM} (h : zP (Sum.elim (k_M_best X G v1 v2) F) (some (.inl ((v3, v4, v5, κ))))) : zW X G 7 45 [some (zR 42), some (zI v1), some (zI v2), some (zI v3), some (zI v4), some (zI v5), none] [] κ := h
set_option maxRecDepth 100000 in
set_option maxHeartbeats 4000000 in
theorem w_M_best_105 {X : zX} {G : zG} {v1 : Int} {v2 : Int} {μ : zM} {rv : Option zV} {ν : zM} (hX : zOk X G cX6_best RX6 7 (some .int) 5) (hF : zFin X G rv ν) {v4 v5 v6 w0 : Int} (h : zP (Sum.elim (k_M_best X G v1 v2) (fun r : (Int × zM) => (some (zI r.1), r.2) = (rv, ν))) (j_M_best_105 v1 v2 v4 v5 v6 w0 μ)) : zW X G 7 105 [some (zR 42), some (zI v1), some (zI v2), none, some (zI v4), some (zI v5), some (zI v6)] [zI w0] μ := by
  refine zr_istore_n hX dX6_best_105 rfl (Nat.le_of_ble_eq_true rfl) ?_
  refine zr_iload hX dX6_best_106 rfl ?_
  refine zr_iload hX dX6_best_108 rfl ?_
  refine zr_icmpge (tgt := 118) hX dX6_best_110 rfl h (fun h => ?_) (fun h => ?_)
  · refine zr_iload hX dX6_best_118 rfl ?_
    refine zr_istore hX dX6_best_120 (Nat.le_of_ble_eq_true rfl) ?_
    refine zr_aload_n hX dX6_best_122 rfl rfl ?_
    refine zP_bind h (fun q7 hq7 h => ?_)
    refine zr_callV hX dX6_best_123 (m_M_putsBack hq7) rfl rfl rfl (z5 ww_1229 ww_1231 ww_60 ww_77 ww_1232) hy_X6_putsBack rfl (Nat.le_of_ble_eq_true rfl) (Nat.le_of_ble_eq_true rfl) (Nat.le_of_ble_eq_true rfl) ?_
    refine zr_iinc hX dX6_best_126 rfl (Nat.le_of_ble_eq_true rfl) ?_
    refine zr_goto hX dX6_best_129 (tgt := 45) rfl ?_
    exact zW_lf (k_M_best_45 h) (And.intro rfl (And.intro rfl (And.intro rfl (And.intro rfl (And.intro rfl (And.intro rfl trivial))))))
  · refine zr_iload hX dX6_best_113 rfl ?_
    refine zr_goto hX dX6_best_115 (tgt := 120) rfl ?_
    refine zr_istore hX dX6_best_120 (Nat.le_of_ble_eq_true rfl) ?_
    refine zr_aload_n hX dX6_best_122 rfl rfl ?_
    refine zP_bind h (fun q8 hq8 h => ?_)
    refine zr_callV hX dX6_best_123 (m_M_putsBack hq8) rfl rfl rfl (z5 ww_1229 ww_1231 ww_60 ww_77 ww_1232) hy_X6_putsBack rfl (Nat.le_of_ble_eq_true rfl) (Nat.le_of_ble_eq_true rfl) (Nat.le_of_ble_eq_true rfl) ?_
    refine zr_iinc hX dX6_best_126 rfl (Nat.le_of_ble_eq_true rfl) ?_
    refine zr_goto hX dX6_best_129 (tgt := 45) rfl ?_
    exact zW_lf (k_M_best_45 h) (And.intro rfl (And.intro rfl (And.intro rfl (And.intro rfl (And.intro rfl (And.intro rfl trivial))))))
set_option maxRecDepth 100000 in
set_option maxHeartbeats 4000000 in
theorem w_M_best_90 {X : zX} {G : zG} {v1 : Int} {v2 : Int} {μ : zM} {rv : Option zV} {ν : zM} (hX : zOk X G cX6_best RX6 7 (some .int) 5) (hF : zFin X G rv ν) {v3 v4 v5 w0 : Int} (h : zP (Sum.elim (k_M_best X G v1 v2) (fun r : (Int × zM) => (some (zI r.1), r.2) = (rv, ν))) (j_M_best_90 v1 v2 v3 v4 v5 w0 μ)) : zW X G 7 90 [some (zR 42), some (zI v1), some (zI v2), some (zI v3), some (zI v4), some (zI v5), none] [zI w0] μ := by
  refine zr_istore hX dX6_best_90 (Nat.le_of_ble_eq_true rfl) ?_
  refine zr_iload hX dX6_best_92 rfl ?_
  refine zr_iload hX dX6_best_94 rfl ?_
  refine zr_icmpge (tgt := 104) hX dX6_best_96 rfl h (fun h => ?_) (fun h => ?_)
  · refine zr_iload_n hX dX6_best_104 rfl rfl ?_
    exact zW_lf (w_M_best_105 hX hF h) (And.intro rfl (And.intro rfl (And.intro rfl (And.intro rfl (And.intro rfl (And.intro rfl trivial))))))
  · refine zr_iload hX dX6_best_99 rfl ?_
    refine zr_goto hX dX6_best_101 (tgt := 105) rfl ?_
    exact zW_lf (w_M_best_105 hX hF h) (And.intro rfl (And.intro rfl (And.intro rfl (And.intro rfl (And.intro rfl (And.intro rfl trivial))))))
set_option maxRecDepth 100000 in
set_option maxHeartbeats 4000000 in
theorem w_M_best_45 {X : zX} {G : zG} {v1 : Int} {v2 : Int} {μ : zM} {rv : Option zV} {ν : zM} (hX : zOk X G cX6_best RX6 7 (some .int) 5) (hF : zFin X G rv ν) {v3 v4 v5 : Int} (h : zP (Sum.elim (k_M_best X G v1 v2) (fun r : (Int × zM) => (some (zI r.1), r.2) = (rv, ν))) (b_M_best_45 v1 v2 v3 v4 v5 μ)) : zW X G 7 45 [some (zR 42), some (zI v1), some (zI v2), some (zI v3), some (zI v4), some (zI v5), none] [] μ := by
  refine zr_iload hX dX6_best_45 rfl ?_
  refine zr_aload_n hX dX6_best_47 rfl rfl ?_
  refine zr_getr hX dX6_best_48 (k := 0) (q := 43) rfl rfl ww_851 rfl ?_
  refine zr_iconst hX dX6_best_51 (zrl rfl) ?_
  refine zr_ialdc hX dX6_best_52 (N := 10956) rfl rfl rfl ?_
  refine zr_icmpge (tgt := 132) hX dX6_best_53 rfl h (fun h => ?_) (fun h => ?_)
  · refine zr_iload_n hX dX6_best_132 rfl rfl ?_
    refine zr_bipush hX dX6_best_133 rfl ?_
    refine zr_icmpne (tgt := 143) hX dX6_best_135 rfl h (fun h => ?_) (fun h => ?_)
    · refine zr_aload_n hX dX6_best_143 rfl rfl ?_
      refine zr_iload hX dX6_best_144 rfl ?_
      refine zr_iload_n hX dX6_best_146 rfl rfl ?_
      refine zP_bind h (fun q2 hq2 h => ?_)
      refine zr_callV hX dX6_best_147 (m_M_tells hq2) rfl rfl rfl (z5 ww_933 ww_935 ww_22 ww_77 ww_936) hy_X6_tells rfl (Nat.le_of_ble_eq_true rfl) (Nat.le_of_ble_eq_true rfl) (Nat.le_of_ble_eq_true rfl) ?_
      exact zr_iret hX dX6_best_150 hF h
    · refine zr_bipush hX dX6_best_138 rfl ?_
      refine zr_goto hX dX6_best_140 (tgt := 150) rfl ?_
      exact zr_iret hX dX6_best_150 hF h
  · refine zr_aload_n hX dX6_best_56 rfl rfl ?_
    refine zr_iload hX dX6_best_57 rfl ?_
    refine zP_bind h (fun q3 hq3 h => ?_)
    refine zr_callV hX dX6_best_59 (m_M_hasRoom hq3) rfl rfl rfl (z5 ww_1132 ww_1134 ww_50 ww_77 ww_1135) hy_X6_hasRoom rfl (Nat.le_of_ble_eq_true rfl) (Nat.le_of_ble_eq_true rfl) (Nat.le_of_ble_eq_true rfl) ?_
    refine zr_ifeq (tgt := 126) hX dX6_best_62 rfl h (fun h => ?_) (fun h => ?_)
    · refine zr_iinc hX dX6_best_126 rfl (Nat.le_of_ble_eq_true rfl) ?_
      refine zr_goto hX dX6_best_129 (tgt := 45) rfl ?_
      exact zW_lf (k_M_best_45 h) (And.intro rfl (And.intro rfl (And.intro rfl (And.intro rfl (And.intro rfl (And.intro rfl trivial))))))
    · refine zr_aload_n hX dX6_best_65 rfl rfl ?_
      refine zr_iconst hX dX6_best_66 (zrl rfl) ?_
      refine zr_iload hX dX6_best_67 rfl ?_
      refine zr_iload_n hX dX6_best_69 rfl rfl ?_
      refine zr_iload_n hX dX6_best_70 rfl rfl ?_
      refine zP_bind h (fun q4 hq4 h => ?_)
      refine zr_callV hX dX6_best_71 (m_M_adds hq4) rfl rfl rfl (z5 ww_986 ww_988 ww_26 ww_77 ww_989) hy_X6_adds rfl (Nat.le_of_ble_eq_true rfl) (Nat.le_of_ble_eq_true rfl) (Nat.le_of_ble_eq_true rfl) ?_
      refine zr_aload_n hX dX6_best_74 rfl rfl ?_
      refine zP_bind h (fun q5 hq5 h => ?_)
      refine zr_callV hX dX6_best_75 (m_M_swaying hq5) rfl rfl rfl (z5 ww_1206 ww_1208 ww_57 ww_77 ww_1209) hy_X6_swaying rfl (Nat.le_of_ble_eq_true rfl) (Nat.le_of_ble_eq_true rfl) (Nat.le_of_ble_eq_true rfl) ?_
      refine zr_ifne (tgt := 88) hX dX6_best_78 rfl h (fun h => ?_) (fun h => ?_)
      · refine zr_ldc hX dX6_best_88 ww_1224 rfl (zrl rfl) ?_
        exact zW_lf (w_M_best_90 hX hF h) (And.intro rfl (And.intro rfl (And.intro rfl (And.intro rfl (And.intro rfl (And.intro rfl trivial))))))
      · refine zr_aload_n hX dX6_best_81 rfl rfl ?_
        refine zP_bind h (fun q6 hq6 h => ?_)
        refine zr_callV hX dX6_best_82 (m_M_allLamps hq6) rfl rfl rfl (z5 ww_1190 ww_1192 ww_55 ww_77 ww_1193) hy_X6_allLamps rfl (Nat.le_of_ble_eq_true rfl) (Nat.le_of_ble_eq_true rfl) (Nat.le_of_ble_eq_true rfl) ?_
        refine zr_goto hX dX6_best_85 (tgt := 90) rfl ?_
        exact zW_lf (w_M_best_90 hX hF h) (And.intro rfl (And.intro rfl (And.intro rfl (And.intro rfl (And.intro rfl (And.intro rfl trivial))))))
set_option maxRecDepth 100000 in
set_option maxHeartbeats 4000000 in
theorem w_M_best_e {X : zX} {G : zG} {v1 : Int} {v2 : Int} {μ : zM} {rv : Option zV} {ν : zM} (hX : zOk X G cX6_best RX6 7 (some .int) 5) (hF : zFin X G rv ν) (h : zP (Sum.elim (k_M_best X G v1 v2) (fun r : (Int × zM) => (some (zI r.1), r.2) = (rv, ν))) (e_M_best v1 v2 μ)) : zW X G 7 0 [some (zR 42), some (zI v1), some (zI v2), none, none, none, none] [] μ := by
  refine zr_iload_n hX dX6_best_0 rfl rfl ?_
  refine zr_callS hX dX6_best_1 (m_M_isKind) rfl (z4 ww_1221 ww_1222 ww_77 ww_1223) hy_X6_isKind rfl (Nat.le_of_ble_eq_true rfl) (Nat.le_of_ble_eq_true rfl) (Nat.le_of_ble_eq_true rfl) ?_
  refine zr_ifeq (tgt := 19) hX dX6_best_4 rfl h (fun h => ?_) (fun h => ?_)
  · refine zr_iconst hX dX6_best_19 (zrl rfl) ?_
    exact zr_iret hX dX6_best_20 hF h
  · refine zr_iload_n hX dX6_best_7 rfl rfl ?_
    refine zr_i2l hX dX6_best_8 ?_
    refine zr_lconst hX dX6_best_9 (n := 0) rfl (zrlJ rfl) ?_
    refine zr_ldc2 hX dX6_best_10 ww_1127 rfl (zrlJ rfl) ?_
    refine zr_callS hX dX6_best_13 (m_M_in) rfl (z4 ww_918 ww_919 ww_77 ww_920) hy_X6_in rfl (Nat.le_of_ble_eq_true rfl) (Nat.le_of_ble_eq_true rfl) (Nat.le_of_ble_eq_true rfl) ?_
    refine zr_ifne (tgt := 21) hX dX6_best_16 rfl h (fun h => ?_) (fun h => ?_)
    · refine zr_aload_n hX dX6_best_21 rfl rfl ?_
      refine zr_callV hX dX6_best_22 (m_M_isNone) rfl rfl rfl (z5 ww_1157 ww_1159 ww_53 ww_77 ww_1160) hy_X6_isNone rfl (Nat.le_of_ble_eq_true rfl) (Nat.le_of_ble_eq_true rfl) (Nat.le_of_ble_eq_true rfl) ?_
      refine zr_ifeq (tgt := 31) hX dX6_best_25 rfl h (fun h => ?_) (fun h => ?_)
      · refine zr_bipush hX dX6_best_31 rfl ?_
        refine zr_istore_n hX dX6_best_33 rfl (Nat.le_of_ble_eq_true rfl) ?_
        refine zr_ldc hX dX6_best_34 ww_1224 rfl (zrl rfl) ?_
        refine zr_istore hX dX6_best_36 (Nat.le_of_ble_eq_true rfl) ?_
        refine zr_aload_n hX dX6_best_38 rfl rfl ?_
        refine zP_bind h (fun q1 hq1 h => ?_)
        refine zr_callV hX dX6_best_39 (m_M_lays hq1) rfl rfl rfl (z5 ww_1225 ww_1227 ww_59 ww_77 ww_1228) hy_X6_lays rfl (Nat.le_of_ble_eq_true rfl) (Nat.le_of_ble_eq_true rfl) (Nat.le_of_ble_eq_true rfl) ?_
        refine zr_iconst hX dX6_best_42 (zrl rfl) ?_
        refine zr_istore hX dX6_best_43 (Nat.le_of_ble_eq_true rfl) ?_
        exact zW_lf (k_M_best_45 h) (And.intro rfl (And.intro rfl (And.intro rfl (And.intro rfl (And.intro rfl (And.intro rfl trivial))))))
      · refine zr_bipush hX dX6_best_28 rfl ?_
        exact zr_iret hX dX6_best_30 hF h
    · refine zr_iconst hX dX6_best_19 (zrl rfl) ?_
      exact zr_iret hX dX6_best_20 hF h
set_option maxRecDepth 100000 in
theorem m_M_best {l : Launch} {G : zG} {v1 : Int} {v2 : Int} {μ : zM} {q : Int × zM} (hq : f_M_best v1 v2 μ = some q) : zCT l G yX6_best cX6_best 7 (some .int) 5 [zR 42, zI v1, zI v2] μ (some (zI q.1)) q.2 := by
  refine zMet (lv := [some (zR 42), some (zI v1), some (zI v2), none, none, none, none]) (k := 4) pl_X6 rfl (Nat.le_of_ble_eq_true rfl) (fun X hl hX hF _ _ => ?_)
  refine w_M_best_e hX hF (zgo_K (r := q) (step := t_M_best v1 v2) (fun s h => ?_) rfl hq)
  exact w_M_best_45 hX hF h
def k_M_both (X : zX) (G : zG) (v1 : Int) (v2 : Int) (v3 : Int) : (Int × Int × Int × zM) → Prop := fun s => zW X G 10 53 [some (zR 42), some (zI v1), some (zI v2), some (zI v3), some (zI s.1), some (zI s.2.1), some (zI s.2.2.1), none, none, none] [] s.2.2.2
theorem k_M_both_53 {X : zX} {G : zG} {v1 : Int} {v2 : Int} {v3 : Int} {F : (Int × zM) → Prop} {v4 v5 v6 : Int} {κ : zM} (h : zP (Sum.elim (k_M_both X G v1 v2 v3) F) (some (.inl ((v4, v5, v6, κ))))) : zW X G 10 53 [some (zR 42), some (zI v1), some (zI v2), some (zI v3), some (zI v4), some (zI v5), some (zI v6), none, none, none] [] κ := h
set_option maxRecDepth 100000 in
set_option maxHeartbeats 4000000 in
theorem w_M_both_167 {X : zX} {G : zG} {v1 : Int} {v2 : Int} {v3 : Int} {μ : zM} {rv : Option zV} {ν : zM} (hX : zOk X G cX6_both RX6 10 (some .int) 5) (hF : zFin X G rv ν) {v5 v6 v9 w0 : Int} (h : zP (Sum.elim (k_M_both X G v1 v2 v3) (fun r : (Int × zM) => (some (zI r.1), r.2) = (rv, ν))) (j_M_both_167 v1 v2 v3 v5 v6 v9 w0 μ)) : zW X G 10 167 [some (zR 42), some (zI v1), some (zI v2), some (zI v3), none, some (zI v5), some (zI v6), none, none, some (zI v9)] [zI w0] μ := by
  refine zr_istore hX dX6_both_167 (Nat.le_of_ble_eq_true rfl) ?_
  refine zr_iload hX dX6_both_169 rfl ?_
  refine zr_iload hX dX6_both_171 rfl ?_
  refine zr_icmpge (tgt := 181) hX dX6_both_173 rfl h (fun h => ?_) (fun h => ?_)
  · refine zr_iload hX dX6_both_181 rfl ?_
    refine zr_istore hX dX6_both_183 (Nat.le_of_ble_eq_true rfl) ?_
    refine zr_aload_n hX dX6_both_185 rfl rfl ?_
    refine zP_bind h (fun q10 hq10 h => ?_)
    refine zr_callV hX dX6_both_186 (m_M_putsBack hq10) rfl rfl rfl (z5 ww_1229 ww_1231 ww_60 ww_77 ww_1232) hy_X6_putsBack rfl (Nat.le_of_ble_eq_true rfl) (Nat.le_of_ble_eq_true rfl) (Nat.le_of_ble_eq_true rfl) ?_
    refine zr_iinc hX dX6_both_189 rfl (Nat.le_of_ble_eq_true rfl) ?_
    refine zr_goto hX dX6_both_192 (tgt := 53) rfl ?_
    exact zW_lf (k_M_both_53 h) (And.intro rfl (And.intro rfl (And.intro rfl (And.intro rfl (And.intro rfl (And.intro rfl (And.intro rfl trivial)))))))
  · refine zr_iload hX dX6_both_176 rfl ?_
    refine zr_goto hX dX6_both_178 (tgt := 183) rfl ?_
    refine zr_istore hX dX6_both_183 (Nat.le_of_ble_eq_true rfl) ?_
    refine zr_aload_n hX dX6_both_185 rfl rfl ?_
    refine zP_bind h (fun q11 hq11 h => ?_)
    refine zr_callV hX dX6_both_186 (m_M_putsBack hq11) rfl rfl rfl (z5 ww_1229 ww_1231 ww_60 ww_77 ww_1232) hy_X6_putsBack rfl (Nat.le_of_ble_eq_true rfl) (Nat.le_of_ble_eq_true rfl) (Nat.le_of_ble_eq_true rfl) ?_
    refine zr_iinc hX dX6_both_189 rfl (Nat.le_of_ble_eq_true rfl) ?_
    refine zr_goto hX dX6_both_192 (tgt := 53) rfl ?_
    exact zW_lf (k_M_both_53 h) (And.intro rfl (And.intro rfl (And.intro rfl (And.intro rfl (And.intro rfl (And.intro rfl (And.intro rfl trivial)))))))
set_option maxRecDepth 100000 in
set_option maxHeartbeats 4000000 in
theorem w_M_both_145 {X : zX} {G : zG} {v1 : Int} {v2 : Int} {v3 : Int} {μ : zM} {rv : Option zV} {ν : zM} (hX : zOk X G cX6_both RX6 10 (some .int) 5) (hF : zFin X G rv ν) {v4 v5 v6 v7 v8 w0 : Int} (h : zP (Sum.elim (k_M_both X G v1 v2 v3) (fun r : (Int × zM) => (some (zI r.1), r.2) = (rv, ν))) (j_M_both_145 v1 v2 v3 v4 v5 v6 v7 v8 w0 μ)) : zW X G 10 145 [some (zR 42), some (zI v1), some (zI v2), some (zI v3), some (zI v4), some (zI v5), some (zI v6), some (zI v7), some (zI v8), none] [zI w0] μ := by
  refine zr_istore hX dX6_both_145 (Nat.le_of_ble_eq_true rfl) ?_
  refine zr_iload hX dX6_both_147 rfl ?_
  refine zr_iload hX dX6_both_149 rfl ?_
  refine zr_icmpge (tgt := 165) hX dX6_both_151 rfl h (fun h => ?_) (fun h => ?_)
  · refine zr_iload hX dX6_both_165 rfl ?_
    exact zW_lf (w_M_both_167 hX hF h) (And.intro rfl (And.intro rfl (And.intro rfl (And.intro rfl (And.intro rfl (And.intro rfl (And.intro rfl trivial)))))))
  · refine zr_bipush hX dX6_both_154 rfl ?_
    refine zr_iload hX dX6_both_156 rfl ?_
    refine zr_imul hX dX6_both_158 ?_
    refine zr_iload hX dX6_both_159 rfl ?_
    refine zr_iadd hX dX6_both_161 ?_
    refine zr_goto hX dX6_both_162 (tgt := 167) rfl ?_
    exact zW_lf (w_M_both_167 hX hF h) (And.intro rfl (And.intro rfl (And.intro rfl (And.intro rfl (And.intro rfl (And.intro rfl (And.intro rfl trivial)))))))
set_option maxRecDepth 100000 in
set_option maxHeartbeats 4000000 in
theorem w_M_both_53 {X : zX} {G : zG} {v1 : Int} {v2 : Int} {v3 : Int} {μ : zM} {rv : Option zV} {ν : zM} (hX : zOk X G cX6_both RX6 10 (some .int) 5) (hF : zFin X G rv ν) {v4 v5 v6 : Int} (h : zP (Sum.elim (k_M_both X G v1 v2 v3) (fun r : (Int × zM) => (some (zI r.1), r.2) = (rv, ν))) (b_M_both_53 v1 v2 v3 v4 v5 v6 μ)) : zW X G 10 53 [some (zR 42), some (zI v1), some (zI v2), some (zI v3), some (zI v4), some (zI v5), some (zI v6), none, none, none] [] μ := by
  refine zr_iload hX dX6_both_53 rfl ?_
  refine zr_aload_n hX dX6_both_55 rfl rfl ?_
  refine zr_getr hX dX6_both_56 (k := 0) (q := 43) rfl rfl ww_851 rfl ?_
  refine zr_iconst hX dX6_both_59 (zrl rfl) ?_
  refine zr_ialdc hX dX6_both_60 (N := 10956) rfl rfl rfl ?_
  refine zr_aload_n hX dX6_both_61 rfl rfl ?_
  refine zr_getr hX dX6_both_62 (k := 0) (q := 43) rfl rfl ww_851 rfl ?_
  refine zr_iconst hX dX6_both_65 (zrl rfl) ?_
  refine zr_ialdc hX dX6_both_66 (N := 10956) rfl rfl rfl ?_
  refine zr_imul hX dX6_both_67 ?_
  refine zr_icmpge (tgt := 195) hX dX6_both_68 rfl h (fun h => ?_) (fun h => ?_)
  · refine zr_iload hX dX6_both_195 rfl ?_
    refine zr_bipush hX dX6_both_197 rfl ?_
    refine zr_icmpne (tgt := 207) hX dX6_both_199 rfl h (fun h => ?_) (fun h => ?_)
    · refine zr_aload_n hX dX6_both_207 rfl rfl ?_
      refine zr_iload hX dX6_both_208 rfl ?_
      refine zr_iload hX dX6_both_210 rfl ?_
      refine zP_bind h (fun q2 hq2 h => ?_)
      refine zr_callV hX dX6_both_212 (m_M_tells hq2) rfl rfl rfl (z5 ww_933 ww_935 ww_22 ww_77 ww_936) hy_X6_tells rfl (Nat.le_of_ble_eq_true rfl) (Nat.le_of_ble_eq_true rfl) (Nat.le_of_ble_eq_true rfl) ?_
      exact zr_iret hX dX6_both_215 hF h
    · refine zr_bipush hX dX6_both_202 rfl ?_
      refine zr_goto hX dX6_both_204 (tgt := 215) rfl ?_
      exact zr_iret hX dX6_both_215 hF h
  · refine zr_iload hX dX6_both_71 rfl ?_
    refine zr_aload_n hX dX6_both_73 rfl rfl ?_
    refine zr_getr hX dX6_both_74 (k := 0) (q := 43) rfl rfl ww_851 rfl ?_
    refine zr_iconst hX dX6_both_77 (zrl rfl) ?_
    refine zr_ialdc hX dX6_both_78 (N := 10956) rfl rfl rfl ?_
    refine zr_idiv hX dX6_both_79 h (fun h => ?_)
    refine zr_istore hX dX6_both_80 (Nat.le_of_ble_eq_true rfl) ?_
    refine zr_iload hX dX6_both_82 rfl ?_
    refine zr_aload_n hX dX6_both_84 rfl rfl ?_
    refine zr_getr hX dX6_both_85 (k := 0) (q := 43) rfl rfl ww_851 rfl ?_
    refine zr_iconst hX dX6_both_88 (zrl rfl) ?_
    refine zr_ialdc hX dX6_both_89 (N := 10956) rfl rfl rfl ?_
    refine zr_irem hX dX6_both_90 h (fun h => ?_)
    refine zr_istore hX dX6_both_91 (Nat.le_of_ble_eq_true rfl) ?_
    refine zr_aload_n hX dX6_both_93 rfl rfl ?_
    refine zr_iload hX dX6_both_94 rfl ?_
    refine zP_bind h (fun q3 hq3 h => ?_)
    refine zr_callV hX dX6_both_96 (m_M_hasRoom hq3) rfl rfl rfl (z5 ww_1132 ww_1134 ww_50 ww_77 ww_1135) hy_X6_hasRoom rfl (Nat.le_of_ble_eq_true rfl) (Nat.le_of_ble_eq_true rfl) (Nat.le_of_ble_eq_true rfl) ?_
    refine zr_ifeq (tgt := 189) hX dX6_both_99 rfl h (fun h => ?_) (fun h => ?_)
    · refine zr_iinc hX dX6_both_189 rfl (Nat.le_of_ble_eq_true rfl) ?_
      refine zr_goto hX dX6_both_192 (tgt := 53) rfl ?_
      exact zW_lf (k_M_both_53 h) (And.intro rfl (And.intro rfl (And.intro rfl (And.intro rfl (And.intro rfl (And.intro rfl (And.intro rfl trivial)))))))
    · refine zr_aload_n hX dX6_both_102 rfl rfl ?_
      refine zr_iconst hX dX6_both_103 (zrl rfl) ?_
      refine zr_iload hX dX6_both_104 rfl ?_
      refine zr_iload_n hX dX6_both_106 rfl rfl ?_
      refine zr_iload_n hX dX6_both_107 rfl rfl ?_
      refine zP_bind h (fun q4 hq4 h => ?_)
      refine zr_callV hX dX6_both_108 (m_M_adds hq4) rfl rfl rfl (z5 ww_986 ww_988 ww_26 ww_77 ww_989) hy_X6_adds rfl (Nat.le_of_ble_eq_true rfl) (Nat.le_of_ble_eq_true rfl) (Nat.le_of_ble_eq_true rfl) ?_
      refine zr_aload_n hX dX6_both_111 rfl rfl ?_
      refine zr_iload hX dX6_both_112 rfl ?_
      refine zP_bind h (fun q5 hq5 h => ?_)
      refine zr_callV hX dX6_both_114 (m_M_hasRoom hq5) rfl rfl rfl (z5 ww_1132 ww_1134 ww_50 ww_77 ww_1135) hy_X6_hasRoom rfl (Nat.le_of_ble_eq_true rfl) (Nat.le_of_ble_eq_true rfl) (Nat.le_of_ble_eq_true rfl) ?_
      refine zr_ifeq (tgt := 185) hX dX6_both_117 rfl h (fun h => ?_) (fun h => ?_)
      · refine zr_aload_n hX dX6_both_185 rfl rfl ?_
        refine zP_bind h (fun q6 hq6 h => ?_)
        refine zr_callV hX dX6_both_186 (m_M_putsBack hq6) rfl rfl rfl (z5 ww_1229 ww_1231 ww_60 ww_77 ww_1232) hy_X6_putsBack rfl (Nat.le_of_ble_eq_true rfl) (Nat.le_of_ble_eq_true rfl) (Nat.le_of_ble_eq_true rfl) ?_
        refine zr_iinc hX dX6_both_189 rfl (Nat.le_of_ble_eq_true rfl) ?_
        refine zr_goto hX dX6_both_192 (tgt := 53) rfl ?_
        exact zW_lf (k_M_both_53 h) (And.intro rfl (And.intro rfl (And.intro rfl (And.intro rfl (And.intro rfl (And.intro rfl (And.intro rfl trivial)))))))
      · refine zr_aload_n hX dX6_both_120 rfl rfl ?_
        refine zr_iconst hX dX6_both_121 (zrl rfl) ?_
        refine zr_iload hX dX6_both_122 rfl ?_
        refine zr_iload_n hX dX6_both_124 rfl rfl ?_
        refine zr_iload_n hX dX6_both_125 rfl rfl ?_
        refine zP_bind h (fun q7 hq7 h => ?_)
        refine zr_callV hX dX6_both_126 (m_M_adds hq7) rfl rfl rfl (z5 ww_986 ww_988 ww_26 ww_77 ww_989) hy_X6_adds rfl (Nat.le_of_ble_eq_true rfl) (Nat.le_of_ble_eq_true rfl) (Nat.le_of_ble_eq_true rfl) ?_
        refine zr_aload_n hX dX6_both_129 rfl rfl ?_
        refine zP_bind h (fun q8 hq8 h => ?_)
        refine zr_callV hX dX6_both_130 (m_M_swaying hq8) rfl rfl rfl (z5 ww_1206 ww_1208 ww_57 ww_77 ww_1209) hy_X6_swaying rfl (Nat.le_of_ble_eq_true rfl) (Nat.le_of_ble_eq_true rfl) (Nat.le_of_ble_eq_true rfl) ?_
        refine zr_ifne (tgt := 143) hX dX6_both_133 rfl h (fun h => ?_) (fun h => ?_)
        · refine zr_ldc hX dX6_both_143 ww_1224 rfl (zrl rfl) ?_
          exact zW_lf (w_M_both_145 hX hF h) (And.intro rfl (And.intro rfl (And.intro rfl (And.intro rfl (And.intro rfl (And.intro rfl (And.intro rfl (And.intro rfl (And.intro rfl trivial)))))))))
        · refine zr_aload_n hX dX6_both_136 rfl rfl ?_
          refine zP_bind h (fun q9 hq9 h => ?_)
          refine zr_callV hX dX6_both_137 (m_M_allLamps hq9) rfl rfl rfl (z5 ww_1190 ww_1192 ww_55 ww_77 ww_1193) hy_X6_allLamps rfl (Nat.le_of_ble_eq_true rfl) (Nat.le_of_ble_eq_true rfl) (Nat.le_of_ble_eq_true rfl) ?_
          refine zr_goto hX dX6_both_140 (tgt := 145) rfl ?_
          exact zW_lf (w_M_both_145 hX hF h) (And.intro rfl (And.intro rfl (And.intro rfl (And.intro rfl (And.intro rfl (And.intro rfl (And.intro rfl (And.intro rfl (And.intro rfl trivial)))))))))
set_option maxRecDepth 100000 in
set_option maxHeartbeats 4000000 in
theorem w_M_both_e {X : zX} {G : zG} {v1 : Int} {v2 : Int} {v3 : Int} {μ : zM} {rv : Option zV} {ν : zM} (hX : zOk X G cX6_both RX6 10 (some .int) 5) (hF : zFin X G rv ν) (h : zP (Sum.elim (k_M_both X G v1 v2 v3) (fun r : (Int × zM) => (some (zI r.1), r.2) = (rv, ν))) (e_M_both v1 v2 v3 μ)) : zW X G 10 0 [some (zR 42), some (zI v1), some (zI v2), some (zI v3), none, none, none, none, none, none] [] μ := by
  refine zr_iload_n hX dX6_both_0 rfl rfl ?_
  refine zr_callS hX dX6_both_1 (m_M_isKind) rfl (z4 ww_1221 ww_1222 ww_77 ww_1223) hy_X6_isKind rfl (Nat.le_of_ble_eq_true rfl) (Nat.le_of_ble_eq_true rfl) (Nat.le_of_ble_eq_true rfl) ?_
  refine zr_ifeq (tgt := 26) hX dX6_both_4 rfl h (fun h => ?_) (fun h => ?_)
  · refine zr_iconst hX dX6_both_26 (zrl rfl) ?_
    exact zr_iret hX dX6_both_27 hF h
  · refine zr_iload_n hX dX6_both_7 rfl rfl ?_
    refine zr_callS hX dX6_both_8 (m_M_isKind) rfl (z4 ww_1221 ww_1222 ww_77 ww_1223) hy_X6_isKind rfl (Nat.le_of_ble_eq_true rfl) (Nat.le_of_ble_eq_true rfl) (Nat.le_of_ble_eq_true rfl) ?_
    refine zr_ifeq (tgt := 26) hX dX6_both_11 rfl h (fun h => ?_) (fun h => ?_)
    · refine zr_iconst hX dX6_both_26 (zrl rfl) ?_
      exact zr_iret hX dX6_both_27 hF h
    · refine zr_iload_n hX dX6_both_14 rfl rfl ?_
      refine zr_i2l hX dX6_both_15 ?_
      refine zr_lconst hX dX6_both_16 (n := 0) rfl (zrlJ rfl) ?_
      refine zr_ldc2 hX dX6_both_17 ww_1127 rfl (zrlJ rfl) ?_
      refine zr_callS hX dX6_both_20 (m_M_in) rfl (z4 ww_918 ww_919 ww_77 ww_920) hy_X6_in rfl (Nat.le_of_ble_eq_true rfl) (Nat.le_of_ble_eq_true rfl) (Nat.le_of_ble_eq_true rfl) ?_
      refine zr_ifne (tgt := 28) hX dX6_both_23 rfl h (fun h => ?_) (fun h => ?_)
      · refine zr_aload_n hX dX6_both_28 rfl rfl ?_
        refine zr_callV hX dX6_both_29 (m_M_isNone) rfl rfl rfl (z5 ww_1157 ww_1159 ww_53 ww_77 ww_1160) hy_X6_isNone rfl (Nat.le_of_ble_eq_true rfl) (Nat.le_of_ble_eq_true rfl) (Nat.le_of_ble_eq_true rfl) ?_
        refine zr_ifeq (tgt := 38) hX dX6_both_32 rfl h (fun h => ?_) (fun h => ?_)
        · refine zr_bipush hX dX6_both_38 rfl ?_
          refine zr_istore hX dX6_both_40 (Nat.le_of_ble_eq_true rfl) ?_
          refine zr_ldc hX dX6_both_42 ww_1224 rfl (zrl rfl) ?_
          refine zr_istore hX dX6_both_44 (Nat.le_of_ble_eq_true rfl) ?_
          refine zr_aload_n hX dX6_both_46 rfl rfl ?_
          refine zP_bind h (fun q1 hq1 h => ?_)
          refine zr_callV hX dX6_both_47 (m_M_lays hq1) rfl rfl rfl (z5 ww_1225 ww_1227 ww_59 ww_77 ww_1228) hy_X6_lays rfl (Nat.le_of_ble_eq_true rfl) (Nat.le_of_ble_eq_true rfl) (Nat.le_of_ble_eq_true rfl) ?_
          refine zr_iconst hX dX6_both_50 (zrl rfl) ?_
          refine zr_istore hX dX6_both_51 (Nat.le_of_ble_eq_true rfl) ?_
          exact zW_lf (k_M_both_53 h) (And.intro rfl (And.intro rfl (And.intro rfl (And.intro rfl (And.intro rfl (And.intro rfl (And.intro rfl trivial)))))))
        · refine zr_bipush hX dX6_both_35 rfl ?_
          exact zr_iret hX dX6_both_37 hF h
      · refine zr_iconst hX dX6_both_26 (zrl rfl) ?_
        exact zr_iret hX dX6_both_27 hF h
set_option maxRecDepth 100000 in
theorem m_M_both {l : Launch} {G : zG} {v1 : Int} {v2 : Int} {v3 : Int} {μ : zM} {q : Int × zM} (hq : f_M_both v1 v2 v3 μ = some q) : zCT l G yX6_both cX6_both 10 (some .int) 5 [zR 42, zI v1, zI v2, zI v3] μ (some (zI q.1)) q.2 := by
  refine zMet (lv := [some (zR 42), some (zI v1), some (zI v2), some (zI v3), none, none, none, none, none, none]) (k := 6) pl_X6 rfl (Nat.le_of_ble_eq_true rfl) (fun X hl hX hF _ _ => ?_)
  refine w_M_both_e hX hF (zgo_K (r := q) (step := t_M_both v1 v2 v3) (fun s h => ?_) rfl hq)
  exact w_M_both_53 hX hF h
def k_M_leaveAll (X : zX) (G : zG) (v1 : Int) : (Int × zM) → Prop := fun s => zW X G 3 3 [some (zR 42), some (zI v1), some (zI s.1)] [] s.2
theorem k_M_leaveAll_3 {X : zX} {G : zG} {v1 : Int} {F : zM → Prop} {v2 : Int} {κ : zM} (h : zP (Sum.elim (k_M_leaveAll X G v1) F) (some (.inl ((v2, κ))))) : zW X G 3 3 [some (zR 42), some (zI v1), some (zI v2)] [] κ := h
set_option maxRecDepth 100000 in
set_option maxHeartbeats 4000000 in
theorem w_M_leaveAll_3 {X : zX} {G : zG} {v1 : Int} {μ : zM} {rv : Option zV} {ν : zM} (hX : zOk X G cX6_leaveAll RX6 3 none 3) (hF : zFin X G rv ν) {v2 : Int} (h : zP (Sum.elim (k_M_leaveAll X G v1) (fun r : zM => ((none : Option zV), r) = (rv, ν))) (b_M_leaveAll_3 v1 v2 μ)) : zW X G 3 3 [some (zR 42), some (zI v1), some (zI v2)] [] μ := by
  refine zr_iload_n hX dX6_leaveAll_3 rfl rfl ?_
  refine zr_iflt (tgt := 35) hX dX6_leaveAll_4 rfl h (fun h => ?_) (fun h => ?_)
  · exact zr_vret hX dX6_leaveAll_35 hF h
  · refine zr_iload_n hX dX6_leaveAll_7 rfl rfl ?_
    refine zr_iload_n hX dX6_leaveAll_8 rfl rfl ?_
    refine zr_callS hX dX6_leaveAll_9 (m_M_has) rfl (z4 ww_1214 ww_1215 ww_77 ww_1216) hy_X6_has rfl (Nat.le_of_ble_eq_true rfl) (Nat.le_of_ble_eq_true rfl) (Nat.le_of_ble_eq_true rfl) ?_
    refine zr_ifeq (tgt := 29) hX dX6_leaveAll_12 rfl h (fun h => ?_) (fun h => ?_)
    · refine zr_iinc hX dX6_leaveAll_29 rfl (Nat.le_of_ble_eq_true rfl) ?_
      refine zr_goto hX dX6_leaveAll_32 (tgt := 3) rfl ?_
      exact zW_lf (k_M_leaveAll_3 h) (And.intro rfl (And.intro rfl (And.intro rfl trivial)))
    · refine zr_aload_n hX dX6_leaveAll_15 rfl rfl ?_
      refine zr_aload_n hX dX6_leaveAll_16 rfl rfl ?_
      refine zr_iload_n hX dX6_leaveAll_17 rfl rfl ?_
      refine zP_bind h (fun q1 hq1 h => ?_)
      refine zr_callV hX dX6_leaveAll_18 (m_M_towerOf hq1) rfl rfl rfl (z5 ww_1027 ww_1029 ww_33 ww_77 ww_1030) hy_X6_towerOf rfl (Nat.le_of_ble_eq_true rfl) (Nat.le_of_ble_eq_true rfl) (Nat.le_of_ble_eq_true rfl) ?_
      refine zr_aload_n hX dX6_leaveAll_21 rfl rfl ?_
      refine zr_iload_n hX dX6_leaveAll_22 rfl rfl ?_
      refine zP_bind h (fun q2 hq2 h => ?_)
      refine zr_callV hX dX6_leaveAll_23 (m_M_storeyOf hq2) rfl rfl rfl (z5 ww_1031 ww_1033 ww_34 ww_77 ww_1034) hy_X6_storeyOf rfl (Nat.le_of_ble_eq_true rfl) (Nat.le_of_ble_eq_true rfl) (Nat.le_of_ble_eq_true rfl) ?_
      refine zP_bind h (fun q3 hq3 h => ?_)
      refine zr_callV hX dX6_leaveAll_26 (m_M_goes hq3) rfl rfl rfl (z5 ww_1144 ww_1146 ww_52 ww_77 ww_1147) hy_X6_goes rfl (Nat.le_of_ble_eq_true rfl) (Nat.le_of_ble_eq_true rfl) (Nat.le_of_ble_eq_true rfl) ?_
      refine zr_iinc hX dX6_leaveAll_29 rfl (Nat.le_of_ble_eq_true rfl) ?_
      refine zr_goto hX dX6_leaveAll_32 (tgt := 3) rfl ?_
      exact zW_lf (k_M_leaveAll_3 h) (And.intro rfl (And.intro rfl (And.intro rfl trivial)))
set_option maxRecDepth 100000 in
set_option maxHeartbeats 4000000 in
theorem w_M_leaveAll_e {X : zX} {G : zG} {v1 : Int} {μ : zM} {rv : Option zV} {ν : zM} (hX : zOk X G cX6_leaveAll RX6 3 none 3) (hF : zFin X G rv ν) (h : zP (Sum.elim (k_M_leaveAll X G v1) (fun r : zM => ((none : Option zV), r) = (rv, ν))) (e_M_leaveAll v1 μ)) : zW X G 3 0 [some (zR 42), some (zI v1), none] [] μ := by
  refine zr_bipush hX dX6_leaveAll_0 rfl ?_
  refine zr_istore_n hX dX6_leaveAll_2 rfl (Nat.le_of_ble_eq_true rfl) ?_
  exact zW_lf (k_M_leaveAll_3 h) (And.intro rfl (And.intro rfl (And.intro rfl trivial)))
set_option maxRecDepth 100000 in
theorem m_M_leaveAll {l : Launch} {G : zG} {v1 : Int} {μ : zM} {q : zM} (hq : f_M_leaveAll v1 μ = some q) : zCT l G yX6_leaveAll cX6_leaveAll 3 none 3 [zR 42, zI v1] μ (none) q := by
  refine zMet (lv := [some (zR 42), some (zI v1), none]) (k := 1) pl_X6 rfl (Nat.le_of_ble_eq_true rfl) (fun X hl hX hF _ _ => ?_)
  refine w_M_leaveAll_e hX hF (zgo_K (r := q) (step := t_M_leaveAll v1) (fun s h => ?_) rfl hq)
  exact w_M_leaveAll_3 hX hF h
def k_M_fewest (X : zX) (G : zG) : (Int × Int × Int × zM) → Prop := fun s => zW X G 4 15 [some (zR 42), some (zI s.1), some (zI s.2.1), some (zI s.2.2.1)] [] s.2.2.2
theorem k_M_fewest_15 {X : zX} {G : zG} {F : (Int × zM) → Prop} {v1 v2 v3 : Int} {κ : zM} (h : zP (Sum.elim (k_M_fewest X G) F) (some (.inl ((v1, v2, v3, κ))))) : zW X G 4 15 [some (zR 42), some (zI v1), some (zI v2), some (zI v3)] [] κ := h
set_option maxRecDepth 100000 in
set_option maxHeartbeats 4000000 in
theorem w_M_fewest_43 {X : zX} {G : zG} {μ : zM} {rv : Option zV} {ν : zM} (hX : zOk X G cX6_fewest RX6 4 (some .int) 5) (hF : zFin X G rv ν) {v1 v2 v3 : Int} (h : zP (Sum.elim (k_M_fewest X G) (fun r : (Int × zM) => (some (zI r.1), r.2) = (rv, ν))) (j_M_fewest_43 v1 v2 v3 μ)) : zW X G 4 43 [some (zR 42), some (zI v1), some (zI v2), some (zI v3)] [] μ := by
  refine zr_aload_n hX dX6_fewest_43 rfl rfl ?_
  refine zr_iload_n hX dX6_fewest_44 rfl rfl ?_
  refine zP_bind h (fun q8 hq8 h => ?_)
  refine zr_callV hX dX6_fewest_45 (m_M_leaveAll hq8) rfl rfl rfl (z5 ww_1241 ww_1243 ww_61 ww_77 ww_1244) hy_X6_leaveAll rfl (Nat.le_of_ble_eq_true rfl) (Nat.le_of_ble_eq_true rfl) (Nat.le_of_ble_eq_true rfl) ?_
  refine zr_aload_n hX dX6_fewest_48 rfl rfl ?_
  refine zP_bind h (fun q9 hq9 h => ?_)
  refine zr_callV hX dX6_fewest_49 (m_M_swaying hq9) rfl rfl rfl (z5 ww_1206 ww_1208 ww_57 ww_77 ww_1209) hy_X6_swaying rfl (Nat.le_of_ble_eq_true rfl) (Nat.le_of_ble_eq_true rfl) (Nat.le_of_ble_eq_true rfl) ?_
  refine zr_ifne (tgt := 59) hX dX6_fewest_52 rfl h (fun h => ?_) (fun h => ?_)
  · refine zr_iload_n hX dX6_fewest_59 rfl rfl ?_
    refine zr_istore_n hX dX6_fewest_60 rfl (Nat.le_of_ble_eq_true rfl) ?_
    refine zr_aload_n hX dX6_fewest_61 rfl rfl ?_
    refine zP_bind h (fun q10 hq10 h => ?_)
    refine zr_callV hX dX6_fewest_62 (m_M_putsBack hq10) rfl rfl rfl (z5 ww_1229 ww_1231 ww_60 ww_77 ww_1232) hy_X6_putsBack rfl (Nat.le_of_ble_eq_true rfl) (Nat.le_of_ble_eq_true rfl) (Nat.le_of_ble_eq_true rfl) ?_
    refine zr_iinc hX dX6_fewest_65 rfl (Nat.le_of_ble_eq_true rfl) ?_
    refine zr_goto hX dX6_fewest_68 (tgt := 15) rfl ?_
    exact zW_lf (k_M_fewest_15 h) (And.intro rfl (And.intro rfl (And.intro rfl (And.intro rfl trivial))))
  · refine zr_iload_n hX dX6_fewest_55 rfl rfl ?_
    refine zr_goto hX dX6_fewest_56 (tgt := 60) rfl ?_
    refine zr_istore_n hX dX6_fewest_60 rfl (Nat.le_of_ble_eq_true rfl) ?_
    refine zr_aload_n hX dX6_fewest_61 rfl rfl ?_
    refine zP_bind h (fun q11 hq11 h => ?_)
    refine zr_callV hX dX6_fewest_62 (m_M_putsBack hq11) rfl rfl rfl (z5 ww_1229 ww_1231 ww_60 ww_77 ww_1232) hy_X6_putsBack rfl (Nat.le_of_ble_eq_true rfl) (Nat.le_of_ble_eq_true rfl) (Nat.le_of_ble_eq_true rfl) ?_
    refine zr_iinc hX dX6_fewest_65 rfl (Nat.le_of_ble_eq_true rfl) ?_
    refine zr_goto hX dX6_fewest_68 (tgt := 15) rfl ?_
    exact zW_lf (k_M_fewest_15 h) (And.intro rfl (And.intro rfl (And.intro rfl (And.intro rfl trivial))))
set_option maxRecDepth 100000 in
set_option maxHeartbeats 4000000 in
theorem w_M_fewest_15 {X : zX} {G : zG} {μ : zM} {rv : Option zV} {ν : zM} (hX : zOk X G cX6_fewest RX6 4 (some .int) 5) (hF : zFin X G rv ν) {v1 v2 v3 : Int} (h : zP (Sum.elim (k_M_fewest X G) (fun r : (Int × zM) => (some (zI r.1), r.2) = (rv, ν))) (b_M_fewest_15 v1 v2 v3 μ)) : zW X G 4 15 [some (zR 42), some (zI v1), some (zI v2), some (zI v3)] [] μ := by
  refine zr_iload_n hX dX6_fewest_15 rfl rfl ?_
  refine zr_iload_n hX dX6_fewest_16 rfl rfl ?_
  refine zr_icmpge (tgt := 71) hX dX6_fewest_17 rfl h (fun h => ?_) (fun h => ?_)
  · refine zr_iload_n hX dX6_fewest_71 rfl rfl ?_
    refine zr_ifge (tgt := 80) hX dX6_fewest_72 rfl h (fun h => ?_) (fun h => ?_)
    · refine zr_aload_n hX dX6_fewest_80 rfl rfl ?_
      refine zr_iload_n hX dX6_fewest_81 rfl rfl ?_
      refine zr_iload_n hX dX6_fewest_82 rfl rfl ?_
      refine zP_bind h (fun q3 hq3 h => ?_)
      refine zr_callS hX dX6_fewest_83 (m_M_ones hq3) rfl (z4 ww_1087 ww_1088 ww_77 ww_1089) hy_X6_ones rfl (Nat.le_of_ble_eq_true rfl) (Nat.le_of_ble_eq_true rfl) (Nat.le_of_ble_eq_true rfl) ?_
      refine zP_bind h (fun q4 hq4 h => ?_)
      refine zr_callV hX dX6_fewest_86 (m_M_tells hq4) rfl rfl rfl (z5 ww_933 ww_935 ww_22 ww_77 ww_936) hy_X6_tells rfl (Nat.le_of_ble_eq_true rfl) (Nat.le_of_ble_eq_true rfl) (Nat.le_of_ble_eq_true rfl) ?_
      exact zr_iret hX dX6_fewest_89 hF h
    · refine zr_bipush hX dX6_fewest_75 rfl ?_
      refine zr_goto hX dX6_fewest_77 (tgt := 89) rfl ?_
      exact zr_iret hX dX6_fewest_89 hF h
  · refine zr_iload_n hX dX6_fewest_20 rfl rfl ?_
    refine zP_bind h (fun q5 hq5 h => ?_)
    refine zr_callS hX dX6_fewest_21 (m_M_ones hq5) rfl (z4 ww_1087 ww_1088 ww_77 ww_1089) hy_X6_ones rfl (Nat.le_of_ble_eq_true rfl) (Nat.le_of_ble_eq_true rfl) (Nat.le_of_ble_eq_true rfl) ?_
    refine zr_iconst hX dX6_fewest_24 (zrl rfl) ?_
    refine zr_icmpge (tgt := 65) hX dX6_fewest_25 rfl h (fun h => ?_) (fun h => ?_)
    · refine zr_iinc hX dX6_fewest_65 rfl (Nat.le_of_ble_eq_true rfl) ?_
      refine zr_goto hX dX6_fewest_68 (tgt := 15) rfl ?_
      exact zW_lf (k_M_fewest_15 h) (And.intro rfl (And.intro rfl (And.intro rfl (And.intro rfl trivial))))
    · refine zr_iload_n hX dX6_fewest_28 rfl rfl ?_
      refine zr_iflt (tgt := 43) hX dX6_fewest_29 rfl h (fun h => ?_) (fun h => ?_)
      · exact zW_lf (w_M_fewest_43 hX hF h) (And.intro rfl (And.intro rfl (And.intro rfl (And.intro rfl trivial))))
      · refine zr_iload_n hX dX6_fewest_32 rfl rfl ?_
        refine zP_bind h (fun q6 hq6 h => ?_)
        refine zr_callS hX dX6_fewest_33 (m_M_ones hq6) rfl (z4 ww_1087 ww_1088 ww_77 ww_1089) hy_X6_ones rfl (Nat.le_of_ble_eq_true rfl) (Nat.le_of_ble_eq_true rfl) (Nat.le_of_ble_eq_true rfl) ?_
        refine zr_iload_n hX dX6_fewest_36 rfl rfl ?_
        refine zP_bind h (fun q7 hq7 h => ?_)
        refine zr_callS hX dX6_fewest_37 (m_M_ones hq7) rfl (z4 ww_1087 ww_1088 ww_77 ww_1089) hy_X6_ones rfl (Nat.le_of_ble_eq_true rfl) (Nat.le_of_ble_eq_true rfl) (Nat.le_of_ble_eq_true rfl) ?_
        refine zr_icmpge (tgt := 65) hX dX6_fewest_40 rfl h (fun h => ?_) (fun h => ?_)
        · refine zr_iinc hX dX6_fewest_65 rfl (Nat.le_of_ble_eq_true rfl) ?_
          refine zr_goto hX dX6_fewest_68 (tgt := 15) rfl ?_
          exact zW_lf (k_M_fewest_15 h) (And.intro rfl (And.intro rfl (And.intro rfl (And.intro rfl trivial))))
        · exact zW_lf (w_M_fewest_43 hX hF h) (And.intro rfl (And.intro rfl (And.intro rfl (And.intro rfl trivial))))
set_option maxRecDepth 100000 in
set_option maxHeartbeats 4000000 in
theorem w_M_fewest_e {X : zX} {G : zG} {μ : zM} {rv : Option zV} {ν : zM} (hX : zOk X G cX6_fewest RX6 4 (some .int) 5) (hF : zFin X G rv ν) (h : zP (Sum.elim (k_M_fewest X G) (fun r : (Int × zM) => (some (zI r.1), r.2) = (rv, ν))) (e_M_fewest μ)) : zW X G 4 0 [some (zR 42), none, none, none] [] μ := by
  refine zr_iconst hX dX6_fewest_0 (zrl rfl) ?_
  refine zr_istore_n hX dX6_fewest_1 rfl (Nat.le_of_ble_eq_true rfl) ?_
  refine zr_iconst hX dX6_fewest_2 (zrl rfl) ?_
  refine zr_aload_n hX dX6_fewest_3 rfl rfl ?_
  refine zP_bind h (fun q1 hq1 h => ?_)
  refine zr_callV hX dX6_fewest_4 (m_M_houses hq1) rfl rfl rfl (z5 ww_1023 ww_1025 ww_32 ww_77 ww_1026) hy_X6_houses rfl (Nat.le_of_ble_eq_true rfl) (Nat.le_of_ble_eq_true rfl) (Nat.le_of_ble_eq_true rfl) ?_
  refine zr_ishl hX dX6_fewest_7 ?_
  refine zr_istore_n hX dX6_fewest_8 rfl (Nat.le_of_ble_eq_true rfl) ?_
  refine zr_aload_n hX dX6_fewest_9 rfl rfl ?_
  refine zP_bind h (fun q2 hq2 h => ?_)
  refine zr_callV hX dX6_fewest_10 (m_M_lays hq2) rfl rfl rfl (z5 ww_1225 ww_1227 ww_59 ww_77 ww_1228) hy_X6_lays rfl (Nat.le_of_ble_eq_true rfl) (Nat.le_of_ble_eq_true rfl) (Nat.le_of_ble_eq_true rfl) ?_
  refine zr_iconst hX dX6_fewest_13 (zrl rfl) ?_
  refine zr_istore_n hX dX6_fewest_14 rfl (Nat.le_of_ble_eq_true rfl) ?_
  exact zW_lf (k_M_fewest_15 h) (And.intro rfl (And.intro rfl (And.intro rfl (And.intro rfl trivial))))
set_option maxRecDepth 100000 in
theorem m_M_fewest {l : Launch} {G : zG} {μ : zM} {q : Int × zM} (hq : f_M_fewest μ = some q) : zCT l G yX6_fewest cX6_fewest 4 (some .int) 5 [zR 42] μ (some (zI q.1)) q.2 := by
  refine zMet (lv := [some (zR 42), none, none, none]) (k := 3) pl_X6 rfl (Nat.le_of_ble_eq_true rfl) (fun X hl hX hF _ _ => ?_)
  refine w_M_fewest_e hX hF (zgo_K (r := q) (step := t_M_fewest) (fun s h => ?_) rfl hq)
  exact w_M_fewest_15 hX hF h
def k_M_relief (X : zX) (G : zG) : (Int × Int × Int × Int × zM) → Prop := fun s => zW X G 7 19 [some (zR 42), some (zI s.1), some (zI s.2.1), some (zI s.2.2.1), some (zI s.2.2.2.1), none, none] [] s.2.2.2.2
theorem k_M_relief_19 {X : zX} {G : zG} {F : (Int × zM) → Prop} {v1 v2 v3 v4 : Int} {κ : zM} (h : zP (Sum.elim (k_M_relief X G) F) (some (.inl ((v1, v2, v3, v4, κ))))) : zW X G 7 19 [some (zR 42), some (zI v1), some (zI v2), some (zI v3), some (zI v4), none, none] [] κ := h
set_option maxRecDepth 100000 in
set_option maxHeartbeats 4000000 in
theorem w_M_relief_75 {X : zX} {G : zG} {μ : zM} {rv : Option zV} {ν : zM} (hX : zOk X G cX6_relief RX6 7 (some .int) 7) (hF : zFin X G rv ν) {v1 v3 v4 v6 w0 : Int} (h : zP (Sum.elim (k_M_relief X G) (fun r : (Int × zM) => (some (zI r.1), r.2) = (rv, ν))) (j_M_relief_75 v1 v3 v4 v6 w0 μ)) : zW X G 7 75 [some (zR 42), some (zI v1), none, some (zI v3), some (zI v4), none, some (zI v6)] [zI w0] μ := by
  refine zr_istore_n hX dX6_relief_75 rfl (Nat.le_of_ble_eq_true rfl) ?_
  refine zr_iload hX dX6_relief_76 rfl ?_
  refine zr_iload_n hX dX6_relief_78 rfl rfl ?_
  refine zr_icmple (tgt := 87) hX dX6_relief_79 rfl h (fun h => ?_) (fun h => ?_)
  · refine zr_iload_n hX dX6_relief_87 rfl rfl ?_
    refine zr_istore_n hX dX6_relief_88 rfl (Nat.le_of_ble_eq_true rfl) ?_
    refine zr_aload_n hX dX6_relief_89 rfl rfl ?_
    refine zP_bind h (fun q10 hq10 h => ?_)
    refine zr_callV hX dX6_relief_90 (m_M_putsBack hq10) rfl rfl rfl (z5 ww_1229 ww_1231 ww_60 ww_77 ww_1232) hy_X6_putsBack rfl (Nat.le_of_ble_eq_true rfl) (Nat.le_of_ble_eq_true rfl) (Nat.le_of_ble_eq_true rfl) ?_
    refine zr_iinc hX dX6_relief_93 rfl (Nat.le_of_ble_eq_true rfl) ?_
    refine zr_goto hX dX6_relief_96 (tgt := 19) rfl ?_
    exact zW_lf (k_M_relief_19 h) (And.intro rfl (And.intro rfl (And.intro rfl (And.intro rfl (And.intro rfl trivial)))))
  · refine zr_iload hX dX6_relief_82 rfl ?_
    refine zr_goto hX dX6_relief_84 (tgt := 88) rfl ?_
    refine zr_istore_n hX dX6_relief_88 rfl (Nat.le_of_ble_eq_true rfl) ?_
    refine zr_aload_n hX dX6_relief_89 rfl rfl ?_
    refine zP_bind h (fun q11 hq11 h => ?_)
    refine zr_callV hX dX6_relief_90 (m_M_putsBack hq11) rfl rfl rfl (z5 ww_1229 ww_1231 ww_60 ww_77 ww_1232) hy_X6_putsBack rfl (Nat.le_of_ble_eq_true rfl) (Nat.le_of_ble_eq_true rfl) (Nat.le_of_ble_eq_true rfl) ?_
    refine zr_iinc hX dX6_relief_93 rfl (Nat.le_of_ble_eq_true rfl) ?_
    refine zr_goto hX dX6_relief_96 (tgt := 19) rfl ?_
    exact zW_lf (k_M_relief_19 h) (And.intro rfl (And.intro rfl (And.intro rfl (And.intro rfl (And.intro rfl trivial)))))
set_option maxRecDepth 100000 in
set_option maxHeartbeats 4000000 in
theorem w_M_relief_19 {X : zX} {G : zG} {μ : zM} {rv : Option zV} {ν : zM} (hX : zOk X G cX6_relief RX6 7 (some .int) 7) (hF : zFin X G rv ν) {v1 v2 v3 v4 : Int} (h : zP (Sum.elim (k_M_relief X G) (fun r : (Int × zM) => (some (zI r.1), r.2) = (rv, ν))) (b_M_relief_19 v1 v2 v3 v4 μ)) : zW X G 7 19 [some (zR 42), some (zI v1), some (zI v2), some (zI v3), some (zI v4), none, none] [] μ := by
  refine zr_iload hX dX6_relief_19 rfl ?_
  refine zr_iload_n hX dX6_relief_21 rfl rfl ?_
  refine zr_icmpge (tgt := 99) hX dX6_relief_22 rfl h (fun h => ?_) (fun h => ?_)
  · refine zr_iload_n hX dX6_relief_99 rfl rfl ?_
    refine zr_bipush hX dX6_relief_100 rfl ?_
    refine zr_icmpne (tgt := 110) hX dX6_relief_102 rfl h (fun h => ?_) (fun h => ?_)
    · refine zr_aload_n hX dX6_relief_110 rfl rfl ?_
      refine zr_iload_n hX dX6_relief_111 rfl rfl ?_
      refine zr_iload_n hX dX6_relief_112 rfl rfl ?_
      refine zP_bind h (fun q3 hq3 h => ?_)
      refine zr_callV hX dX6_relief_113 (m_M_tells hq3) rfl rfl rfl (z5 ww_933 ww_935 ww_22 ww_77 ww_936) hy_X6_tells rfl (Nat.le_of_ble_eq_true rfl) (Nat.le_of_ble_eq_true rfl) (Nat.le_of_ble_eq_true rfl) ?_
      exact zr_iret hX dX6_relief_116 hF h
    · refine zr_bipush hX dX6_relief_105 rfl ?_
      refine zr_goto hX dX6_relief_107 (tgt := 116) rfl ?_
      exact zr_iret hX dX6_relief_116 hF h
  · refine zr_aload_n hX dX6_relief_25 rfl rfl ?_
    refine zP_bind h (fun q4 hq4 h => ?_)
    refine zr_callV hX dX6_relief_26 (m_M_allLight hq4) rfl rfl rfl (z5 ww_1194 ww_1196 ww_56 ww_77 ww_1197) hy_X6_allLight rfl (Nat.le_of_ble_eq_true rfl) (Nat.le_of_ble_eq_true rfl) (Nat.le_of_ble_eq_true rfl) ?_
    refine zr_aload_n hX dX6_relief_29 rfl rfl ?_
    refine zr_iload hX dX6_relief_30 rfl ?_
    refine zP_bind h (fun q5 hq5 h => ?_)
    refine zr_callV hX dX6_relief_32 (m_M_lightOf hq5) rfl rfl rfl (z5 ww_1075 ww_1077 ww_42 ww_77 ww_1078) hy_X6_lightOf rfl (Nat.le_of_ble_eq_true rfl) (Nat.le_of_ble_eq_true rfl) (Nat.le_of_ble_eq_true rfl) ?_
    refine zr_isub hX dX6_relief_35 ?_
    refine zr_istore hX dX6_relief_36 (Nat.le_of_ble_eq_true rfl) ?_
    refine zr_aload_n hX dX6_relief_38 rfl rfl ?_
    refine zr_aload_n hX dX6_relief_39 rfl rfl ?_
    refine zr_iload hX dX6_relief_40 rfl ?_
    refine zP_bind h (fun q6 hq6 h => ?_)
    refine zr_callV hX dX6_relief_42 (m_M_towerOf hq6) rfl rfl rfl (z5 ww_1027 ww_1029 ww_33 ww_77 ww_1030) hy_X6_towerOf rfl (Nat.le_of_ble_eq_true rfl) (Nat.le_of_ble_eq_true rfl) (Nat.le_of_ble_eq_true rfl) ?_
    refine zr_aload_n hX dX6_relief_45 rfl rfl ?_
    refine zr_iload hX dX6_relief_46 rfl ?_
    refine zP_bind h (fun q7 hq7 h => ?_)
    refine zr_callV hX dX6_relief_48 (m_M_storeyOf hq7) rfl rfl rfl (z5 ww_1031 ww_1033 ww_34 ww_77 ww_1034) hy_X6_storeyOf rfl (Nat.le_of_ble_eq_true rfl) (Nat.le_of_ble_eq_true rfl) (Nat.le_of_ble_eq_true rfl) ?_
    refine zP_bind h (fun q8 hq8 h => ?_)
    refine zr_callV hX dX6_relief_51 (m_M_goes hq8) rfl rfl rfl (z5 ww_1144 ww_1146 ww_52 ww_77 ww_1147) hy_X6_goes rfl (Nat.le_of_ble_eq_true rfl) (Nat.le_of_ble_eq_true rfl) (Nat.le_of_ble_eq_true rfl) ?_
    refine zr_aload_n hX dX6_relief_54 rfl rfl ?_
    refine zP_bind h (fun q9 hq9 h => ?_)
    refine zr_callV hX dX6_relief_55 (m_M_allLight hq9) rfl rfl rfl (z5 ww_1194 ww_1196 ww_56 ww_77 ww_1197) hy_X6_allLight rfl (Nat.le_of_ble_eq_true rfl) (Nat.le_of_ble_eq_true rfl) (Nat.le_of_ble_eq_true rfl) ?_
    refine zr_iload hX dX6_relief_58 rfl ?_
    refine zr_isub hX dX6_relief_60 ?_
    refine zr_istore hX dX6_relief_61 (Nat.le_of_ble_eq_true rfl) ?_
    refine zr_iload hX dX6_relief_63 rfl ?_
    refine zr_iload_n hX dX6_relief_65 rfl rfl ?_
    refine zr_icmple (tgt := 74) hX dX6_relief_66 rfl h (fun h => ?_) (fun h => ?_)
    · refine zr_iload_n hX dX6_relief_74 rfl rfl ?_
      exact zW_lf (w_M_relief_75 hX hF h) (And.intro rfl (And.intro rfl (And.intro rfl (And.intro rfl (And.intro rfl trivial)))))
    · refine zr_iload hX dX6_relief_69 rfl ?_
      refine zr_goto hX dX6_relief_71 (tgt := 75) rfl ?_
      exact zW_lf (w_M_relief_75 hX hF h) (And.intro rfl (And.intro rfl (And.intro rfl (And.intro rfl (And.intro rfl trivial)))))
set_option maxRecDepth 100000 in
set_option maxHeartbeats 4000000 in
theorem w_M_relief_e {X : zX} {G : zG} {μ : zM} {rv : Option zV} {ν : zM} (hX : zOk X G cX6_relief RX6 7 (some .int) 7) (hF : zFin X G rv ν) (h : zP (Sum.elim (k_M_relief X G) (fun r : (Int × zM) => (some (zI r.1), r.2) = (rv, ν))) (e_M_relief μ)) : zW X G 7 0 [some (zR 42), none, none, none, none, none, none] [] μ := by
  refine zr_aload_n hX dX6_relief_0 rfl rfl ?_
  refine zP_bind h (fun q1 hq1 h => ?_)
  refine zr_callV hX dX6_relief_1 (m_M_houses hq1) rfl rfl rfl (z5 ww_1023 ww_1025 ww_32 ww_77 ww_1026) hy_X6_houses rfl (Nat.le_of_ble_eq_true rfl) (Nat.le_of_ble_eq_true rfl) (Nat.le_of_ble_eq_true rfl) ?_
  refine zr_istore_n hX dX6_relief_4 rfl (Nat.le_of_ble_eq_true rfl) ?_
  refine zr_bipush hX dX6_relief_5 rfl ?_
  refine zr_istore_n hX dX6_relief_7 rfl (Nat.le_of_ble_eq_true rfl) ?_
  refine zr_ldcw hX dX6_relief_8 ww_1249 rfl (zrl rfl) ?_
  refine zr_istore_n hX dX6_relief_11 rfl (Nat.le_of_ble_eq_true rfl) ?_
  refine zr_aload_n hX dX6_relief_12 rfl rfl ?_
  refine zP_bind h (fun q2 hq2 h => ?_)
  refine zr_callV hX dX6_relief_13 (m_M_lays hq2) rfl rfl rfl (z5 ww_1225 ww_1227 ww_59 ww_77 ww_1228) hy_X6_lays rfl (Nat.le_of_ble_eq_true rfl) (Nat.le_of_ble_eq_true rfl) (Nat.le_of_ble_eq_true rfl) ?_
  refine zr_iconst hX dX6_relief_16 (zrl rfl) ?_
  refine zr_istore hX dX6_relief_17 (Nat.le_of_ble_eq_true rfl) ?_
  exact zW_lf (k_M_relief_19 h) (And.intro rfl (And.intro rfl (And.intro rfl (And.intro rfl (And.intro rfl trivial)))))
set_option maxRecDepth 100000 in
theorem m_M_relief {l : Launch} {G : zG} {μ : zM} {q : Int × zM} (hq : f_M_relief μ = some q) : zCT l G yX6_relief cX6_relief 7 (some .int) 7 [zR 42] μ (some (zI q.1)) q.2 := by
  refine zMet (lv := [some (zR 42), none, none, none, none, none, none]) (k := 6) pl_X6 rfl (Nat.le_of_ble_eq_true rfl) (fun X hl hX hF _ _ => ?_)
  refine w_M_relief_e hX hF (zgo_K (r := q) (step := t_M_relief) (fun s h => ?_) rfl hq)
  exact w_M_relief_19 hX hF h
def k_M_high (X : zX) (G : zG) (v1 : Int) (v2 : Int) : (Int × Int × zM) → Prop := fun s => zW X G 5 31 [some (zR 42), some (zI v1), some (zI v2), some (zI s.1), some (zI s.2.1)] [] s.2.2
theorem k_M_high_31 {X : zX} {G : zG} {v1 : Int} {v2 : Int} {F : (Int × zM) → Prop} {v3 v4 : Int} {κ : zM} (h : zP (Sum.elim (k_M_high X G v1 v2) F) (some (.inl ((v3, v4, κ))))) : zW X G 5 31 [some (zR 42), some (zI v1), some (zI v2), some (zI v3), some (zI v4)] [] κ := h
set_option maxRecDepth 100000 in
set_option maxHeartbeats 4000000 in
theorem w_M_high_64 {X : zX} {G : zG} {v1 : Int} {v2 : Int} {μ : zM} {rv : Option zV} {ν : zM} (hX : zOk X G cX6_high RX6 5 (some .int) 5) (hF : zFin X G rv ν) {v3 w0 : Int} (h : zP (Sum.elim (k_M_high X G v1 v2) (fun r : (Int × zM) => (some (zI r.1), r.2) = (rv, ν))) (j_M_high_64 v1 v2 v3 w0 μ)) : zW X G 5 64 [some (zR 42), some (zI v1), some (zI v2), some (zI v3), none] [zI w0] μ := by
  refine zr_istore hX dX6_high_64 (Nat.le_of_ble_eq_true rfl) ?_
  refine zr_iload_n hX dX6_high_66 rfl rfl ?_
  refine zr_iload hX dX6_high_67 rfl ?_
  refine zr_ifeq (tgt := 76) hX dX6_high_69 rfl h (fun h => ?_) (fun h => ?_)
  · refine zr_iconst hX dX6_high_76 (zrl rfl) ?_
    refine zr_iadd hX dX6_high_77 ?_
    refine zr_istore_n hX dX6_high_78 rfl (Nat.le_of_ble_eq_true rfl) ?_
    refine zr_goto hX dX6_high_79 (tgt := 31) rfl ?_
    exact zW_lf (k_M_high_31 h) (And.intro rfl (And.intro rfl (And.intro rfl (And.intro rfl (And.intro rfl trivial)))))
  · refine zr_iconst hX dX6_high_72 (zrl rfl) ?_
    refine zr_goto hX dX6_high_73 (tgt := 77) rfl ?_
    refine zr_iadd hX dX6_high_77 ?_
    refine zr_istore_n hX dX6_high_78 rfl (Nat.le_of_ble_eq_true rfl) ?_
    refine zr_goto hX dX6_high_79 (tgt := 31) rfl ?_
    exact zW_lf (k_M_high_31 h) (And.intro rfl (And.intro rfl (And.intro rfl (And.intro rfl (And.intro rfl trivial)))))
set_option maxRecDepth 100000 in
set_option maxHeartbeats 4000000 in
theorem w_M_high_31 {X : zX} {G : zG} {v1 : Int} {v2 : Int} {μ : zM} {rv : Option zV} {ν : zM} (hX : zOk X G cX6_high RX6 5 (some .int) 5) (hF : zFin X G rv ν) {v3 v4 : Int} (h : zP (Sum.elim (k_M_high X G v1 v2) (fun r : (Int × zM) => (some (zI r.1), r.2) = (rv, ν))) (b_M_high_31 v1 v2 v3 v4 μ)) : zW X G 5 31 [some (zR 42), some (zI v1), some (zI v2), some (zI v3), some (zI v4)] [] μ := by
  refine zr_iload hX dX6_high_31 rfl ?_
  refine zr_ifeq (tgt := 82) hX dX6_high_33 rfl h (fun h => ?_) (fun h => ?_)
  · refine zr_aload_n hX dX6_high_82 rfl rfl ?_
    refine zP_bind h (fun q2 hq2 h => ?_)
    refine zr_callV hX dX6_high_83 (m_M_putsBack hq2) rfl rfl rfl (z5 ww_1229 ww_1231 ww_60 ww_77 ww_1232) hy_X6_putsBack rfl (Nat.le_of_ble_eq_true rfl) (Nat.le_of_ble_eq_true rfl) (Nat.le_of_ble_eq_true rfl) ?_
    refine zr_iload_n hX dX6_high_86 rfl rfl ?_
    exact zr_iret hX dX6_high_87 hF h
  · refine zr_aload_n hX dX6_high_36 rfl rfl ?_
    refine zr_iload_n hX dX6_high_37 rfl rfl ?_
    refine zP_bind h (fun q3 hq3 h => ?_)
    refine zr_callV hX dX6_high_38 (m_M_hasRoom hq3) rfl rfl rfl (z5 ww_1132 ww_1134 ww_50 ww_77 ww_1135) hy_X6_hasRoom rfl (Nat.le_of_ble_eq_true rfl) (Nat.le_of_ble_eq_true rfl) (Nat.le_of_ble_eq_true rfl) ?_
    refine zr_ifeq (tgt := 82) hX dX6_high_41 rfl h (fun h => ?_) (fun h => ?_)
    · refine zr_aload_n hX dX6_high_82 rfl rfl ?_
      refine zP_bind h (fun q4 hq4 h => ?_)
      refine zr_callV hX dX6_high_83 (m_M_putsBack hq4) rfl rfl rfl (z5 ww_1229 ww_1231 ww_60 ww_77 ww_1232) hy_X6_putsBack rfl (Nat.le_of_ble_eq_true rfl) (Nat.le_of_ble_eq_true rfl) (Nat.le_of_ble_eq_true rfl) ?_
      refine zr_iload_n hX dX6_high_86 rfl rfl ?_
      exact zr_iret hX dX6_high_87 hF h
    · refine zr_aload_n hX dX6_high_44 rfl rfl ?_
      refine zr_iconst hX dX6_high_45 (zrl rfl) ?_
      refine zr_iload_n hX dX6_high_46 rfl rfl ?_
      refine zr_iconst hX dX6_high_47 (zrl rfl) ?_
      refine zr_iload_n hX dX6_high_48 rfl rfl ?_
      refine zP_bind h (fun q5 hq5 h => ?_)
      refine zr_callV hX dX6_high_49 (m_M_adds hq5) rfl rfl rfl (z5 ww_986 ww_988 ww_26 ww_77 ww_989) hy_X6_adds rfl (Nat.le_of_ble_eq_true rfl) (Nat.le_of_ble_eq_true rfl) (Nat.le_of_ble_eq_true rfl) ?_
      refine zr_aload_n hX dX6_high_52 rfl rfl ?_
      refine zP_bind h (fun q6 hq6 h => ?_)
      refine zr_callV hX dX6_high_53 (m_M_swaying hq6) rfl rfl rfl (z5 ww_1206 ww_1208 ww_57 ww_77 ww_1209) hy_X6_swaying rfl (Nat.le_of_ble_eq_true rfl) (Nat.le_of_ble_eq_true rfl) (Nat.le_of_ble_eq_true rfl) ?_
      refine zr_ifne (tgt := 63) hX dX6_high_56 rfl h (fun h => ?_) (fun h => ?_)
      · refine zr_iconst hX dX6_high_63 (zrl rfl) ?_
        exact zW_lf (w_M_high_64 hX hF h) (And.intro rfl (And.intro rfl (And.intro rfl (And.intro rfl trivial))))
      · refine zr_iconst hX dX6_high_59 (zrl rfl) ?_
        refine zr_goto hX dX6_high_60 (tgt := 64) rfl ?_
        exact zW_lf (w_M_high_64 hX hF h) (And.intro rfl (And.intro rfl (And.intro rfl (And.intro rfl trivial))))
set_option maxRecDepth 100000 in
set_option maxHeartbeats 4000000 in
theorem w_M_high_e {X : zX} {G : zG} {v1 : Int} {v2 : Int} {μ : zM} {rv : Option zV} {ν : zM} (hX : zOk X G cX6_high RX6 5 (some .int) 5) (hF : zFin X G rv ν) (h : zP (Sum.elim (k_M_high X G v1 v2) (fun r : (Int × zM) => (some (zI r.1), r.2) = (rv, ν))) (e_M_high v1 v2 μ)) : zW X G 5 0 [some (zR 42), some (zI v1), some (zI v2), none, none] [] μ := by
  refine zr_aload_n hX dX6_high_0 rfl rfl ?_
  refine zr_iload_n hX dX6_high_1 rfl rfl ?_
  refine zr_callV hX dX6_high_2 (m_M_isTower) rfl rfl rfl (z5 ww_1002 ww_1004 ww_28 ww_77 ww_1005) hy_X6_isTower rfl (Nat.le_of_ble_eq_true rfl) (Nat.le_of_ble_eq_true rfl) (Nat.le_of_ble_eq_true rfl) ?_
  refine zr_ifeq (tgt := 20) hX dX6_high_5 rfl h (fun h => ?_) (fun h => ?_)
  · refine zr_iconst hX dX6_high_20 (zrl rfl) ?_
    exact zr_iret hX dX6_high_21 hF h
  · refine zr_iload_n hX dX6_high_8 rfl rfl ?_
    refine zr_i2l hX dX6_high_9 ?_
    refine zr_lconst hX dX6_high_10 (n := 0) rfl (zrlJ rfl) ?_
    refine zr_ldc2 hX dX6_high_11 ww_1127 rfl (zrlJ rfl) ?_
    refine zr_callS hX dX6_high_14 (m_M_in) rfl (z4 ww_918 ww_919 ww_77 ww_920) hy_X6_in rfl (Nat.le_of_ble_eq_true rfl) (Nat.le_of_ble_eq_true rfl) (Nat.le_of_ble_eq_true rfl) ?_
    refine zr_ifne (tgt := 22) hX dX6_high_17 rfl h (fun h => ?_) (fun h => ?_)
    · refine zr_aload_n hX dX6_high_22 rfl rfl ?_
      refine zP_bind h (fun q1 hq1 h => ?_)
      refine zr_callV hX dX6_high_23 (m_M_lays hq1) rfl rfl rfl (z5 ww_1225 ww_1227 ww_59 ww_77 ww_1228) hy_X6_lays rfl (Nat.le_of_ble_eq_true rfl) (Nat.le_of_ble_eq_true rfl) (Nat.le_of_ble_eq_true rfl) ?_
      refine zr_iconst hX dX6_high_26 (zrl rfl) ?_
      refine zr_istore_n hX dX6_high_27 rfl (Nat.le_of_ble_eq_true rfl) ?_
      refine zr_iconst hX dX6_high_28 (zrl rfl) ?_
      refine zr_istore hX dX6_high_29 (Nat.le_of_ble_eq_true rfl) ?_
      exact zW_lf (k_M_high_31 h) (And.intro rfl (And.intro rfl (And.intro rfl (And.intro rfl (And.intro rfl trivial)))))
    · refine zr_iconst hX dX6_high_20 (zrl rfl) ?_
      exact zr_iret hX dX6_high_21 hF h
set_option maxRecDepth 100000 in
theorem m_M_high {l : Launch} {G : zG} {v1 : Int} {v2 : Int} {μ : zM} {q : Int × zM} (hq : f_M_high v1 v2 μ = some q) : zCT l G yX6_high cX6_high 5 (some .int) 5 [zR 42, zI v1, zI v2] μ (some (zI q.1)) q.2 := by
  refine zMet (lv := [some (zR 42), some (zI v1), some (zI v2), none, none]) (k := 2) pl_X6 rfl (Nat.le_of_ble_eq_true rfl) (fun X hl hX hF _ _ => ?_)
  refine w_M_high_e hX hF (zgo_K (r := q) (step := t_M_high v1 v2) (fun s h => ?_) rfl hq)
  exact w_M_high_31 hX hF h
