theorem hi_X0_init : yX0_init.name = "<init>" ∧ yX0_init.cls ≠ "java/lang/invoke/MethodHandle" ∧ yX0_init.cls ≠ "java/lang/invoke/VarHandle" ∧ (parseMethodDescriptor yX0_init.desc).map (fun d => d.parameters.length) = some 0 := by decide +kernel
theorem hi_X1_init : yX1_init.name = "<init>" ∧ yX1_init.cls ≠ "java/lang/invoke/MethodHandle" ∧ yX1_init.cls ≠ "java/lang/invoke/VarHandle" ∧ (parseMethodDescriptor yX1_init.desc).map (fun d => d.parameters.length) = some 0 := by decide +kernel
theorem hi_X2_init : yX2_init.name = "<init>" ∧ yX2_init.cls ≠ "java/lang/invoke/MethodHandle" ∧ yX2_init.cls ≠ "java/lang/invoke/VarHandle" ∧ (parseMethodDescriptor yX2_init.desc).map (fun d => d.parameters.length) = some 0 := by decide +kernel
theorem hi_X3_init : yX3_init.name = "<init>" ∧ yX3_init.cls ≠ "java/lang/invoke/MethodHandle" ∧ yX3_init.cls ≠ "java/lang/invoke/VarHandle" ∧ (parseMethodDescriptor yX3_init.desc).map (fun d => d.parameters.length) = some 3 := by decide +kernel
theorem hi_X4_init : yX4_init.name = "<init>" ∧ yX4_init.cls ≠ "java/lang/invoke/MethodHandle" ∧ yX4_init.cls ≠ "java/lang/invoke/VarHandle" ∧ (parseMethodDescriptor yX4_init.desc).map (fun d => d.parameters.length) = some 1 := by decide +kernel
theorem hi_X5_init : yX5_init.name = "<init>" ∧ yX5_init.cls ≠ "java/lang/invoke/MethodHandle" ∧ yX5_init.cls ≠ "java/lang/invoke/VarHandle" ∧ (parseMethodDescriptor yX5_init.desc).map (fun d => d.parameters.length) = some 0 := by decide +kernel
theorem hi_X6_init : yX6_init.name = "<init>" ∧ yX6_init.cls ≠ "java/lang/invoke/MethodHandle" ∧ yX6_init.cls ≠ "java/lang/invoke/VarHandle" ∧ (parseMethodDescriptor yX6_init.desc).map (fun d => d.parameters.length) = some 0 := by decide +kernel
theorem nm_X4_11 : (RX4, 11, yX1_init, "RoofLent") ∈ zNM := by decide +kernel
theorem nm_X5_36 : (RX5, 36, yX1_init, "RoofLent") ∈ zNM := by decide +kernel
theorem nm_X5_43 : (RX5, 43, yX0_init, "RoofLent") ∈ zNM := by decide +kernel
theorem nm_X5_50 : (RX5, 50, yX2_init, "RoofLent") ∈ zNM := by decide +kernel
theorem ww_110 : Cond.arrayClass .int ∈ zBIG := zbig 110 (by decide +kernel) rfl
theorem ww_111 : Cond.classLink RX5 21 RX4 ∈ zBIG := zbig 111 (by decide +kernel) rfl
theorem ww_112 : Cond.instantiable RX4 3 ∈ zBIG := zbig 112 (by decide +kernel) rfl
theorem ww_113 : Cond.methodLink RX5 23 yX4_init ∈ zBIG := zbig 113 (by decide +kernel) rfl
theorem ww_114 : Cond.instanceMethod yX4_init ∈ zBIG := zbig 114 (by decide +kernel) rfl
theorem ww_115 : Cond.code yX4_init cX4_init 2 none ∈ zBIG := zbig 115 (by decide +kernel) rfl
theorem ww_116 : Cond.methodLink RX4 3 Lib.objectInit ∈ zBIG := zbig 116 (by decide +kernel) rfl
theorem ww_117 : Cond.classLink RX4 9 RX1 ∈ zBIG := zbig 117 (by decide +kernel) rfl
theorem ww_118 : Cond.instantiable RX1 4 ∈ zBIG := zbig 118 (by decide +kernel) rfl
theorem ww_120 : Cond.instanceMethod yX1_init ∈ zBIG := zbig 120 (by decide +kernel) rfl
theorem ww_121 : Cond.code yX1_init cX1_init 1 none ∈ zBIG := zbig 121 (by decide +kernel) rfl
theorem ww_122 : Cond.methodLink RX1 3 Lib.objectInit ∈ zBIG := zbig 122 (by decide +kernel) rfl
theorem ww_149 : Cond.classLink RX5 34 RX1 ∈ zBIG := zbig 149 (by decide +kernel) rfl
theorem ww_151 : Cond.classLink RX5 41 RX0 ∈ zBIG := zbig 151 (by decide +kernel) rfl
theorem ww_152 : Cond.instantiable RX0 8 ∈ zBIG := zbig 152 (by decide +kernel) rfl
theorem ww_154 : Cond.instanceMethod yX0_init ∈ zBIG := zbig 154 (by decide +kernel) rfl
theorem ww_155 : Cond.code yX0_init cX0_init 1 none ∈ zBIG := zbig 155 (by decide +kernel) rfl
theorem ww_156 : Cond.methodLink RX0 3 Lib.objectInit ∈ zBIG := zbig 156 (by decide +kernel) rfl
theorem ww_183 : Cond.classLink RX5 48 RX2 ∈ zBIG := zbig 183 (by decide +kernel) rfl
theorem ww_184 : Cond.instantiable RX2 3 ∈ zBIG := zbig 184 (by decide +kernel) rfl
theorem ww_186 : Cond.instanceMethod yX2_init ∈ zBIG := zbig 186 (by decide +kernel) rfl
theorem ww_187 : Cond.code yX2_init cX2_init 1 none ∈ zBIG := zbig 187 (by decide +kernel) rfl
theorem ww_188 : Cond.methodLink RX2 3 Lib.objectInit ∈ zBIG := zbig 188 (by decide +kernel) rfl
theorem ww_85 : Cond.methodLink RX5 3 Lib.objectInit ∈ zBIG := zbig 85 (by decide +kernel) rfl
theorem ww_850 : Cond.methodLink RX6 1 Lib.objectInit ∈ zBIG := zbig 850 (by decide +kernel) rfl
theorem ww_86 : Cond.instanceMethod Lib.objectInit ∈ zBIG := zbig 86 (by decide +kernel) rfl
theorem ww_87 : Cond.code Lib.objectInit ⟨#[0xb1]⟩ 1 none ∈ zBIG := zbig 87 (by decide +kernel) rfl
theorem ww_88 : Cond.classLink RX5 9 RX3 ∈ zBIG := zbig 88 (by decide +kernel) rfl
theorem ww_89 : Cond.instantiable RX3 4 ∈ zBIG := zbig 89 (by decide +kernel) rfl
theorem ww_90 : Cond.methodLink RX5 11 yX3_init ∈ zBIG := zbig 90 (by decide +kernel) rfl
theorem ww_909 : Cond.arrayClass .boolean ∈ zBIG := zbig 909 (by decide +kernel) rfl
theorem ww_91 : Cond.instanceMethod yX3_init ∈ zBIG := zbig 91 (by decide +kernel) rfl
theorem ww_92 : Cond.code yX3_init cX3_init 5 none ∈ zBIG := zbig 92 (by decide +kernel) rfl
theorem ww_93 : Cond.methodLink RX3 3 Lib.objectInit ∈ zBIG := zbig 93 (by decide +kernel) rfl
set_option maxRecDepth 100000 in
set_option maxHeartbeats 8000000 in
theorem i_S_1 {l : Launch} {G : zG} {μ : zM} {fl : zF} (hGG : zGG G) : zC0 l G yX3_init cX3_init 5 1 2 246 [zR 1, zI 6, zI 40, zI 0] μ fl 2 (zst (zst (zst (zst (zst (zst (zst (zst μ 1 0 40) 1 1 0) 2 0 (-1)) 2 1 (-1)) 2 2 (-1)) 2 3 (-1)) 2 4 (-1)) 2 5 (-1)) (zfst (zfst fl 1 2) 1 3) 4 := by
  refine zMet0 (lv := [some (zR 1), some (zI 6), some (zI 40), some (zI 0), none]) (k := 1) pl_X3 rfl rfl (Nat.le_of_ble_eq_true rfl) (fun X hl hX hF => ?_)
  refine z0_aload_n hX dX3_init_0 rfl rfl ?_
  refine z0_obj0 hX dX3_init_1 (z3 ww_93 ww_86 ww_87) (Nat.le_of_ble_eq_true rfl) (Nat.le_of_ble_eq_true rfl) ?_
  refine z0_aload_n hX dX3_init_4 rfl rfl ?_
  refine z0_iconst hX dX3_init_5 (zrl rfl) ?_
  refine z0_iload_n hX dX3_init_6 rfl rfl ?_
  refine z0_max hX dX3_init_7 (by decide +kernel) (Nat.le_of_ble_eq_true rfl) (Nat.le_of_ble_eq_true rfl) ⟨(Nat.le_of_ble_eq_true rfl), (Nat.le_of_ble_eq_true rfl)⟩ (c := 40) rfl ?_
  refine z0_puti hX dX3_init_10 (k := 0) rfl (Nat.le_of_ble_eq_true rfl) rfl ww_97 rfl (by decide +kernel) ?_
  refine z0_aload_n hX dX3_init_13 rfl rfl ?_
  refine z0_iload_n hX dX3_init_14 rfl rfl ?_
  refine z0_puti hX dX3_init_15 (k := 1) rfl (Nat.le_of_ble_eq_true rfl) rfl ww_98 rfl (by decide +kernel) ?_
  refine z0_aload_n hX dX3_init_18 rfl rfl ?_
  refine z0_iconst hX dX3_init_19 (zrl rfl) ?_
  refine z0_iload_n hX dX3_init_20 rfl rfl ?_
  refine z0_max hX dX3_init_21 (by decide +kernel) (Nat.le_of_ble_eq_true rfl) (Nat.le_of_ble_eq_true rfl) ⟨(Nat.le_of_ble_eq_true rfl), (Nat.le_of_ble_eq_true rfl)⟩ (c := 6) rfl ?_
  refine z0_newi hX dX3_init_24 (m2 := 6) rfl (Nat.le_of_ble_eq_true rfl) rfl (Nat.le_of_ble_eq_true rfl) ww_110 ⟨(Nat.le_of_ble_eq_true rfl), (Nat.le_of_ble_eq_true rfl)⟩ ?_
  refine z0_putr hX dX3_init_26 (k := 2) (ty := (.array .int)) rfl (Nat.le_of_ble_eq_true rfl) rfl ww_99 rfl (by decide +kernel) rfl rfl rfl ?_
  refine z0_aload_n hX dX3_init_29 rfl rfl ?_
  refine z0_aload_n hX dX3_init_30 rfl rfl ?_
  refine z0_getr hX dX3_init_31 (k := 2) (q := 2) rfl (Nat.le_of_ble_eq_true rfl) rfl ww_99 rfl rfl ?_
  refine z0_alen hX dX3_init_34 (N := 6) rfl (Or.inl rfl) (Nat.le_of_ble_eq_true rfl) rfl (zrl rfl) ?_
  refine z0_aload_n hX dX3_init_35 rfl rfl ?_
  refine z0_geti hX dX3_init_36 (k := 0) (z := 40) rfl (Nat.le_of_ble_eq_true rfl) rfl ww_97 rfl (zrl rfl) ?_
  refine z0_imul hX dX3_init_39 (c := 240) rfl (zrl rfl) ?_
  refine z0_newi hX dX3_init_40 (m2 := 240) rfl (Nat.le_of_ble_eq_true rfl) rfl (Nat.le_of_ble_eq_true rfl) ww_110 ⟨(Nat.le_of_ble_eq_true rfl), (Nat.le_of_ble_eq_true rfl)⟩ ?_
  refine z0_putr hX dX3_init_42 (k := 3) (ty := (.array .int)) rfl (Nat.le_of_ble_eq_true rfl) rfl ww_100 rfl (by decide +kernel) rfl rfl rfl ?_
  refine z0_iconst hX dX3_init_45 (zrl rfl) ?_
  refine z0_istore hX dX3_init_46 (Nat.le_of_ble_eq_true rfl) (lw := [some (zR 1), some (zI 6), some (zI 40), some (zI 0), some (zI 0)]) rfl ?_
  refine z0_iload hX dX3_init_48 rfl ?_
  refine z0_aload_n hX dX3_init_50 rfl rfl ?_
  refine z0_getr hX dX3_init_51 (k := 2) (q := 2) rfl (Nat.le_of_ble_eq_true rfl) rfl ww_99 rfl rfl ?_
  refine z0_alen hX dX3_init_54 (N := 6) rfl (Or.inl rfl) (Nat.le_of_ble_eq_true rfl) rfl (zrl rfl) ?_
  refine z0_icmpge_f hX dX3_init_55 (tgt := 72) rfl (by decide) ?_
  refine z0_aload_n hX dX3_init_58 rfl rfl ?_
  refine z0_getr hX dX3_init_59 (k := 2) (q := 2) rfl (Nat.le_of_ble_eq_true rfl) rfl ww_99 rfl rfl ?_
  refine z0_iload hX dX3_init_62 rfl ?_
  refine z0_iconst hX dX3_init_64 (zrl rfl) ?_
  refine z0_iast hX dX3_init_65 (N := 6) (j := 0) rfl (Nat.le_of_ble_eq_true rfl) rfl rfl rfl ?_
  refine z0_iinc hX dX3_init_66 (y := 1) rfl (Nat.le_of_ble_eq_true rfl) rfl (zrl rfl) (lw := [some (zR 1), some (zI 6), some (zI 40), some (zI 0), some (zI 1)]) rfl ?_
  refine z0_goto hX dX3_init_69 (tgt := 48) rfl ?_
  refine z0_iload hX dX3_init_48 rfl ?_
  refine z0_aload_n hX dX3_init_50 rfl rfl ?_
  refine z0_getr hX dX3_init_51 (k := 2) (q := 2) rfl (Nat.le_of_ble_eq_true rfl) rfl ww_99 rfl rfl ?_
  refine z0_alen hX dX3_init_54 (N := 6) rfl (Or.inl rfl) (Nat.le_of_ble_eq_true rfl) rfl (zrl rfl) ?_
  refine z0_icmpge_f hX dX3_init_55 (tgt := 72) rfl (by decide) ?_
  refine z0_aload_n hX dX3_init_58 rfl rfl ?_
  refine z0_getr hX dX3_init_59 (k := 2) (q := 2) rfl (Nat.le_of_ble_eq_true rfl) rfl ww_99 rfl rfl ?_
  refine z0_iload hX dX3_init_62 rfl ?_
  refine z0_iconst hX dX3_init_64 (zrl rfl) ?_
  refine z0_iast hX dX3_init_65 (N := 6) (j := 1) rfl (Nat.le_of_ble_eq_true rfl) rfl rfl rfl ?_
  refine z0_iinc hX dX3_init_66 (y := 2) rfl (Nat.le_of_ble_eq_true rfl) rfl (zrl rfl) (lw := [some (zR 1), some (zI 6), some (zI 40), some (zI 0), some (zI 2)]) rfl ?_
  refine z0_goto hX dX3_init_69 (tgt := 48) rfl ?_
  refine z0_iload hX dX3_init_48 rfl ?_
  refine z0_aload_n hX dX3_init_50 rfl rfl ?_
  refine z0_getr hX dX3_init_51 (k := 2) (q := 2) rfl (Nat.le_of_ble_eq_true rfl) rfl ww_99 rfl rfl ?_
  refine z0_alen hX dX3_init_54 (N := 6) rfl (Or.inl rfl) (Nat.le_of_ble_eq_true rfl) rfl (zrl rfl) ?_
  refine z0_icmpge_f hX dX3_init_55 (tgt := 72) rfl (by decide) ?_
  refine z0_aload_n hX dX3_init_58 rfl rfl ?_
  refine z0_getr hX dX3_init_59 (k := 2) (q := 2) rfl (Nat.le_of_ble_eq_true rfl) rfl ww_99 rfl rfl ?_
  refine z0_iload hX dX3_init_62 rfl ?_
  refine z0_iconst hX dX3_init_64 (zrl rfl) ?_
  refine z0_iast hX dX3_init_65 (N := 6) (j := 2) rfl (Nat.le_of_ble_eq_true rfl) rfl rfl rfl ?_
  refine z0_iinc hX dX3_init_66 (y := 3) rfl (Nat.le_of_ble_eq_true rfl) rfl (zrl rfl) (lw := [some (zR 1), some (zI 6), some (zI 40), some (zI 0), some (zI 3)]) rfl ?_
  refine z0_goto hX dX3_init_69 (tgt := 48) rfl ?_
  refine z0_iload hX dX3_init_48 rfl ?_
  refine z0_aload_n hX dX3_init_50 rfl rfl ?_
  refine z0_getr hX dX3_init_51 (k := 2) (q := 2) rfl (Nat.le_of_ble_eq_true rfl) rfl ww_99 rfl rfl ?_
  refine z0_alen hX dX3_init_54 (N := 6) rfl (Or.inl rfl) (Nat.le_of_ble_eq_true rfl) rfl (zrl rfl) ?_
  refine z0_icmpge_f hX dX3_init_55 (tgt := 72) rfl (by decide) ?_
  refine z0_aload_n hX dX3_init_58 rfl rfl ?_
  refine z0_getr hX dX3_init_59 (k := 2) (q := 2) rfl (Nat.le_of_ble_eq_true rfl) rfl ww_99 rfl rfl ?_
  refine z0_iload hX dX3_init_62 rfl ?_
  refine z0_iconst hX dX3_init_64 (zrl rfl) ?_
  refine z0_iast hX dX3_init_65 (N := 6) (j := 3) rfl (Nat.le_of_ble_eq_true rfl) rfl rfl rfl ?_
  refine z0_iinc hX dX3_init_66 (y := 4) rfl (Nat.le_of_ble_eq_true rfl) rfl (zrl rfl) (lw := [some (zR 1), some (zI 6), some (zI 40), some (zI 0), some (zI 4)]) rfl ?_
  refine z0_goto hX dX3_init_69 (tgt := 48) rfl ?_
  refine z0_iload hX dX3_init_48 rfl ?_
  refine z0_aload_n hX dX3_init_50 rfl rfl ?_
  refine z0_getr hX dX3_init_51 (k := 2) (q := 2) rfl (Nat.le_of_ble_eq_true rfl) rfl ww_99 rfl rfl ?_
  refine z0_alen hX dX3_init_54 (N := 6) rfl (Or.inl rfl) (Nat.le_of_ble_eq_true rfl) rfl (zrl rfl) ?_
  refine z0_icmpge_f hX dX3_init_55 (tgt := 72) rfl (by decide) ?_
  refine z0_aload_n hX dX3_init_58 rfl rfl ?_
  refine z0_getr hX dX3_init_59 (k := 2) (q := 2) rfl (Nat.le_of_ble_eq_true rfl) rfl ww_99 rfl rfl ?_
  refine z0_iload hX dX3_init_62 rfl ?_
  refine z0_iconst hX dX3_init_64 (zrl rfl) ?_
  refine z0_iast hX dX3_init_65 (N := 6) (j := 4) rfl (Nat.le_of_ble_eq_true rfl) rfl rfl rfl ?_
  refine z0_iinc hX dX3_init_66 (y := 5) rfl (Nat.le_of_ble_eq_true rfl) rfl (zrl rfl) (lw := [some (zR 1), some (zI 6), some (zI 40), some (zI 0), some (zI 5)]) rfl ?_
  refine z0_goto hX dX3_init_69 (tgt := 48) rfl ?_
  refine z0_iload hX dX3_init_48 rfl ?_
  refine z0_aload_n hX dX3_init_50 rfl rfl ?_
  refine z0_getr hX dX3_init_51 (k := 2) (q := 2) rfl (Nat.le_of_ble_eq_true rfl) rfl ww_99 rfl rfl ?_
  refine z0_alen hX dX3_init_54 (N := 6) rfl (Or.inl rfl) (Nat.le_of_ble_eq_true rfl) rfl (zrl rfl) ?_
  refine z0_icmpge_f hX dX3_init_55 (tgt := 72) rfl (by decide) ?_
  refine z0_aload_n hX dX3_init_58 rfl rfl ?_
  refine z0_getr hX dX3_init_59 (k := 2) (q := 2) rfl (Nat.le_of_ble_eq_true rfl) rfl ww_99 rfl rfl ?_
  refine z0_iload hX dX3_init_62 rfl ?_
  refine z0_iconst hX dX3_init_64 (zrl rfl) ?_
  refine z0_iast hX dX3_init_65 (N := 6) (j := 5) rfl (Nat.le_of_ble_eq_true rfl) rfl rfl rfl ?_
  refine z0_iinc hX dX3_init_66 (y := 6) rfl (Nat.le_of_ble_eq_true rfl) rfl (zrl rfl) (lw := [some (zR 1), some (zI 6), some (zI 40), some (zI 0), some (zI 6)]) rfl ?_
  refine z0_goto hX dX3_init_69 (tgt := 48) rfl ?_
  refine z0_iload hX dX3_init_48 rfl ?_
  refine z0_aload_n hX dX3_init_50 rfl rfl ?_
  refine z0_getr hX dX3_init_51 (k := 2) (q := 2) rfl (Nat.le_of_ble_eq_true rfl) rfl ww_99 rfl rfl ?_
  refine z0_alen hX dX3_init_54 (N := 6) rfl (Or.inl rfl) (Nat.le_of_ble_eq_true rfl) rfl (zrl rfl) ?_
  refine z0_icmpge_t hX dX3_init_55 (tgt := 72) rfl (by decide) ?_
  exact z0_vret hX dX3_init_72 hF rfl
set_option maxRecDepth 100000 in
set_option maxHeartbeats 8000000 in
theorem i_S_4 {l : Launch} {G : zG} {μ : zM} {fl : zF} (hGG : zGG G) : zC0 l G yX3_init cX3_init 5 1 2 244 [zR 4, zI 4, zI 60, zI 32] μ fl 5 (zst (zst (zst (zst (zst (zst μ 4 0 60) 4 1 32) 5 0 (-1)) 5 1 (-1)) 5 2 (-1)) 5 3 (-1)) (zfst (zfst fl 4 2) 4 3) 7 := by
  refine zMet0 (lv := [some (zR 4), some (zI 4), some (zI 60), some (zI 32), none]) (k := 1) pl_X3 rfl rfl (Nat.le_of_ble_eq_true rfl) (fun X hl hX hF => ?_)
  refine z0_aload_n hX dX3_init_0 rfl rfl ?_
  refine z0_obj0 hX dX3_init_1 (z3 ww_93 ww_86 ww_87) (Nat.le_of_ble_eq_true rfl) (Nat.le_of_ble_eq_true rfl) ?_
  refine z0_aload_n hX dX3_init_4 rfl rfl ?_
  refine z0_iconst hX dX3_init_5 (zrl rfl) ?_
  refine z0_iload_n hX dX3_init_6 rfl rfl ?_
  refine z0_max hX dX3_init_7 (by decide +kernel) (Nat.le_of_ble_eq_true rfl) (Nat.le_of_ble_eq_true rfl) ⟨(Nat.le_of_ble_eq_true rfl), (Nat.le_of_ble_eq_true rfl)⟩ (c := 60) rfl ?_
  refine z0_puti hX dX3_init_10 (k := 0) rfl (Nat.le_of_ble_eq_true rfl) rfl ww_97 rfl (by decide +kernel) ?_
  refine z0_aload_n hX dX3_init_13 rfl rfl ?_
  refine z0_iload_n hX dX3_init_14 rfl rfl ?_
  refine z0_puti hX dX3_init_15 (k := 1) rfl (Nat.le_of_ble_eq_true rfl) rfl ww_98 rfl (by decide +kernel) ?_
  refine z0_aload_n hX dX3_init_18 rfl rfl ?_
  refine z0_iconst hX dX3_init_19 (zrl rfl) ?_
  refine z0_iload_n hX dX3_init_20 rfl rfl ?_
  refine z0_max hX dX3_init_21 (by decide +kernel) (Nat.le_of_ble_eq_true rfl) (Nat.le_of_ble_eq_true rfl) ⟨(Nat.le_of_ble_eq_true rfl), (Nat.le_of_ble_eq_true rfl)⟩ (c := 4) rfl ?_
  refine z0_newi hX dX3_init_24 (m2 := 4) rfl (Nat.le_of_ble_eq_true rfl) rfl (Nat.le_of_ble_eq_true rfl) ww_110 ⟨(Nat.le_of_ble_eq_true rfl), (Nat.le_of_ble_eq_true rfl)⟩ ?_
  refine z0_putr hX dX3_init_26 (k := 2) (ty := (.array .int)) rfl (Nat.le_of_ble_eq_true rfl) rfl ww_99 rfl (by decide +kernel) rfl rfl rfl ?_
  refine z0_aload_n hX dX3_init_29 rfl rfl ?_
  refine z0_aload_n hX dX3_init_30 rfl rfl ?_
  refine z0_getr hX dX3_init_31 (k := 2) (q := 5) rfl (Nat.le_of_ble_eq_true rfl) rfl ww_99 rfl rfl ?_
  refine z0_alen hX dX3_init_34 (N := 4) rfl (Or.inl rfl) (Nat.le_of_ble_eq_true rfl) rfl (zrl rfl) ?_
  refine z0_aload_n hX dX3_init_35 rfl rfl ?_
  refine z0_geti hX dX3_init_36 (k := 0) (z := 60) rfl (Nat.le_of_ble_eq_true rfl) rfl ww_97 rfl (zrl rfl) ?_
  refine z0_imul hX dX3_init_39 (c := 240) rfl (zrl rfl) ?_
  refine z0_newi hX dX3_init_40 (m2 := 240) rfl (Nat.le_of_ble_eq_true rfl) rfl (Nat.le_of_ble_eq_true rfl) ww_110 ⟨(Nat.le_of_ble_eq_true rfl), (Nat.le_of_ble_eq_true rfl)⟩ ?_
  refine z0_putr hX dX3_init_42 (k := 3) (ty := (.array .int)) rfl (Nat.le_of_ble_eq_true rfl) rfl ww_100 rfl (by decide +kernel) rfl rfl rfl ?_
  refine z0_iconst hX dX3_init_45 (zrl rfl) ?_
  refine z0_istore hX dX3_init_46 (Nat.le_of_ble_eq_true rfl) (lw := [some (zR 4), some (zI 4), some (zI 60), some (zI 32), some (zI 0)]) rfl ?_
  refine z0_iload hX dX3_init_48 rfl ?_
  refine z0_aload_n hX dX3_init_50 rfl rfl ?_
  refine z0_getr hX dX3_init_51 (k := 2) (q := 5) rfl (Nat.le_of_ble_eq_true rfl) rfl ww_99 rfl rfl ?_
  refine z0_alen hX dX3_init_54 (N := 4) rfl (Or.inl rfl) (Nat.le_of_ble_eq_true rfl) rfl (zrl rfl) ?_
  refine z0_icmpge_f hX dX3_init_55 (tgt := 72) rfl (by decide) ?_
  refine z0_aload_n hX dX3_init_58 rfl rfl ?_
  refine z0_getr hX dX3_init_59 (k := 2) (q := 5) rfl (Nat.le_of_ble_eq_true rfl) rfl ww_99 rfl rfl ?_
  refine z0_iload hX dX3_init_62 rfl ?_
  refine z0_iconst hX dX3_init_64 (zrl rfl) ?_
  refine z0_iast hX dX3_init_65 (N := 4) (j := 0) rfl (Nat.le_of_ble_eq_true rfl) rfl rfl rfl ?_
  refine z0_iinc hX dX3_init_66 (y := 1) rfl (Nat.le_of_ble_eq_true rfl) rfl (zrl rfl) (lw := [some (zR 4), some (zI 4), some (zI 60), some (zI 32), some (zI 1)]) rfl ?_
  refine z0_goto hX dX3_init_69 (tgt := 48) rfl ?_
  refine z0_iload hX dX3_init_48 rfl ?_
  refine z0_aload_n hX dX3_init_50 rfl rfl ?_
  refine z0_getr hX dX3_init_51 (k := 2) (q := 5) rfl (Nat.le_of_ble_eq_true rfl) rfl ww_99 rfl rfl ?_
  refine z0_alen hX dX3_init_54 (N := 4) rfl (Or.inl rfl) (Nat.le_of_ble_eq_true rfl) rfl (zrl rfl) ?_
  refine z0_icmpge_f hX dX3_init_55 (tgt := 72) rfl (by decide) ?_
  refine z0_aload_n hX dX3_init_58 rfl rfl ?_
  refine z0_getr hX dX3_init_59 (k := 2) (q := 5) rfl (Nat.le_of_ble_eq_true rfl) rfl ww_99 rfl rfl ?_
  refine z0_iload hX dX3_init_62 rfl ?_
  refine z0_iconst hX dX3_init_64 (zrl rfl) ?_
  refine z0_iast hX dX3_init_65 (N := 4) (j := 1) rfl (Nat.le_of_ble_eq_true rfl) rfl rfl rfl ?_
  refine z0_iinc hX dX3_init_66 (y := 2) rfl (Nat.le_of_ble_eq_true rfl) rfl (zrl rfl) (lw := [some (zR 4), some (zI 4), some (zI 60), some (zI 32), some (zI 2)]) rfl ?_
  refine z0_goto hX dX3_init_69 (tgt := 48) rfl ?_
  refine z0_iload hX dX3_init_48 rfl ?_
  refine z0_aload_n hX dX3_init_50 rfl rfl ?_
  refine z0_getr hX dX3_init_51 (k := 2) (q := 5) rfl (Nat.le_of_ble_eq_true rfl) rfl ww_99 rfl rfl ?_
  refine z0_alen hX dX3_init_54 (N := 4) rfl (Or.inl rfl) (Nat.le_of_ble_eq_true rfl) rfl (zrl rfl) ?_
  refine z0_icmpge_f hX dX3_init_55 (tgt := 72) rfl (by decide) ?_
  refine z0_aload_n hX dX3_init_58 rfl rfl ?_
  refine z0_getr hX dX3_init_59 (k := 2) (q := 5) rfl (Nat.le_of_ble_eq_true rfl) rfl ww_99 rfl rfl ?_
  refine z0_iload hX dX3_init_62 rfl ?_
  refine z0_iconst hX dX3_init_64 (zrl rfl) ?_
  refine z0_iast hX dX3_init_65 (N := 4) (j := 2) rfl (Nat.le_of_ble_eq_true rfl) rfl rfl rfl ?_
  refine z0_iinc hX dX3_init_66 (y := 3) rfl (Nat.le_of_ble_eq_true rfl) rfl (zrl rfl) (lw := [some (zR 4), some (zI 4), some (zI 60), some (zI 32), some (zI 3)]) rfl ?_
  refine z0_goto hX dX3_init_69 (tgt := 48) rfl ?_
  refine z0_iload hX dX3_init_48 rfl ?_
  refine z0_aload_n hX dX3_init_50 rfl rfl ?_
  refine z0_getr hX dX3_init_51 (k := 2) (q := 5) rfl (Nat.le_of_ble_eq_true rfl) rfl ww_99 rfl rfl ?_
  refine z0_alen hX dX3_init_54 (N := 4) rfl (Or.inl rfl) (Nat.le_of_ble_eq_true rfl) rfl (zrl rfl) ?_
  refine z0_icmpge_f hX dX3_init_55 (tgt := 72) rfl (by decide) ?_
  refine z0_aload_n hX dX3_init_58 rfl rfl ?_
  refine z0_getr hX dX3_init_59 (k := 2) (q := 5) rfl (Nat.le_of_ble_eq_true rfl) rfl ww_99 rfl rfl ?_
  refine z0_iload hX dX3_init_62 rfl ?_
  refine z0_iconst hX dX3_init_64 (zrl rfl) ?_
  refine z0_iast hX dX3_init_65 (N := 4) (j := 3) rfl (Nat.le_of_ble_eq_true rfl) rfl rfl rfl ?_
  refine z0_iinc hX dX3_init_66 (y := 4) rfl (Nat.le_of_ble_eq_true rfl) rfl (zrl rfl) (lw := [some (zR 4), some (zI 4), some (zI 60), some (zI 32), some (zI 4)]) rfl ?_
  refine z0_goto hX dX3_init_69 (tgt := 48) rfl ?_
  refine z0_iload hX dX3_init_48 rfl ?_
  refine z0_aload_n hX dX3_init_50 rfl rfl ?_
  refine z0_getr hX dX3_init_51 (k := 2) (q := 5) rfl (Nat.le_of_ble_eq_true rfl) rfl ww_99 rfl rfl ?_
  refine z0_alen hX dX3_init_54 (N := 4) rfl (Or.inl rfl) (Nat.le_of_ble_eq_true rfl) rfl (zrl rfl) ?_
  refine z0_icmpge_t hX dX3_init_55 (tgt := 72) rfl (by decide) ?_
  exact z0_vret hX dX3_init_72 hF rfl
set_option maxRecDepth 100000 in
set_option maxHeartbeats 8000000 in
theorem i_R_8 {l : Launch} {G : zG} {μ : zM} {fl : zF} (hGG : zGG G) : zC0 l G yX1_init cX1_init 1 1 2 35 [zR 8] μ fl 9 μ (zfst (zfst fl 8 2) 8 3) 11 := by
  refine zMet0 (lv := [some (zR 8)]) (k := 0) pl_X1 rfl rfl (Nat.le_of_ble_eq_true rfl) (fun X hl hX hF => ?_)
  refine z0_aload_n hX dX1_init_0 rfl rfl ?_
  refine z0_obj0 hX dX1_init_1 (z3 ww_122 ww_86 ww_87) (Nat.le_of_ble_eq_true rfl) (Nat.le_of_ble_eq_true rfl) ?_
  refine z0_aload_n hX dX1_init_4 rfl rfl ?_
  refine z0_iconst hX dX1_init_5 (zrl rfl) ?_
  refine z0_newi hX dX1_init_6 (m2 := 5) rfl (Nat.le_of_ble_eq_true rfl) rfl (Nat.le_of_ble_eq_true rfl) ww_110 ⟨(Nat.le_of_ble_eq_true rfl), (Nat.le_of_ble_eq_true rfl)⟩ ?_
  refine z0_putr hX dX1_init_8 (k := 2) (ty := (.array .int)) rfl (Nat.le_of_ble_eq_true rfl) rfl ww_125 rfl (by decide +kernel) rfl rfl rfl ?_
  refine z0_aload_n hX dX1_init_11 rfl rfl ?_
  refine z0_bipush hX dX1_init_12 rfl ?_
  refine z0_newi hX dX1_init_14 (m2 := 30) rfl (Nat.le_of_ble_eq_true rfl) rfl (Nat.le_of_ble_eq_true rfl) ww_110 ⟨(Nat.le_of_ble_eq_true rfl), (Nat.le_of_ble_eq_true rfl)⟩ ?_
  refine z0_putr hX dX1_init_16 (k := 3) (ty := (.array .int)) rfl (Nat.le_of_ble_eq_true rfl) rfl ww_126 rfl (by decide +kernel) rfl rfl rfl ?_
  exact z0_vret hX dX1_init_19 hF rfl
set_option maxRecDepth 100000 in
set_option maxHeartbeats 8000000 in
theorem i_Y_7 {l : Launch} {G : zG} {μ : zM} {fl : zF} (hGG : zGG G) : zC0 l G yX4_init cX4_init 2 2 4 1239 [zR 7, zI 0] μ fl 8 (zst μ 7 2 0) (zfst (zfst (zfst (zfst fl 8 2) 8 3) 7 0) 7 1) 12 := by
  refine zMet0 (lv := [some (zR 7), some (zI 0)]) (k := 0) pl_X4 rfl rfl (Nat.le_of_ble_eq_true rfl) (fun X hl hX hF => ?_)
  refine z0_aload_n hX dX4_init_0 rfl rfl ?_
  refine z0_obj0 hX dX4_init_1 (z3 ww_116 ww_86 ww_87) (Nat.le_of_ble_eq_true rfl) (Nat.le_of_ble_eq_true rfl) ?_
  refine z0_aload_n hX dX4_init_4 rfl rfl ?_
  refine z0_new hX dX4_init_5 (ci := 1) rfl (Nat.le_of_ble_eq_true rfl) rfl (z3 ww_117 ww_118 ww_74) ⟨(Nat.le_of_ble_eq_true rfl), (Nat.le_of_ble_eq_true rfl)⟩ ?_
  refine z0_dup hX dX4_init_8 ?_
  refine z0_callIN hX dX4_init_9 (mc2 := 2) (ms2 := 35) (i_R_8 hGG) rfl hGG nm_X4_11 (z3 ww_120 ww_74 ww_121) hi_X1_init rfl (Nat.le_of_ble_eq_true rfl) (Nat.le_of_ble_eq_true rfl) (Nat.le_of_ble_eq_true rfl) ⟨(Nat.le_of_ble_eq_true rfl), (Nat.le_of_ble_eq_true rfl)⟩ ?_
  refine z0_putr hX dX4_init_12 (k := 0) (ty := (.object "RoofLent$Rock")) rfl (Nat.le_of_ble_eq_true rfl) rfl ww_136 rfl (by decide +kernel) rfl rfl rfl ?_
  refine z0_aload_n hX dX4_init_15 rfl rfl ?_
  refine z0_sipush hX dX4_init_16 rfl ?_
  refine z0_newi hX dX4_init_19 (m2 := 1200) rfl (Nat.le_of_ble_eq_true rfl) rfl (Nat.le_of_ble_eq_true rfl) ww_110 ⟨(Nat.le_of_ble_eq_true rfl), (Nat.le_of_ble_eq_true rfl)⟩ ?_
  refine z0_putr hX dX4_init_21 (k := 1) (ty := (.array .int)) rfl (Nat.le_of_ble_eq_true rfl) rfl ww_138 rfl (by decide +kernel) rfl rfl rfl ?_
  refine z0_aload_n hX dX4_init_24 rfl rfl ?_
  refine z0_iload_n hX dX4_init_25 rfl rfl ?_
  refine z0_puti hX dX4_init_26 (k := 2) rfl (Nat.le_of_ble_eq_true rfl) rfl ww_139 rfl (by decide +kernel) ?_
  exact z0_vret hX dX4_init_29 hF rfl
set_option maxRecDepth 100000 in
set_option maxHeartbeats 8000000 in
theorem i_R_13 {l : Launch} {G : zG} {μ : zM} {fl : zF} (hGG : zGG G) : zC0 l G yX1_init cX1_init 1 1 2 35 [zR 13] μ fl 14 μ (zfst (zfst fl 13 2) 13 3) 16 := by
  refine zMet0 (lv := [some (zR 13)]) (k := 0) pl_X1 rfl rfl (Nat.le_of_ble_eq_true rfl) (fun X hl hX hF => ?_)
  refine z0_aload_n hX dX1_init_0 rfl rfl ?_
  refine z0_obj0 hX dX1_init_1 (z3 ww_122 ww_86 ww_87) (Nat.le_of_ble_eq_true rfl) (Nat.le_of_ble_eq_true rfl) ?_
  refine z0_aload_n hX dX1_init_4 rfl rfl ?_
  refine z0_iconst hX dX1_init_5 (zrl rfl) ?_
  refine z0_newi hX dX1_init_6 (m2 := 5) rfl (Nat.le_of_ble_eq_true rfl) rfl (Nat.le_of_ble_eq_true rfl) ww_110 ⟨(Nat.le_of_ble_eq_true rfl), (Nat.le_of_ble_eq_true rfl)⟩ ?_
  refine z0_putr hX dX1_init_8 (k := 2) (ty := (.array .int)) rfl (Nat.le_of_ble_eq_true rfl) rfl ww_125 rfl (by decide +kernel) rfl rfl rfl ?_
  refine z0_aload_n hX dX1_init_11 rfl rfl ?_
  refine z0_bipush hX dX1_init_12 rfl ?_
  refine z0_newi hX dX1_init_14 (m2 := 30) rfl (Nat.le_of_ble_eq_true rfl) rfl (Nat.le_of_ble_eq_true rfl) ww_110 ⟨(Nat.le_of_ble_eq_true rfl), (Nat.le_of_ble_eq_true rfl)⟩ ?_
  refine z0_putr hX dX1_init_16 (k := 3) (ty := (.array .int)) rfl (Nat.le_of_ble_eq_true rfl) rfl ww_126 rfl (by decide +kernel) rfl rfl rfl ?_
  exact z0_vret hX dX1_init_19 hF rfl
set_option maxRecDepth 100000 in
set_option maxHeartbeats 8000000 in
theorem i_L_16 {l : Launch} {G : zG} {μ : zM} {fl : zF} (hGG : zGG G) : zC0 l G yX0_init cX0_init 1 1 6 204 [zR 16] μ fl 17 μ (zfst (zfst (zfst (zfst (zfst (zfst fl 16 2) 16 3) 16 4) 16 5) 16 6) 16 7) 23 := by
  refine zMet0 (lv := [some (zR 16)]) (k := 0) pl_X0 rfl rfl (Nat.le_of_ble_eq_true rfl) (fun X hl hX hF => ?_)
  refine z0_aload_n hX dX0_init_0 rfl rfl ?_
  refine z0_obj0 hX dX0_init_1 (z3 ww_156 ww_86 ww_87) (Nat.le_of_ble_eq_true rfl) (Nat.le_of_ble_eq_true rfl) ?_
  refine z0_aload_n hX dX0_init_4 rfl rfl ?_
  refine z0_bipush hX dX0_init_5 rfl ?_
  refine z0_newi hX dX0_init_7 (m2 := 12) rfl (Nat.le_of_ble_eq_true rfl) rfl (Nat.le_of_ble_eq_true rfl) ww_110 ⟨(Nat.le_of_ble_eq_true rfl), (Nat.le_of_ble_eq_true rfl)⟩ ?_
  refine z0_putr hX dX0_init_9 (k := 2) (ty := (.array .int)) rfl (Nat.le_of_ble_eq_true rfl) rfl ww_160 rfl (by decide +kernel) rfl rfl rfl ?_
  refine z0_aload_n hX dX0_init_12 rfl rfl ?_
  refine z0_bipush hX dX0_init_13 rfl ?_
  refine z0_newi hX dX0_init_15 (m2 := 12) rfl (Nat.le_of_ble_eq_true rfl) rfl (Nat.le_of_ble_eq_true rfl) ww_110 ⟨(Nat.le_of_ble_eq_true rfl), (Nat.le_of_ble_eq_true rfl)⟩ ?_
  refine z0_putr hX dX0_init_17 (k := 3) (ty := (.array .int)) rfl (Nat.le_of_ble_eq_true rfl) rfl ww_161 rfl (by decide +kernel) rfl rfl rfl ?_
  refine z0_aload_n hX dX0_init_20 rfl rfl ?_
  refine z0_bipush hX dX0_init_21 rfl ?_
  refine z0_newi hX dX0_init_23 (m2 := 12) rfl (Nat.le_of_ble_eq_true rfl) rfl (Nat.le_of_ble_eq_true rfl) ww_110 ⟨(Nat.le_of_ble_eq_true rfl), (Nat.le_of_ble_eq_true rfl)⟩ ?_
  refine z0_putr hX dX0_init_25 (k := 4) (ty := (.array .int)) rfl (Nat.le_of_ble_eq_true rfl) rfl ww_162 rfl (by decide +kernel) rfl rfl rfl ?_
  refine z0_aload_n hX dX0_init_28 rfl rfl ?_
  refine z0_bipush hX dX0_init_29 rfl ?_
  refine z0_newi hX dX0_init_31 (m2 := 12) rfl (Nat.le_of_ble_eq_true rfl) rfl (Nat.le_of_ble_eq_true rfl) ww_110 ⟨(Nat.le_of_ble_eq_true rfl), (Nat.le_of_ble_eq_true rfl)⟩ ?_
  refine z0_putr hX dX0_init_33 (k := 5) (ty := (.array .int)) rfl (Nat.le_of_ble_eq_true rfl) rfl ww_163 rfl (by decide +kernel) rfl rfl rfl ?_
  refine z0_aload_n hX dX0_init_36 rfl rfl ?_
  refine z0_sipush hX dX0_init_37 rfl ?_
  refine z0_newi hX dX0_init_40 (m2 := 144) rfl (Nat.le_of_ble_eq_true rfl) rfl (Nat.le_of_ble_eq_true rfl) ww_110 ⟨(Nat.le_of_ble_eq_true rfl), (Nat.le_of_ble_eq_true rfl)⟩ ?_
  refine z0_putr hX dX0_init_42 (k := 6) (ty := (.array .int)) rfl (Nat.le_of_ble_eq_true rfl) rfl ww_164 rfl (by decide +kernel) rfl rfl rfl ?_
  refine z0_aload_n hX dX0_init_45 rfl rfl ?_
  refine z0_bipush hX dX0_init_46 rfl ?_
  refine z0_newi hX dX0_init_48 (m2 := 12) rfl (Nat.le_of_ble_eq_true rfl) rfl (Nat.le_of_ble_eq_true rfl) ww_110 ⟨(Nat.le_of_ble_eq_true rfl), (Nat.le_of_ble_eq_true rfl)⟩ ?_
  refine z0_putr hX dX0_init_50 (k := 7) (ty := (.array .int)) rfl (Nat.le_of_ble_eq_true rfl) rfl ww_165 rfl (by decide +kernel) rfl rfl rfl ?_
  exact z0_vret hX dX0_init_53 hF rfl
set_option maxRecDepth 100000 in
set_option maxHeartbeats 8000000 in
theorem i_G_23 {l : Launch} {G : zG} {μ : zM} {fl : zF} (hGG : zGG G) : zC0 l G yX2_init cX2_init 1 1 2 4108 [zR 23] μ fl 24 μ (zfst (zfst fl 23 1) 23 2) 26 := by
  refine zMet0 (lv := [some (zR 23)]) (k := 0) pl_X2 rfl rfl (Nat.le_of_ble_eq_true rfl) (fun X hl hX hF => ?_)
  refine z0_aload_n hX dX2_init_0 rfl rfl ?_
  refine z0_obj0 hX dX2_init_1 (z3 ww_188 ww_86 ww_87) (Nat.le_of_ble_eq_true rfl) (Nat.le_of_ble_eq_true rfl) ?_
  refine z0_aload_n hX dX2_init_4 rfl rfl ?_
  refine z0_bipush hX dX2_init_5 rfl ?_
  refine z0_newi hX dX2_init_7 (m2 := 12) rfl (Nat.le_of_ble_eq_true rfl) rfl (Nat.le_of_ble_eq_true rfl) ww_110 ⟨(Nat.le_of_ble_eq_true rfl), (Nat.le_of_ble_eq_true rfl)⟩ ?_
  refine z0_putr hX dX2_init_9 (k := 1) (ty := (.array .int)) rfl (Nat.le_of_ble_eq_true rfl) rfl ww_190 rfl (by decide +kernel) rfl rfl rfl ?_
  refine z0_aload_n hX dX2_init_12 rfl rfl ?_
  refine z0_sipush hX dX2_init_13 rfl ?_
  refine z0_newi hX dX2_init_16 (m2 := 4096) rfl (Nat.le_of_ble_eq_true rfl) rfl (Nat.le_of_ble_eq_true rfl) ww_110 ⟨(Nat.le_of_ble_eq_true rfl), (Nat.le_of_ble_eq_true rfl)⟩ ?_
  refine z0_putr hX dX2_init_18 (k := 2) (ty := (.array .int)) rfl (Nat.le_of_ble_eq_true rfl) rfl ww_191 rfl (by decide +kernel) rfl rfl rfl ?_
  exact z0_vret hX dX2_init_21 hF rfl
set_option maxRecDepth 100000 in
set_option maxHeartbeats 8000000 in
theorem i_R_28 {l : Launch} {G : zG} {μ : zM} {fl : zF} (hGG : zGG G) : zC0 l G yX1_init cX1_init 1 1 2 35 [zR 28] μ fl 29 μ (zfst (zfst fl 28 2) 28 3) 31 := by
  refine zMet0 (lv := [some (zR 28)]) (k := 0) pl_X1 rfl rfl (Nat.le_of_ble_eq_true rfl) (fun X hl hX hF => ?_)
  refine z0_aload_n hX dX1_init_0 rfl rfl ?_
  refine z0_obj0 hX dX1_init_1 (z3 ww_122 ww_86 ww_87) (Nat.le_of_ble_eq_true rfl) (Nat.le_of_ble_eq_true rfl) ?_
  refine z0_aload_n hX dX1_init_4 rfl rfl ?_
  refine z0_iconst hX dX1_init_5 (zrl rfl) ?_
  refine z0_newi hX dX1_init_6 (m2 := 5) rfl (Nat.le_of_ble_eq_true rfl) rfl (Nat.le_of_ble_eq_true rfl) ww_110 ⟨(Nat.le_of_ble_eq_true rfl), (Nat.le_of_ble_eq_true rfl)⟩ ?_
  refine z0_putr hX dX1_init_8 (k := 2) (ty := (.array .int)) rfl (Nat.le_of_ble_eq_true rfl) rfl ww_125 rfl (by decide +kernel) rfl rfl rfl ?_
  refine z0_aload_n hX dX1_init_11 rfl rfl ?_
  refine z0_bipush hX dX1_init_12 rfl ?_
  refine z0_newi hX dX1_init_14 (m2 := 30) rfl (Nat.le_of_ble_eq_true rfl) rfl (Nat.le_of_ble_eq_true rfl) ww_110 ⟨(Nat.le_of_ble_eq_true rfl), (Nat.le_of_ble_eq_true rfl)⟩ ?_
  refine z0_putr hX dX1_init_16 (k := 3) (ty := (.array .int)) rfl (Nat.le_of_ble_eq_true rfl) rfl ww_126 rfl (by decide +kernel) rfl rfl rfl ?_
  exact z0_vret hX dX1_init_19 hF rfl
set_option maxRecDepth 100000 in
set_option maxHeartbeats 8000000 in
theorem i_Y_27 {l : Launch} {G : zG} {μ : zM} {fl : zF} (hGG : zGG G) : zC0 l G yX4_init cX4_init 2 2 4 1239 [zR 27, zI (-1)] μ fl 28 (zst μ 27 2 (-1)) (zfst (zfst (zfst (zfst fl 28 2) 28 3) 27 0) 27 1) 32 := by
  refine zMet0 (lv := [some (zR 27), some (zI (-1))]) (k := 0) pl_X4 rfl rfl (Nat.le_of_ble_eq_true rfl) (fun X hl hX hF => ?_)
  refine z0_aload_n hX dX4_init_0 rfl rfl ?_
  refine z0_obj0 hX dX4_init_1 (z3 ww_116 ww_86 ww_87) (Nat.le_of_ble_eq_true rfl) (Nat.le_of_ble_eq_true rfl) ?_
  refine z0_aload_n hX dX4_init_4 rfl rfl ?_
  refine z0_new hX dX4_init_5 (ci := 1) rfl (Nat.le_of_ble_eq_true rfl) rfl (z3 ww_117 ww_118 ww_74) ⟨(Nat.le_of_ble_eq_true rfl), (Nat.le_of_ble_eq_true rfl)⟩ ?_
  refine z0_dup hX dX4_init_8 ?_
  refine z0_callIN hX dX4_init_9 (mc2 := 2) (ms2 := 35) (i_R_28 hGG) rfl hGG nm_X4_11 (z3 ww_120 ww_74 ww_121) hi_X1_init rfl (Nat.le_of_ble_eq_true rfl) (Nat.le_of_ble_eq_true rfl) (Nat.le_of_ble_eq_true rfl) ⟨(Nat.le_of_ble_eq_true rfl), (Nat.le_of_ble_eq_true rfl)⟩ ?_
  refine z0_putr hX dX4_init_12 (k := 0) (ty := (.object "RoofLent$Rock")) rfl (Nat.le_of_ble_eq_true rfl) rfl ww_136 rfl (by decide +kernel) rfl rfl rfl ?_
  refine z0_aload_n hX dX4_init_15 rfl rfl ?_
  refine z0_sipush hX dX4_init_16 rfl ?_
  refine z0_newi hX dX4_init_19 (m2 := 1200) rfl (Nat.le_of_ble_eq_true rfl) rfl (Nat.le_of_ble_eq_true rfl) ww_110 ⟨(Nat.le_of_ble_eq_true rfl), (Nat.le_of_ble_eq_true rfl)⟩ ?_
  refine z0_putr hX dX4_init_21 (k := 1) (ty := (.array .int)) rfl (Nat.le_of_ble_eq_true rfl) rfl ww_138 rfl (by decide +kernel) rfl rfl rfl ?_
  refine z0_aload_n hX dX4_init_24 rfl rfl ?_
  refine z0_iload_n hX dX4_init_25 rfl rfl ?_
  refine z0_puti hX dX4_init_26 (k := 2) rfl (Nat.le_of_ble_eq_true rfl) rfl ww_139 rfl (by decide +kernel) ?_
  exact z0_vret hX dX4_init_29 hF rfl
set_option maxRecDepth 100000 in
set_option maxHeartbeats 8000000 in
theorem i_R_33 {l : Launch} {G : zG} {μ : zM} {fl : zF} (hGG : zGG G) : zC0 l G yX1_init cX1_init 1 1 2 35 [zR 33] μ fl 34 μ (zfst (zfst fl 33 2) 33 3) 36 := by
  refine zMet0 (lv := [some (zR 33)]) (k := 0) pl_X1 rfl rfl (Nat.le_of_ble_eq_true rfl) (fun X hl hX hF => ?_)
  refine z0_aload_n hX dX1_init_0 rfl rfl ?_
  refine z0_obj0 hX dX1_init_1 (z3 ww_122 ww_86 ww_87) (Nat.le_of_ble_eq_true rfl) (Nat.le_of_ble_eq_true rfl) ?_
  refine z0_aload_n hX dX1_init_4 rfl rfl ?_
  refine z0_iconst hX dX1_init_5 (zrl rfl) ?_
  refine z0_newi hX dX1_init_6 (m2 := 5) rfl (Nat.le_of_ble_eq_true rfl) rfl (Nat.le_of_ble_eq_true rfl) ww_110 ⟨(Nat.le_of_ble_eq_true rfl), (Nat.le_of_ble_eq_true rfl)⟩ ?_
  refine z0_putr hX dX1_init_8 (k := 2) (ty := (.array .int)) rfl (Nat.le_of_ble_eq_true rfl) rfl ww_125 rfl (by decide +kernel) rfl rfl rfl ?_
  refine z0_aload_n hX dX1_init_11 rfl rfl ?_
  refine z0_bipush hX dX1_init_12 rfl ?_
  refine z0_newi hX dX1_init_14 (m2 := 30) rfl (Nat.le_of_ble_eq_true rfl) rfl (Nat.le_of_ble_eq_true rfl) ww_110 ⟨(Nat.le_of_ble_eq_true rfl), (Nat.le_of_ble_eq_true rfl)⟩ ?_
  refine z0_putr hX dX1_init_16 (k := 3) (ty := (.array .int)) rfl (Nat.le_of_ble_eq_true rfl) rfl ww_126 rfl (by decide +kernel) rfl rfl rfl ?_
  exact z0_vret hX dX1_init_19 hF rfl
set_option maxRecDepth 100000 in
set_option maxHeartbeats 8000000 in
theorem i_Y_32 {l : Launch} {G : zG} {μ : zM} {fl : zF} (hGG : zGG G) : zC0 l G yX4_init cX4_init 2 2 4 1239 [zR 32, zI (-1)] μ fl 33 (zst μ 32 2 (-1)) (zfst (zfst (zfst (zfst fl 33 2) 33 3) 32 0) 32 1) 37 := by
  refine zMet0 (lv := [some (zR 32), some (zI (-1))]) (k := 0) pl_X4 rfl rfl (Nat.le_of_ble_eq_true rfl) (fun X hl hX hF => ?_)
  refine z0_aload_n hX dX4_init_0 rfl rfl ?_
  refine z0_obj0 hX dX4_init_1 (z3 ww_116 ww_86 ww_87) (Nat.le_of_ble_eq_true rfl) (Nat.le_of_ble_eq_true rfl) ?_
  refine z0_aload_n hX dX4_init_4 rfl rfl ?_
  refine z0_new hX dX4_init_5 (ci := 1) rfl (Nat.le_of_ble_eq_true rfl) rfl (z3 ww_117 ww_118 ww_74) ⟨(Nat.le_of_ble_eq_true rfl), (Nat.le_of_ble_eq_true rfl)⟩ ?_
  refine z0_dup hX dX4_init_8 ?_
  refine z0_callIN hX dX4_init_9 (mc2 := 2) (ms2 := 35) (i_R_33 hGG) rfl hGG nm_X4_11 (z3 ww_120 ww_74 ww_121) hi_X1_init rfl (Nat.le_of_ble_eq_true rfl) (Nat.le_of_ble_eq_true rfl) (Nat.le_of_ble_eq_true rfl) ⟨(Nat.le_of_ble_eq_true rfl), (Nat.le_of_ble_eq_true rfl)⟩ ?_
  refine z0_putr hX dX4_init_12 (k := 0) (ty := (.object "RoofLent$Rock")) rfl (Nat.le_of_ble_eq_true rfl) rfl ww_136 rfl (by decide +kernel) rfl rfl rfl ?_
  refine z0_aload_n hX dX4_init_15 rfl rfl ?_
  refine z0_sipush hX dX4_init_16 rfl ?_
  refine z0_newi hX dX4_init_19 (m2 := 1200) rfl (Nat.le_of_ble_eq_true rfl) rfl (Nat.le_of_ble_eq_true rfl) ww_110 ⟨(Nat.le_of_ble_eq_true rfl), (Nat.le_of_ble_eq_true rfl)⟩ ?_
  refine z0_putr hX dX4_init_21 (k := 1) (ty := (.array .int)) rfl (Nat.le_of_ble_eq_true rfl) rfl ww_138 rfl (by decide +kernel) rfl rfl rfl ?_
  refine z0_aload_n hX dX4_init_24 rfl rfl ?_
  refine z0_iload_n hX dX4_init_25 rfl rfl ?_
  refine z0_puti hX dX4_init_26 (k := 2) rfl (Nat.le_of_ble_eq_true rfl) rfl ww_139 rfl (by decide +kernel) ?_
  exact z0_vret hX dX4_init_29 hF rfl
set_option maxRecDepth 100000 in
set_option maxHeartbeats 8000000 in
theorem i_R_38 {l : Launch} {G : zG} {μ : zM} {fl : zF} (hGG : zGG G) : zC0 l G yX1_init cX1_init 1 1 2 35 [zR 38] μ fl 39 μ (zfst (zfst fl 38 2) 38 3) 41 := by
  refine zMet0 (lv := [some (zR 38)]) (k := 0) pl_X1 rfl rfl (Nat.le_of_ble_eq_true rfl) (fun X hl hX hF => ?_)
  refine z0_aload_n hX dX1_init_0 rfl rfl ?_
  refine z0_obj0 hX dX1_init_1 (z3 ww_122 ww_86 ww_87) (Nat.le_of_ble_eq_true rfl) (Nat.le_of_ble_eq_true rfl) ?_
  refine z0_aload_n hX dX1_init_4 rfl rfl ?_
  refine z0_iconst hX dX1_init_5 (zrl rfl) ?_
  refine z0_newi hX dX1_init_6 (m2 := 5) rfl (Nat.le_of_ble_eq_true rfl) rfl (Nat.le_of_ble_eq_true rfl) ww_110 ⟨(Nat.le_of_ble_eq_true rfl), (Nat.le_of_ble_eq_true rfl)⟩ ?_
  refine z0_putr hX dX1_init_8 (k := 2) (ty := (.array .int)) rfl (Nat.le_of_ble_eq_true rfl) rfl ww_125 rfl (by decide +kernel) rfl rfl rfl ?_
  refine z0_aload_n hX dX1_init_11 rfl rfl ?_
  refine z0_bipush hX dX1_init_12 rfl ?_
  refine z0_newi hX dX1_init_14 (m2 := 30) rfl (Nat.le_of_ble_eq_true rfl) rfl (Nat.le_of_ble_eq_true rfl) ww_110 ⟨(Nat.le_of_ble_eq_true rfl), (Nat.le_of_ble_eq_true rfl)⟩ ?_
  refine z0_putr hX dX1_init_16 (k := 3) (ty := (.array .int)) rfl (Nat.le_of_ble_eq_true rfl) rfl ww_126 rfl (by decide +kernel) rfl rfl rfl ?_
  exact z0_vret hX dX1_init_19 hF rfl
set_option maxRecDepth 100000 in
set_option maxHeartbeats 8000000 in
theorem i_Y_37 {l : Launch} {G : zG} {μ : zM} {fl : zF} (hGG : zGG G) : zC0 l G yX4_init cX4_init 2 2 4 1239 [zR 37, zI (-1)] μ fl 38 (zst μ 37 2 (-1)) (zfst (zfst (zfst (zfst fl 38 2) 38 3) 37 0) 37 1) 42 := by
  refine zMet0 (lv := [some (zR 37), some (zI (-1))]) (k := 0) pl_X4 rfl rfl (Nat.le_of_ble_eq_true rfl) (fun X hl hX hF => ?_)
  refine z0_aload_n hX dX4_init_0 rfl rfl ?_
  refine z0_obj0 hX dX4_init_1 (z3 ww_116 ww_86 ww_87) (Nat.le_of_ble_eq_true rfl) (Nat.le_of_ble_eq_true rfl) ?_
  refine z0_aload_n hX dX4_init_4 rfl rfl ?_
  refine z0_new hX dX4_init_5 (ci := 1) rfl (Nat.le_of_ble_eq_true rfl) rfl (z3 ww_117 ww_118 ww_74) ⟨(Nat.le_of_ble_eq_true rfl), (Nat.le_of_ble_eq_true rfl)⟩ ?_
  refine z0_dup hX dX4_init_8 ?_
  refine z0_callIN hX dX4_init_9 (mc2 := 2) (ms2 := 35) (i_R_38 hGG) rfl hGG nm_X4_11 (z3 ww_120 ww_74 ww_121) hi_X1_init rfl (Nat.le_of_ble_eq_true rfl) (Nat.le_of_ble_eq_true rfl) (Nat.le_of_ble_eq_true rfl) ⟨(Nat.le_of_ble_eq_true rfl), (Nat.le_of_ble_eq_true rfl)⟩ ?_
  refine z0_putr hX dX4_init_12 (k := 0) (ty := (.object "RoofLent$Rock")) rfl (Nat.le_of_ble_eq_true rfl) rfl ww_136 rfl (by decide +kernel) rfl rfl rfl ?_
  refine z0_aload_n hX dX4_init_15 rfl rfl ?_
  refine z0_sipush hX dX4_init_16 rfl ?_
  refine z0_newi hX dX4_init_19 (m2 := 1200) rfl (Nat.le_of_ble_eq_true rfl) rfl (Nat.le_of_ble_eq_true rfl) ww_110 ⟨(Nat.le_of_ble_eq_true rfl), (Nat.le_of_ble_eq_true rfl)⟩ ?_
  refine z0_putr hX dX4_init_21 (k := 1) (ty := (.array .int)) rfl (Nat.le_of_ble_eq_true rfl) rfl ww_138 rfl (by decide +kernel) rfl rfl rfl ?_
  refine z0_aload_n hX dX4_init_24 rfl rfl ?_
  refine z0_iload_n hX dX4_init_25 rfl rfl ?_
  refine z0_puti hX dX4_init_26 (k := 2) rfl (Nat.le_of_ble_eq_true rfl) rfl ww_139 rfl (by decide +kernel) ?_
  exact z0_vret hX dX4_init_29 hF rfl
set_option maxRecDepth 100000 in
set_option maxHeartbeats 8000000 in
theorem i_X_0 {l : Launch} {G : zG} {μ : zM} {fl : zF} (hGG : zGG G) : zC0 l G yX5_init cX5_init 2 3 41 9837 [zR 0] μ fl 1 (zst (zst (zst (zst (zst (zst (zst (zst (zst (zst (zst (zst (zst (zst (zst (zst (zst (zst (zst μ 1 0 40) 1 1 0) 2 0 (-1)) 2 1 (-1)) 2 2 (-1)) 2 3 (-1)) 2 4 (-1)) 2 5 (-1)) 4 0 60) 4 1 32) 5 0 (-1)) 5 1 (-1)) 5 2 (-1)) 5 3 (-1)) 7 2 0) 0 11 1) 27 2 (-1)) 32 2 (-1)) 37 2 (-1)) (zfst (zfst (zfst (zfst (zfst (zfst (zfst (zfst (zfst (zfst (zfst (zfst (zfst (zfst (zfst (zfst (zfst (zfst (zfst (zfst (zfst (zfst (zfst (zfst (zfst (zfst (zfst (zfst (zfst (zfst (zfst (zfst (zfst (zfst (zfst (zfst (zfst (zfst (zfst (zfst (zfst fl 1 2) 1 3) 0 0) 4 2) 4 3) 0 1) 8 2) 8 3) 7 0) 7 1) 0 2) 0 3) 13 2) 13 3) 0 4) 16 2) 16 3) 16 4) 16 5) 16 6) 16 7) 0 5) 23 1) 23 2) 0 6) 0 7) 28 2) 28 3) 27 0) 27 1) 12 0) 33 2) 33 3) 32 0) 32 1) 12 1) 38 2) 38 3) 37 0) 37 1) 12 2) 42 := by
  refine zMet0 (lv := [some (zR 0), none]) (k := 1) pl_X5 rfl rfl (Nat.le_of_ble_eq_true rfl) (fun X hl hX hF => ?_)
  refine z0_aload_n hX dX5_init_0 rfl rfl ?_
  refine z0_obj0 hX dX5_init_1 (z3 ww_85 ww_86 ww_87) (Nat.le_of_ble_eq_true rfl) (Nat.le_of_ble_eq_true rfl) ?_
  refine z0_aload_n hX dX5_init_4 rfl rfl ?_
  refine z0_new hX dX5_init_5 (ci := 3) rfl (Nat.le_of_ble_eq_true rfl) rfl (z3 ww_88 ww_89 ww_71) ⟨(Nat.le_of_ble_eq_true rfl), (Nat.le_of_ble_eq_true rfl)⟩ ?_
  refine z0_dup hX dX5_init_8 ?_
  refine z0_bipush hX dX5_init_9 rfl ?_
  refine z0_bipush hX dX5_init_11 rfl ?_
  refine z0_iconst hX dX5_init_13 (zrl rfl) ?_
  refine z0_callI hX dX5_init_14 (mc2 := 2) (ms2 := 246) (i_S_1 hGG) rfl hGG (z4 ww_90 ww_91 ww_71 ww_92) hi_X3_init rfl (Nat.le_of_ble_eq_true rfl) (Nat.le_of_ble_eq_true rfl) (Nat.le_of_ble_eq_true rfl) ⟨(Nat.le_of_ble_eq_true rfl), (Nat.le_of_ble_eq_true rfl)⟩ ?_
  refine z0_putr hX dX5_init_17 (k := 0) (ty := (.object "RoofLent$Shelf")) rfl (Nat.le_of_ble_eq_true rfl) rfl ww_199 rfl (by decide +kernel) rfl rfl rfl ?_
  refine z0_aload_n hX dX5_init_20 rfl rfl ?_
  refine z0_new hX dX5_init_21 (ci := 3) rfl (Nat.le_of_ble_eq_true rfl) rfl (z3 ww_88 ww_89 ww_71) ⟨(Nat.le_of_ble_eq_true rfl), (Nat.le_of_ble_eq_true rfl)⟩ ?_
  refine z0_dup hX dX5_init_24 ?_
  refine z0_iconst hX dX5_init_25 (zrl rfl) ?_
  refine z0_bipush hX dX5_init_26 rfl ?_
  refine z0_bipush hX dX5_init_28 rfl ?_
  refine z0_callI hX dX5_init_30 (mc2 := 2) (ms2 := 244) (i_S_4 hGG) rfl hGG (z4 ww_90 ww_91 ww_71 ww_92) hi_X3_init rfl (Nat.le_of_ble_eq_true rfl) (Nat.le_of_ble_eq_true rfl) (Nat.le_of_ble_eq_true rfl) ⟨(Nat.le_of_ble_eq_true rfl), (Nat.le_of_ble_eq_true rfl)⟩ ?_
  refine z0_putr hX dX5_init_33 (k := 1) (ty := (.object "RoofLent$Shelf")) rfl (Nat.le_of_ble_eq_true rfl) rfl ww_200 rfl (by decide +kernel) rfl rfl rfl ?_
  refine z0_aload_n hX dX5_init_36 rfl rfl ?_
  refine z0_new hX dX5_init_37 (ci := 4) rfl (Nat.le_of_ble_eq_true rfl) rfl (z3 ww_111 ww_112 ww_73) ⟨(Nat.le_of_ble_eq_true rfl), (Nat.le_of_ble_eq_true rfl)⟩ ?_
  refine z0_dup hX dX5_init_40 ?_
  refine z0_iconst hX dX5_init_41 (zrl rfl) ?_
  refine z0_callI hX dX5_init_42 (mc2 := 4) (ms2 := 1239) (i_Y_7 hGG) rfl hGG (z4 ww_113 ww_114 ww_73 ww_115) hi_X4_init rfl (Nat.le_of_ble_eq_true rfl) (Nat.le_of_ble_eq_true rfl) (Nat.le_of_ble_eq_true rfl) ⟨(Nat.le_of_ble_eq_true rfl), (Nat.le_of_ble_eq_true rfl)⟩ ?_
  refine z0_putr hX dX5_init_45 (k := 2) (ty := (.object "RoofLent$Story")) rfl (Nat.le_of_ble_eq_true rfl) rfl ww_201 rfl (by decide +kernel) rfl rfl rfl ?_
  refine z0_aload_n hX dX5_init_48 rfl rfl ?_
  refine z0_iconst hX dX5_init_49 (zrl rfl) ?_
  refine z0_newr hX dX5_init_50 (m2 := 3) rfl (Nat.le_of_ble_eq_true rfl) rfl (Nat.le_of_ble_eq_true rfl) ww_111 ⟨(Nat.le_of_ble_eq_true rfl), (Nat.le_of_ble_eq_true rfl)⟩ ?_
  refine z0_putr hX dX5_init_53 (k := 3) (ty := (.array (.object "RoofLent$Story"))) rfl (Nat.le_of_ble_eq_true rfl) rfl ww_202 rfl (by decide +kernel) rfl rfl rfl ?_
  refine z0_aload_n hX dX5_init_56 rfl rfl ?_
  refine z0_new hX dX5_init_57 (ci := 1) rfl (Nat.le_of_ble_eq_true rfl) rfl (z3 ww_149 ww_118 ww_74) ⟨(Nat.le_of_ble_eq_true rfl), (Nat.le_of_ble_eq_true rfl)⟩ ?_
  refine z0_dup hX dX5_init_60 ?_
  refine z0_callIN hX dX5_init_61 (mc2 := 2) (ms2 := 35) (i_R_13 hGG) rfl hGG nm_X5_36 (z3 ww_120 ww_74 ww_121) hi_X1_init rfl (Nat.le_of_ble_eq_true rfl) (Nat.le_of_ble_eq_true rfl) (Nat.le_of_ble_eq_true rfl) ⟨(Nat.le_of_ble_eq_true rfl), (Nat.le_of_ble_eq_true rfl)⟩ ?_
  refine z0_putr hX dX5_init_64 (k := 4) (ty := (.object "RoofLent$Rock")) rfl (Nat.le_of_ble_eq_true rfl) rfl ww_203 rfl (by decide +kernel) rfl rfl rfl ?_
  refine z0_aload_n hX dX5_init_67 rfl rfl ?_
  refine z0_new hX dX5_init_68 (ci := 0) rfl (Nat.le_of_ble_eq_true rfl) rfl (z3 ww_151 ww_152 ww_75) ⟨(Nat.le_of_ble_eq_true rfl), (Nat.le_of_ble_eq_true rfl)⟩ ?_
  refine z0_dup hX dX5_init_71 ?_
  refine z0_callIN hX dX5_init_72 (mc2 := 6) (ms2 := 204) (i_L_16 hGG) rfl hGG nm_X5_43 (z3 ww_154 ww_75 ww_155) hi_X0_init rfl (Nat.le_of_ble_eq_true rfl) (Nat.le_of_ble_eq_true rfl) (Nat.le_of_ble_eq_true rfl) ⟨(Nat.le_of_ble_eq_true rfl), (Nat.le_of_ble_eq_true rfl)⟩ ?_
  refine z0_putr hX dX5_init_75 (k := 5) (ty := (.object "RoofLent$Ledger")) rfl (Nat.le_of_ble_eq_true rfl) rfl ww_204 rfl (by decide +kernel) rfl rfl rfl ?_
  refine z0_aload_n hX dX5_init_78 rfl rfl ?_
  refine z0_new hX dX5_init_79 (ci := 2) rfl (Nat.le_of_ble_eq_true rfl) rfl (z3 ww_183 ww_184 ww_76) ⟨(Nat.le_of_ble_eq_true rfl), (Nat.le_of_ble_eq_true rfl)⟩ ?_
  refine z0_dup hX dX5_init_82 ?_
  refine z0_callIN hX dX5_init_83 (mc2 := 2) (ms2 := 4108) (i_G_23 hGG) rfl hGG nm_X5_50 (z3 ww_186 ww_76 ww_187) hi_X2_init rfl (Nat.le_of_ble_eq_true rfl) (Nat.le_of_ble_eq_true rfl) (Nat.le_of_ble_eq_true rfl) ⟨(Nat.le_of_ble_eq_true rfl), (Nat.le_of_ble_eq_true rfl)⟩ ?_
  refine z0_putr hX dX5_init_86 (k := 6) (ty := (.object "RoofLent$Settling")) rfl (Nat.le_of_ble_eq_true rfl) rfl ww_205 rfl (by decide +kernel) rfl rfl rfl ?_
  refine z0_aload_n hX dX5_init_89 rfl rfl ?_
  refine z0_bipush hX dX5_init_90 rfl ?_
  refine z0_newi hX dX5_init_92 (m2 := 6) rfl (Nat.le_of_ble_eq_true rfl) rfl (Nat.le_of_ble_eq_true rfl) ww_110 ⟨(Nat.le_of_ble_eq_true rfl), (Nat.le_of_ble_eq_true rfl)⟩ ?_
  refine z0_putr hX dX5_init_94 (k := 7) (ty := (.array .int)) rfl (Nat.le_of_ble_eq_true rfl) rfl ww_206 rfl (by decide +kernel) rfl rfl rfl ?_
  refine z0_aload_n hX dX5_init_97 rfl rfl ?_
  refine z0_lconst hX dX5_init_98 (z := 1) rfl (zrlJ rfl) ?_
  refine z0_putj hX dX5_init_99 (k := 11) rfl (Nat.le_of_ble_eq_true rfl) rfl ww_210 rfl (by decide +kernel) ?_
  refine z0_iconst hX dX5_init_102 (zrl rfl) ?_
  refine z0_istore_n hX dX5_init_103 rfl (Nat.le_of_ble_eq_true rfl) (lw := [some (zR 0), some (zI 0)]) rfl ?_
  refine z0_iload_n hX dX5_init_104 rfl rfl ?_
  refine z0_aload_n hX dX5_init_105 rfl rfl ?_
  refine z0_getr hX dX5_init_106 (k := 3) (q := 12) rfl (Nat.le_of_ble_eq_true rfl) rfl ww_202 rfl rfl ?_
  refine z0_alen hX dX5_init_109 (N := 3) rfl (Or.inr rfl) (Nat.le_of_ble_eq_true rfl) rfl (zrl rfl) ?_
  refine z0_icmpge_f hX dX5_init_110 (tgt := 133) rfl (by decide) ?_
  refine z0_aload_n hX dX5_init_113 rfl rfl ?_
  refine z0_getr hX dX5_init_114 (k := 3) (q := 12) rfl (Nat.le_of_ble_eq_true rfl) rfl ww_202 rfl rfl ?_
  refine z0_iload_n hX dX5_init_117 rfl rfl ?_
  refine z0_new hX dX5_init_118 (ci := 4) rfl (Nat.le_of_ble_eq_true rfl) rfl (z3 ww_111 ww_112 ww_73) ⟨(Nat.le_of_ble_eq_true rfl), (Nat.le_of_ble_eq_true rfl)⟩ ?_
  refine z0_dup hX dX5_init_121 ?_
  refine z0_iconst hX dX5_init_122 (zrl rfl) ?_
  refine z0_callI hX dX5_init_123 (mc2 := 4) (ms2 := 1239) (i_Y_27 hGG) rfl hGG (z4 ww_113 ww_114 ww_73 ww_115) hi_X4_init rfl (Nat.le_of_ble_eq_true rfl) (Nat.le_of_ble_eq_true rfl) (Nat.le_of_ble_eq_true rfl) ⟨(Nat.le_of_ble_eq_true rfl), (Nat.le_of_ble_eq_true rfl)⟩ ?_
  refine z0_aast hX dX5_init_126 (N := 3) (j := 0) rfl (Nat.le_of_ble_eq_true rfl) rfl (Nat.le_of_ble_eq_true rfl) rfl rfl rfl rfl ?_
  refine z0_iinc hX dX5_init_127 (y := 1) rfl (Nat.le_of_ble_eq_true rfl) rfl (zrl rfl) (lw := [some (zR 0), some (zI 1)]) rfl ?_
  refine z0_goto hX dX5_init_130 (tgt := 104) rfl ?_
  refine z0_iload_n hX dX5_init_104 rfl rfl ?_
  refine z0_aload_n hX dX5_init_105 rfl rfl ?_
  refine z0_getr hX dX5_init_106 (k := 3) (q := 12) rfl (Nat.le_of_ble_eq_true rfl) rfl ww_202 rfl rfl ?_
  refine z0_alen hX dX5_init_109 (N := 3) rfl (Or.inr rfl) (Nat.le_of_ble_eq_true rfl) rfl (zrl rfl) ?_
  refine z0_icmpge_f hX dX5_init_110 (tgt := 133) rfl (by decide) ?_
  refine z0_aload_n hX dX5_init_113 rfl rfl ?_
  refine z0_getr hX dX5_init_114 (k := 3) (q := 12) rfl (Nat.le_of_ble_eq_true rfl) rfl ww_202 rfl rfl ?_
  refine z0_iload_n hX dX5_init_117 rfl rfl ?_
  refine z0_new hX dX5_init_118 (ci := 4) rfl (Nat.le_of_ble_eq_true rfl) rfl (z3 ww_111 ww_112 ww_73) ⟨(Nat.le_of_ble_eq_true rfl), (Nat.le_of_ble_eq_true rfl)⟩ ?_
  refine z0_dup hX dX5_init_121 ?_
  refine z0_iconst hX dX5_init_122 (zrl rfl) ?_
  refine z0_callI hX dX5_init_123 (mc2 := 4) (ms2 := 1239) (i_Y_32 hGG) rfl hGG (z4 ww_113 ww_114 ww_73 ww_115) hi_X4_init rfl (Nat.le_of_ble_eq_true rfl) (Nat.le_of_ble_eq_true rfl) (Nat.le_of_ble_eq_true rfl) ⟨(Nat.le_of_ble_eq_true rfl), (Nat.le_of_ble_eq_true rfl)⟩ ?_
  refine z0_aast hX dX5_init_126 (N := 3) (j := 1) rfl (Nat.le_of_ble_eq_true rfl) rfl (Nat.le_of_ble_eq_true rfl) rfl rfl rfl rfl ?_
  refine z0_iinc hX dX5_init_127 (y := 2) rfl (Nat.le_of_ble_eq_true rfl) rfl (zrl rfl) (lw := [some (zR 0), some (zI 2)]) rfl ?_
  refine z0_goto hX dX5_init_130 (tgt := 104) rfl ?_
  refine z0_iload_n hX dX5_init_104 rfl rfl ?_
  refine z0_aload_n hX dX5_init_105 rfl rfl ?_
  refine z0_getr hX dX5_init_106 (k := 3) (q := 12) rfl (Nat.le_of_ble_eq_true rfl) rfl ww_202 rfl rfl ?_
  refine z0_alen hX dX5_init_109 (N := 3) rfl (Or.inr rfl) (Nat.le_of_ble_eq_true rfl) rfl (zrl rfl) ?_
  refine z0_icmpge_f hX dX5_init_110 (tgt := 133) rfl (by decide) ?_
  refine z0_aload_n hX dX5_init_113 rfl rfl ?_
  refine z0_getr hX dX5_init_114 (k := 3) (q := 12) rfl (Nat.le_of_ble_eq_true rfl) rfl ww_202 rfl rfl ?_
  refine z0_iload_n hX dX5_init_117 rfl rfl ?_
  refine z0_new hX dX5_init_118 (ci := 4) rfl (Nat.le_of_ble_eq_true rfl) rfl (z3 ww_111 ww_112 ww_73) ⟨(Nat.le_of_ble_eq_true rfl), (Nat.le_of_ble_eq_true rfl)⟩ ?_
  refine z0_dup hX dX5_init_121 ?_
  refine z0_iconst hX dX5_init_122 (zrl rfl) ?_
  refine z0_callI hX dX5_init_123 (mc2 := 4) (ms2 := 1239) (i_Y_37 hGG) rfl hGG (z4 ww_113 ww_114 ww_73 ww_115) hi_X4_init rfl (Nat.le_of_ble_eq_true rfl) (Nat.le_of_ble_eq_true rfl) (Nat.le_of_ble_eq_true rfl) ⟨(Nat.le_of_ble_eq_true rfl), (Nat.le_of_ble_eq_true rfl)⟩ ?_
  refine z0_aast hX dX5_init_126 (N := 3) (j := 2) rfl (Nat.le_of_ble_eq_true rfl) rfl (Nat.le_of_ble_eq_true rfl) rfl rfl rfl rfl ?_
  refine z0_iinc hX dX5_init_127 (y := 3) rfl (Nat.le_of_ble_eq_true rfl) rfl (zrl rfl) (lw := [some (zR 0), some (zI 3)]) rfl ?_
  refine z0_goto hX dX5_init_130 (tgt := 104) rfl ?_
  refine z0_iload_n hX dX5_init_104 rfl rfl ?_
  refine z0_aload_n hX dX5_init_105 rfl rfl ?_
  refine z0_getr hX dX5_init_106 (k := 3) (q := 12) rfl (Nat.le_of_ble_eq_true rfl) rfl ww_202 rfl rfl ?_
  refine z0_alen hX dX5_init_109 (N := 3) rfl (Or.inr rfl) (Nat.le_of_ble_eq_true rfl) rfl (zrl rfl) ?_
  refine z0_icmpge_t hX dX5_init_110 (tgt := 133) rfl (by decide) ?_
  exact z0_vret hX dX5_init_133 hF rfl
set_option maxRecDepth 100000 in
set_option maxHeartbeats 8000000 in
theorem i_M_42 {l : Launch} {G : zG} {μ : zM} {fl : zF} (hGG : zGG G) : zC0 l G yX6_init cX6_init 2 1 13 19841 [zR 42] μ fl 43 (zst (zst (zst (zst (zst (zst (zst (zst (zst (zst (zst (zst (zst (zst μ 42 12 1) 46 0 (-1)) 46 1 (-1)) 46 2 (-1)) 46 3 (-1)) 46 4 (-1)) 46 5 (-1)) 48 0 (-1)) 48 1 (-1)) 48 2 (-1)) 48 3 (-1)) 44 0 (-1)) 44 1 (-1)) 44 2 (-1)) (zfst (zfst (zfst (zfst (zfst (zfst (zfst (zfst (zfst (zfst (zfst (zfst (zfst fl 42 0) 42 2) 42 3) 42 4) 42 5) 42 6) 42 7) 42 9) 42 13) 42 14) 42 15) 42 16) 42 17) 56 := by
  refine zMet0 (lv := [some (zR 42), none]) (k := 1) pl_X6 rfl rfl (Nat.le_of_ble_eq_true rfl) (fun X hl hX hF => ?_)
  refine z0_aload_n hX dX6_init_0 rfl rfl ?_
  refine z0_obj0 hX dX6_init_1 (z3 ww_850 ww_86 ww_87) (Nat.le_of_ble_eq_true rfl) (Nat.le_of_ble_eq_true rfl) ?_
  refine z0_aload_n hX dX6_init_4 rfl rfl ?_
  refine z0_sipush hX dX6_init_5 rfl ?_
  refine z0_newi hX dX6_init_8 (m2 := 10956) rfl (Nat.le_of_ble_eq_true rfl) rfl (Nat.le_of_ble_eq_true rfl) ww_110 ⟨(Nat.le_of_ble_eq_true rfl), (Nat.le_of_ble_eq_true rfl)⟩ ?_
  refine z0_putr hX dX6_init_10 (k := 0) (ty := (.array .int)) rfl (Nat.le_of_ble_eq_true rfl) rfl ww_851 rfl (by decide +kernel) rfl rfl rfl ?_
  refine z0_aload_n hX dX6_init_13 rfl rfl ?_
  refine z0_iconst hX dX6_init_14 (zrl rfl) ?_
  refine z0_newi hX dX6_init_15 (m2 := 3) rfl (Nat.le_of_ble_eq_true rfl) rfl (Nat.le_of_ble_eq_true rfl) ww_110 ⟨(Nat.le_of_ble_eq_true rfl), (Nat.le_of_ble_eq_true rfl)⟩ ?_
  refine z0_putr hX dX6_init_17 (k := 2) (ty := (.array .int)) rfl (Nat.le_of_ble_eq_true rfl) rfl ww_853 rfl (by decide +kernel) rfl rfl rfl ?_
  refine z0_aload_n hX dX6_init_20 rfl rfl ?_
  refine z0_sipush hX dX6_init_21 rfl ?_
  refine z0_newi hX dX6_init_24 (m2 := 240) rfl (Nat.le_of_ble_eq_true rfl) rfl (Nat.le_of_ble_eq_true rfl) ww_110 ⟨(Nat.le_of_ble_eq_true rfl), (Nat.le_of_ble_eq_true rfl)⟩ ?_
  refine z0_putr hX dX6_init_26 (k := 3) (ty := (.array .int)) rfl (Nat.le_of_ble_eq_true rfl) rfl ww_854 rfl (by decide +kernel) rfl rfl rfl ?_
  refine z0_aload_n hX dX6_init_29 rfl rfl ?_
  refine z0_bipush hX dX6_init_30 rfl ?_
  refine z0_newi hX dX6_init_32 (m2 := 6) rfl (Nat.le_of_ble_eq_true rfl) rfl (Nat.le_of_ble_eq_true rfl) ww_110 ⟨(Nat.le_of_ble_eq_true rfl), (Nat.le_of_ble_eq_true rfl)⟩ ?_
  refine z0_putr hX dX6_init_34 (k := 4) (ty := (.array .int)) rfl (Nat.le_of_ble_eq_true rfl) rfl ww_855 rfl (by decide +kernel) rfl rfl rfl ?_
  refine z0_aload_n hX dX6_init_37 rfl rfl ?_
  refine z0_sipush hX dX6_init_38 rfl ?_
  refine z0_newi hX dX6_init_41 (m2 := 240) rfl (Nat.le_of_ble_eq_true rfl) rfl (Nat.le_of_ble_eq_true rfl) ww_110 ⟨(Nat.le_of_ble_eq_true rfl), (Nat.le_of_ble_eq_true rfl)⟩ ?_
  refine z0_putr hX dX6_init_43 (k := 5) (ty := (.array .int)) rfl (Nat.le_of_ble_eq_true rfl) rfl ww_856 rfl (by decide +kernel) rfl rfl rfl ?_
  refine z0_aload_n hX dX6_init_46 rfl rfl ?_
  refine z0_iconst hX dX6_init_47 (zrl rfl) ?_
  refine z0_newi hX dX6_init_48 (m2 := 4) rfl (Nat.le_of_ble_eq_true rfl) rfl (Nat.le_of_ble_eq_true rfl) ww_110 ⟨(Nat.le_of_ble_eq_true rfl), (Nat.le_of_ble_eq_true rfl)⟩ ?_
  refine z0_putr hX dX6_init_50 (k := 6) (ty := (.array .int)) rfl (Nat.le_of_ble_eq_true rfl) rfl ww_857 rfl (by decide +kernel) rfl rfl rfl ?_
  refine z0_aload_n hX dX6_init_53 rfl rfl ?_
  refine z0_bipush hX dX6_init_54 rfl ?_
  refine z0_newi hX dX6_init_56 (m2 := 40) rfl (Nat.le_of_ble_eq_true rfl) rfl (Nat.le_of_ble_eq_true rfl) ww_110 ⟨(Nat.le_of_ble_eq_true rfl), (Nat.le_of_ble_eq_true rfl)⟩ ?_
  refine z0_putr hX dX6_init_58 (k := 7) (ty := (.array .int)) rfl (Nat.le_of_ble_eq_true rfl) rfl ww_858 rfl (by decide +kernel) rfl rfl rfl ?_
  refine z0_aload_n hX dX6_init_61 rfl rfl ?_
  refine z0_bipush hX dX6_init_62 rfl ?_
  refine z0_newi hX dX6_init_64 (m2 := 6) rfl (Nat.le_of_ble_eq_true rfl) rfl (Nat.le_of_ble_eq_true rfl) ww_110 ⟨(Nat.le_of_ble_eq_true rfl), (Nat.le_of_ble_eq_true rfl)⟩ ?_
  refine z0_putr hX dX6_init_66 (k := 9) (ty := (.array .int)) rfl (Nat.le_of_ble_eq_true rfl) rfl ww_860 rfl (by decide +kernel) rfl rfl rfl ?_
  refine z0_aload_n hX dX6_init_69 rfl rfl ?_
  refine z0_lconst hX dX6_init_70 (z := 1) rfl (zrlJ rfl) ?_
  refine z0_putj hX dX6_init_71 (k := 12) rfl (Nat.le_of_ble_eq_true rfl) rfl ww_863 rfl (by decide +kernel) ?_
  refine z0_aload_n hX dX6_init_74 rfl rfl ?_
  refine z0_sipush hX dX6_init_75 rfl ?_
  refine z0_newi hX dX6_init_78 (m2 := 144) rfl (Nat.le_of_ble_eq_true rfl) rfl (Nat.le_of_ble_eq_true rfl) ww_110 ⟨(Nat.le_of_ble_eq_true rfl), (Nat.le_of_ble_eq_true rfl)⟩ ?_
  refine z0_putr hX dX6_init_80 (k := 13) (ty := (.array .int)) rfl (Nat.le_of_ble_eq_true rfl) rfl ww_864 rfl (by decide +kernel) rfl rfl rfl ?_
  refine z0_aload_n hX dX6_init_83 rfl rfl ?_
  refine z0_sipush hX dX6_init_84 rfl ?_
  refine z0_newi hX dX6_init_87 (m2 := 4096) rfl (Nat.le_of_ble_eq_true rfl) rfl (Nat.le_of_ble_eq_true rfl) ww_110 ⟨(Nat.le_of_ble_eq_true rfl), (Nat.le_of_ble_eq_true rfl)⟩ ?_
  refine z0_putr hX dX6_init_89 (k := 14) (ty := (.array .int)) rfl (Nat.le_of_ble_eq_true rfl) rfl ww_865 rfl (by decide +kernel) rfl rfl rfl ?_
  refine z0_aload_n hX dX6_init_92 rfl rfl ?_
  refine z0_sipush hX dX6_init_93 rfl ?_
  refine z0_newi hX dX6_init_96 (m2 := 4096) rfl (Nat.le_of_ble_eq_true rfl) rfl (Nat.le_of_ble_eq_true rfl) ww_110 ⟨(Nat.le_of_ble_eq_true rfl), (Nat.le_of_ble_eq_true rfl)⟩ ?_
  refine z0_putr hX dX6_init_98 (k := 15) (ty := (.array .int)) rfl (Nat.le_of_ble_eq_true rfl) rfl ww_866 rfl (by decide +kernel) rfl rfl rfl ?_
  refine z0_aload_n hX dX6_init_101 rfl rfl ?_
  refine z0_iconst hX dX6_init_102 (zrl rfl) ?_
  refine z0_newi hX dX6_init_103 (m2 := 5) rfl (Nat.le_of_ble_eq_true rfl) rfl (Nat.le_of_ble_eq_true rfl) ww_110 ⟨(Nat.le_of_ble_eq_true rfl), (Nat.le_of_ble_eq_true rfl)⟩ ?_
  refine z0_putr hX dX6_init_105 (k := 16) (ty := (.array .int)) rfl (Nat.le_of_ble_eq_true rfl) rfl ww_867 rfl (by decide +kernel) rfl rfl rfl ?_
  refine z0_aload_n hX dX6_init_108 rfl rfl ?_
  refine z0_iconst hX dX6_init_109 (zrl rfl) ?_
  refine z0_newb hX dX6_init_110 (m2 := 5) rfl (Nat.le_of_ble_eq_true rfl) rfl (Nat.le_of_ble_eq_true rfl) ww_909 ⟨(Nat.le_of_ble_eq_true rfl), (Nat.le_of_ble_eq_true rfl)⟩ ?_
  refine z0_putr hX dX6_init_112 (k := 17) (ty := (.array .boolean)) rfl (Nat.le_of_ble_eq_true rfl) rfl ww_868 rfl (by decide +kernel) rfl rfl rfl ?_
  refine z0_iconst hX dX6_init_115 (zrl rfl) ?_
  refine z0_istore_n hX dX6_init_116 rfl (Nat.le_of_ble_eq_true rfl) (lw := [some (zR 42), some (zI 0)]) rfl ?_
  refine z0_iload_n hX dX6_init_117 rfl rfl ?_
  refine z0_bipush hX dX6_init_118 rfl ?_
  refine z0_icmpge_f hX dX6_init_120 (tgt := 136) rfl (by decide) ?_
  refine z0_aload_n hX dX6_init_123 rfl rfl ?_
  refine z0_getr hX dX6_init_124 (k := 4) (q := 46) rfl (Nat.le_of_ble_eq_true rfl) rfl ww_855 rfl rfl ?_
  refine z0_iload_n hX dX6_init_127 rfl rfl ?_
  refine z0_iconst hX dX6_init_128 (zrl rfl) ?_
  refine z0_iast hX dX6_init_129 (N := 6) (j := 0) rfl (Nat.le_of_ble_eq_true rfl) rfl rfl rfl ?_
  refine z0_iinc hX dX6_init_130 (y := 1) rfl (Nat.le_of_ble_eq_true rfl) rfl (zrl rfl) (lw := [some (zR 42), some (zI 1)]) rfl ?_
  refine z0_goto hX dX6_init_133 (tgt := 117) rfl ?_
  refine z0_iload_n hX dX6_init_117 rfl rfl ?_
  refine z0_bipush hX dX6_init_118 rfl ?_
  refine z0_icmpge_f hX dX6_init_120 (tgt := 136) rfl (by decide) ?_
  refine z0_aload_n hX dX6_init_123 rfl rfl ?_
  refine z0_getr hX dX6_init_124 (k := 4) (q := 46) rfl (Nat.le_of_ble_eq_true rfl) rfl ww_855 rfl rfl ?_
  refine z0_iload_n hX dX6_init_127 rfl rfl ?_
  refine z0_iconst hX dX6_init_128 (zrl rfl) ?_
  refine z0_iast hX dX6_init_129 (N := 6) (j := 1) rfl (Nat.le_of_ble_eq_true rfl) rfl rfl rfl ?_
  refine z0_iinc hX dX6_init_130 (y := 2) rfl (Nat.le_of_ble_eq_true rfl) rfl (zrl rfl) (lw := [some (zR 42), some (zI 2)]) rfl ?_
  refine z0_goto hX dX6_init_133 (tgt := 117) rfl ?_
  refine z0_iload_n hX dX6_init_117 rfl rfl ?_
  refine z0_bipush hX dX6_init_118 rfl ?_
  refine z0_icmpge_f hX dX6_init_120 (tgt := 136) rfl (by decide) ?_
  refine z0_aload_n hX dX6_init_123 rfl rfl ?_
  refine z0_getr hX dX6_init_124 (k := 4) (q := 46) rfl (Nat.le_of_ble_eq_true rfl) rfl ww_855 rfl rfl ?_
  refine z0_iload_n hX dX6_init_127 rfl rfl ?_
  refine z0_iconst hX dX6_init_128 (zrl rfl) ?_
  refine z0_iast hX dX6_init_129 (N := 6) (j := 2) rfl (Nat.le_of_ble_eq_true rfl) rfl rfl rfl ?_
  refine z0_iinc hX dX6_init_130 (y := 3) rfl (Nat.le_of_ble_eq_true rfl) rfl (zrl rfl) (lw := [some (zR 42), some (zI 3)]) rfl ?_
  refine z0_goto hX dX6_init_133 (tgt := 117) rfl ?_
  refine z0_iload_n hX dX6_init_117 rfl rfl ?_
  refine z0_bipush hX dX6_init_118 rfl ?_
  refine z0_icmpge_f hX dX6_init_120 (tgt := 136) rfl (by decide) ?_
  refine z0_aload_n hX dX6_init_123 rfl rfl ?_
  refine z0_getr hX dX6_init_124 (k := 4) (q := 46) rfl (Nat.le_of_ble_eq_true rfl) rfl ww_855 rfl rfl ?_
  refine z0_iload_n hX dX6_init_127 rfl rfl ?_
  refine z0_iconst hX dX6_init_128 (zrl rfl) ?_
  refine z0_iast hX dX6_init_129 (N := 6) (j := 3) rfl (Nat.le_of_ble_eq_true rfl) rfl rfl rfl ?_
  refine z0_iinc hX dX6_init_130 (y := 4) rfl (Nat.le_of_ble_eq_true rfl) rfl (zrl rfl) (lw := [some (zR 42), some (zI 4)]) rfl ?_
  refine z0_goto hX dX6_init_133 (tgt := 117) rfl ?_
  refine z0_iload_n hX dX6_init_117 rfl rfl ?_
  refine z0_bipush hX dX6_init_118 rfl ?_
  refine z0_icmpge_f hX dX6_init_120 (tgt := 136) rfl (by decide) ?_
  refine z0_aload_n hX dX6_init_123 rfl rfl ?_
  refine z0_getr hX dX6_init_124 (k := 4) (q := 46) rfl (Nat.le_of_ble_eq_true rfl) rfl ww_855 rfl rfl ?_
  refine z0_iload_n hX dX6_init_127 rfl rfl ?_
  refine z0_iconst hX dX6_init_128 (zrl rfl) ?_
  refine z0_iast hX dX6_init_129 (N := 6) (j := 4) rfl (Nat.le_of_ble_eq_true rfl) rfl rfl rfl ?_
  refine z0_iinc hX dX6_init_130 (y := 5) rfl (Nat.le_of_ble_eq_true rfl) rfl (zrl rfl) (lw := [some (zR 42), some (zI 5)]) rfl ?_
  refine z0_goto hX dX6_init_133 (tgt := 117) rfl ?_
  refine z0_iload_n hX dX6_init_117 rfl rfl ?_
  refine z0_bipush hX dX6_init_118 rfl ?_
  refine z0_icmpge_f hX dX6_init_120 (tgt := 136) rfl (by decide) ?_
  refine z0_aload_n hX dX6_init_123 rfl rfl ?_
  refine z0_getr hX dX6_init_124 (k := 4) (q := 46) rfl (Nat.le_of_ble_eq_true rfl) rfl ww_855 rfl rfl ?_
  refine z0_iload_n hX dX6_init_127 rfl rfl ?_
  refine z0_iconst hX dX6_init_128 (zrl rfl) ?_
  refine z0_iast hX dX6_init_129 (N := 6) (j := 5) rfl (Nat.le_of_ble_eq_true rfl) rfl rfl rfl ?_
  refine z0_iinc hX dX6_init_130 (y := 6) rfl (Nat.le_of_ble_eq_true rfl) rfl (zrl rfl) (lw := [some (zR 42), some (zI 6)]) rfl ?_
  refine z0_goto hX dX6_init_133 (tgt := 117) rfl ?_
  refine z0_iload_n hX dX6_init_117 rfl rfl ?_
  refine z0_bipush hX dX6_init_118 rfl ?_
  refine z0_icmpge_t hX dX6_init_120 (tgt := 136) rfl (by decide) ?_
  refine z0_iconst hX dX6_init_136 (zrl rfl) ?_
  refine z0_istore_n hX dX6_init_137 rfl (Nat.le_of_ble_eq_true rfl) (lw := [some (zR 42), some (zI 0)]) rfl ?_
  refine z0_iload_n hX dX6_init_138 rfl rfl ?_
  refine z0_iconst hX dX6_init_139 (zrl rfl) ?_
  refine z0_icmpge_f hX dX6_init_140 (tgt := 156) rfl (by decide) ?_
  refine z0_aload_n hX dX6_init_143 rfl rfl ?_
  refine z0_getr hX dX6_init_144 (k := 6) (q := 48) rfl (Nat.le_of_ble_eq_true rfl) rfl ww_857 rfl rfl ?_
  refine z0_iload_n hX dX6_init_147 rfl rfl ?_
  refine z0_iconst hX dX6_init_148 (zrl rfl) ?_
  refine z0_iast hX dX6_init_149 (N := 4) (j := 0) rfl (Nat.le_of_ble_eq_true rfl) rfl rfl rfl ?_
  refine z0_iinc hX dX6_init_150 (y := 1) rfl (Nat.le_of_ble_eq_true rfl) rfl (zrl rfl) (lw := [some (zR 42), some (zI 1)]) rfl ?_
  refine z0_goto hX dX6_init_153 (tgt := 138) rfl ?_
  refine z0_iload_n hX dX6_init_138 rfl rfl ?_
  refine z0_iconst hX dX6_init_139 (zrl rfl) ?_
  refine z0_icmpge_f hX dX6_init_140 (tgt := 156) rfl (by decide) ?_
  refine z0_aload_n hX dX6_init_143 rfl rfl ?_
  refine z0_getr hX dX6_init_144 (k := 6) (q := 48) rfl (Nat.le_of_ble_eq_true rfl) rfl ww_857 rfl rfl ?_
  refine z0_iload_n hX dX6_init_147 rfl rfl ?_
  refine z0_iconst hX dX6_init_148 (zrl rfl) ?_
  refine z0_iast hX dX6_init_149 (N := 4) (j := 1) rfl (Nat.le_of_ble_eq_true rfl) rfl rfl rfl ?_
  refine z0_iinc hX dX6_init_150 (y := 2) rfl (Nat.le_of_ble_eq_true rfl) rfl (zrl rfl) (lw := [some (zR 42), some (zI 2)]) rfl ?_
  refine z0_goto hX dX6_init_153 (tgt := 138) rfl ?_
  refine z0_iload_n hX dX6_init_138 rfl rfl ?_
  refine z0_iconst hX dX6_init_139 (zrl rfl) ?_
  refine z0_icmpge_f hX dX6_init_140 (tgt := 156) rfl (by decide) ?_
  refine z0_aload_n hX dX6_init_143 rfl rfl ?_
  refine z0_getr hX dX6_init_144 (k := 6) (q := 48) rfl (Nat.le_of_ble_eq_true rfl) rfl ww_857 rfl rfl ?_
  refine z0_iload_n hX dX6_init_147 rfl rfl ?_
  refine z0_iconst hX dX6_init_148 (zrl rfl) ?_
  refine z0_iast hX dX6_init_149 (N := 4) (j := 2) rfl (Nat.le_of_ble_eq_true rfl) rfl rfl rfl ?_
  refine z0_iinc hX dX6_init_150 (y := 3) rfl (Nat.le_of_ble_eq_true rfl) rfl (zrl rfl) (lw := [some (zR 42), some (zI 3)]) rfl ?_
  refine z0_goto hX dX6_init_153 (tgt := 138) rfl ?_
  refine z0_iload_n hX dX6_init_138 rfl rfl ?_
  refine z0_iconst hX dX6_init_139 (zrl rfl) ?_
  refine z0_icmpge_f hX dX6_init_140 (tgt := 156) rfl (by decide) ?_
  refine z0_aload_n hX dX6_init_143 rfl rfl ?_
  refine z0_getr hX dX6_init_144 (k := 6) (q := 48) rfl (Nat.le_of_ble_eq_true rfl) rfl ww_857 rfl rfl ?_
  refine z0_iload_n hX dX6_init_147 rfl rfl ?_
  refine z0_iconst hX dX6_init_148 (zrl rfl) ?_
  refine z0_iast hX dX6_init_149 (N := 4) (j := 3) rfl (Nat.le_of_ble_eq_true rfl) rfl rfl rfl ?_
  refine z0_iinc hX dX6_init_150 (y := 4) rfl (Nat.le_of_ble_eq_true rfl) rfl (zrl rfl) (lw := [some (zR 42), some (zI 4)]) rfl ?_
  refine z0_goto hX dX6_init_153 (tgt := 138) rfl ?_
  refine z0_iload_n hX dX6_init_138 rfl rfl ?_
  refine z0_iconst hX dX6_init_139 (zrl rfl) ?_
  refine z0_icmpge_t hX dX6_init_140 (tgt := 156) rfl (by decide) ?_
  refine z0_iconst hX dX6_init_156 (zrl rfl) ?_
  refine z0_istore_n hX dX6_init_157 rfl (Nat.le_of_ble_eq_true rfl) (lw := [some (zR 42), some (zI 0)]) rfl ?_
  refine z0_iload_n hX dX6_init_158 rfl rfl ?_
  refine z0_iconst hX dX6_init_159 (zrl rfl) ?_
  refine z0_icmpge_f hX dX6_init_160 (tgt := 176) rfl (by decide) ?_
  refine z0_aload_n hX dX6_init_163 rfl rfl ?_
  refine z0_getr hX dX6_init_164 (k := 2) (q := 44) rfl (Nat.le_of_ble_eq_true rfl) rfl ww_853 rfl rfl ?_
  refine z0_iload_n hX dX6_init_167 rfl rfl ?_
  refine z0_iconst hX dX6_init_168 (zrl rfl) ?_
  refine z0_iast hX dX6_init_169 (N := 3) (j := 0) rfl (Nat.le_of_ble_eq_true rfl) rfl rfl rfl ?_
  refine z0_iinc hX dX6_init_170 (y := 1) rfl (Nat.le_of_ble_eq_true rfl) rfl (zrl rfl) (lw := [some (zR 42), some (zI 1)]) rfl ?_
  refine z0_goto hX dX6_init_173 (tgt := 158) rfl ?_
  refine z0_iload_n hX dX6_init_158 rfl rfl ?_
  refine z0_iconst hX dX6_init_159 (zrl rfl) ?_
  refine z0_icmpge_f hX dX6_init_160 (tgt := 176) rfl (by decide) ?_
  refine z0_aload_n hX dX6_init_163 rfl rfl ?_
  refine z0_getr hX dX6_init_164 (k := 2) (q := 44) rfl (Nat.le_of_ble_eq_true rfl) rfl ww_853 rfl rfl ?_
  refine z0_iload_n hX dX6_init_167 rfl rfl ?_
  refine z0_iconst hX dX6_init_168 (zrl rfl) ?_
  refine z0_iast hX dX6_init_169 (N := 3) (j := 1) rfl (Nat.le_of_ble_eq_true rfl) rfl rfl rfl ?_
  refine z0_iinc hX dX6_init_170 (y := 2) rfl (Nat.le_of_ble_eq_true rfl) rfl (zrl rfl) (lw := [some (zR 42), some (zI 2)]) rfl ?_
  refine z0_goto hX dX6_init_173 (tgt := 158) rfl ?_
  refine z0_iload_n hX dX6_init_158 rfl rfl ?_
  refine z0_iconst hX dX6_init_159 (zrl rfl) ?_
  refine z0_icmpge_f hX dX6_init_160 (tgt := 176) rfl (by decide) ?_
  refine z0_aload_n hX dX6_init_163 rfl rfl ?_
  refine z0_getr hX dX6_init_164 (k := 2) (q := 44) rfl (Nat.le_of_ble_eq_true rfl) rfl ww_853 rfl rfl ?_
  refine z0_iload_n hX dX6_init_167 rfl rfl ?_
  refine z0_iconst hX dX6_init_168 (zrl rfl) ?_
  refine z0_iast hX dX6_init_169 (N := 3) (j := 2) rfl (Nat.le_of_ble_eq_true rfl) rfl rfl rfl ?_
  refine z0_iinc hX dX6_init_170 (y := 3) rfl (Nat.le_of_ble_eq_true rfl) rfl (zrl rfl) (lw := [some (zR 42), some (zI 3)]) rfl ?_
  refine z0_goto hX dX6_init_173 (tgt := 158) rfl ?_
  refine z0_iload_n hX dX6_init_158 rfl rfl ?_
  refine z0_iconst hX dX6_init_159 (zrl rfl) ?_
  refine z0_icmpge_t hX dX6_init_160 (tgt := 176) rfl (by decide) ?_
  exact z0_vret hX dX6_init_176 hF rfl
def zmX (μ : zM) : zM := (zst (zst (zst (zst (zst (zst (zst (zst (zst (zst (zst (zst (zst (zst (zst (zst (zst (zst (zst μ 1 0 40) 1 1 0) 2 0 (-1)) 2 1 (-1)) 2 2 (-1)) 2 3 (-1)) 2 4 (-1)) 2 5 (-1)) 4 0 60) 4 1 32) 5 0 (-1)) 5 1 (-1)) 5 2 (-1)) 5 3 (-1)) 7 2 0) 0 11 1) 27 2 (-1)) 32 2 (-1)) 37 2 (-1))
def zfX (fl : zF) : zF := (zfst (zfst (zfst (zfst (zfst (zfst (zfst (zfst (zfst (zfst (zfst (zfst (zfst (zfst (zfst (zfst (zfst (zfst (zfst (zfst (zfst (zfst (zfst (zfst (zfst (zfst (zfst (zfst (zfst (zfst (zfst (zfst (zfst (zfst (zfst (zfst (zfst (zfst (zfst (zfst (zfst fl 1 2) 1 3) 0 0) 4 2) 4 3) 0 1) 8 2) 8 3) 7 0) 7 1) 0 2) 0 3) 13 2) 13 3) 0 4) 16 2) 16 3) 16 4) 16 5) 16 6) 16 7) 0 5) 23 1) 23 2) 0 6) 0 7) 28 2) 28 3) 27 0) 27 1) 12 0) 33 2) 33 3) 32 0) 32 1) 12 1) 38 2) 38 3) 37 0) 37 1) 12 2)
def zmM (μ : zM) : zM := (zst (zst (zst (zst (zst (zst (zst (zst (zst (zst (zst (zst (zst (zst μ 42 12 1) 46 0 (-1)) 46 1 (-1)) 46 2 (-1)) 46 3 (-1)) 46 4 (-1)) 46 5 (-1)) 48 0 (-1)) 48 1 (-1)) 48 2 (-1)) 48 3 (-1)) 44 0 (-1)) 44 1 (-1)) 44 2 (-1))
def zfM (fl : zF) : zF := (zfst (zfst (zfst (zfst (zfst (zfst (zfst (zfst (zfst (zfst (zfst (zfst (zfst fl 42 0) 42 2) 42 3) 42 4) 42 5) 42 6) 42 7) 42 9) 42 13) 42 14) 42 15) 42 16) 42 17)
