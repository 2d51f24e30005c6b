set_option maxRecDepth 100000 in
set_option maxHeartbeats 4000000 in
theorem w_M_count_e {X : zX} {G : zG} {v1 : Int} {μ : zM} {rv : Option zV} {ν : zM} (hX : zOk X G cX6_count RX6 2 (some .int) 3) (hF : zFin X G rv ν) (h : zP (fun r : Int => (some (zI r), μ) = (rv, ν)) (f_M_count v1 μ)) : zW X G 2 0 [some (zR 42), some (zI v1)] [] μ := by
  refine zr_iload_n hX dX6_count_0 rfl rfl ?_
  refine zr_tsw hX 0 dX6_count_1 (by decide) (zrl rfl) (t2 := 52) rfl rfl h (fun h => ?_) (fun hs1 h => ?_)
  · refine zr_aload_n hX dX6_count_52 rfl rfl ?_
    refine zr_getr hX dX6_count_53 (k := 0) (q := 43) rfl rfl ww_851 rfl ?_
    refine zr_iconst hX dX6_count_56 (zrl rfl) ?_
    refine zr_ialdc hX dX6_count_57 (N := 10956) rfl rfl rfl ?_
    exact zr_iret hX dX6_count_58 hF h
  refine zr_tsw hX 1 dX6_count_1 (by decide) (zrl rfl) (t2 := 59) rfl rfl h (fun h => ?_) (fun hs2 h => ?_)
  · refine zr_aload_n hX dX6_count_59 rfl rfl ?_
    refine zP_bind h (fun q3 hq3 h => ?_)
    refine zr_callV hX dX6_count_60 (m_M_houses hq3) rfl rfl rfl (z5 ww_1023 ww_1025 ww_32 ww_77 ww_1026) hy_X6_houses rfl (Nat.le_of_ble_eq_true rfl) (Nat.le_of_ble_eq_true rfl) (Nat.le_of_ble_eq_true rfl) ?_
    exact zr_iret hX dX6_count_63 hF h
  refine zr_tsw hX 2 dX6_count_1 (by decide) (zrl rfl) (t2 := 64) rfl rfl h (fun h => ?_) (fun hs4 h => ?_)
  · refine zr_aload_n hX dX6_count_64 rfl rfl ?_
    refine zr_geti hX dX6_count_65 (k := 1) rfl rfl ww_852 ?_
    exact zr_iret hX dX6_count_68 hF h
  refine zr_tsw hX 3 dX6_count_1 (by decide) (zrl rfl) (t2 := 69) rfl rfl h (fun h => ?_) (fun hs5 h => ?_)
  · refine zr_aload_n hX dX6_count_69 rfl rfl ?_
    refine zP_bind h (fun q6 hq6 h => ?_)
    refine zr_callV hX dX6_count_70 (m_M_highest hq6) rfl rfl rfl (z5 ww_1325 ww_1327 ww_66 ww_77 ww_1328) hy_X6_highest rfl (Nat.le_of_ble_eq_true rfl) (Nat.le_of_ble_eq_true rfl) (Nat.le_of_ble_eq_true rfl) ?_
    exact zr_iret hX dX6_count_73 hF h
  refine zr_tsw hX 4 dX6_count_1 (by decide) (zrl rfl) (t2 := 74) rfl rfl h (fun h => ?_) (fun hs7 h => ?_)
  · refine zr_aload_n hX dX6_count_74 rfl rfl ?_
    refine zr_iconst hX dX6_count_75 (zrl rfl) ?_
    refine zP_bind h (fun q8 hq8 h => ?_)
    refine zr_callV hX dX6_count_76 (m_M_kindsMany hq8) rfl rfl rfl (z5 ww_1329 ww_1331 ww_67 ww_77 ww_1332) hy_X6_kindsMany rfl (Nat.le_of_ble_eq_true rfl) (Nat.le_of_ble_eq_true rfl) (Nat.le_of_ble_eq_true rfl) ?_
    exact zr_iret hX dX6_count_79 hF h
  refine zr_tsw hX 5 dX6_count_1 (by decide) (zrl rfl) (t2 := 80) rfl rfl h (fun h => ?_) (fun hs9 h => ?_)
  · refine zr_aload_n hX dX6_count_80 rfl rfl ?_
    refine zr_iconst hX dX6_count_81 (zrl rfl) ?_
    refine zP_bind h (fun q10 hq10 h => ?_)
    refine zr_callV hX dX6_count_82 (m_M_kindsMany hq10) rfl rfl rfl (z5 ww_1329 ww_1331 ww_67 ww_77 ww_1332) hy_X6_kindsMany rfl (Nat.le_of_ble_eq_true rfl) (Nat.le_of_ble_eq_true rfl) (Nat.le_of_ble_eq_true rfl) ?_
    exact zr_iret hX dX6_count_85 hF h
  refine zr_tsw hX 6 dX6_count_1 (by decide) (zrl rfl) (t2 := 86) rfl rfl h (fun h => ?_) (fun hs11 h => ?_)
  · refine zr_aload_n hX dX6_count_86 rfl rfl ?_
    refine zr_getr hX dX6_count_87 (k := 4) (q := 46) rfl rfl ww_855 rfl ?_
    refine zr_bipush hX dX6_count_90 rfl ?_
    refine zP_bind h (fun q12 hq12 h => ?_)
    refine zr_callS hX dX6_count_92 (m_M_thereOf (zarr rfl) hq12) rfl (z4 ww_1333 ww_1334 ww_77 ww_1335) hy_X6_thereOf rfl (Nat.le_of_ble_eq_true rfl) (Nat.le_of_ble_eq_true rfl) (Nat.le_of_ble_eq_true rfl) ?_
    exact zr_iret hX dX6_count_95 hF h
  refine zr_tsw hX 7 dX6_count_1 (by decide) (zrl rfl) (t2 := 96) rfl rfl h (fun h => ?_) (fun hs13 h => ?_)
  · refine zr_aload_n hX dX6_count_96 rfl rfl ?_
    refine zr_getr hX dX6_count_97 (k := 6) (q := 48) rfl rfl ww_857 rfl ?_
    refine zr_iconst hX dX6_count_100 (zrl rfl) ?_
    refine zP_bind h (fun q14 hq14 h => ?_)
    refine zr_callS hX dX6_count_101 (m_M_thereOf (zarr rfl) hq14) rfl (z4 ww_1333 ww_1334 ww_77 ww_1335) hy_X6_thereOf rfl (Nat.le_of_ble_eq_true rfl) (Nat.le_of_ble_eq_true rfl) (Nat.le_of_ble_eq_true rfl) ?_
    exact zr_iret hX dX6_count_104 hF h
  refine zr_tsw hX 8 dX6_count_1 (by decide) (zrl rfl) (t2 := 105) rfl rfl h (fun h => ?_) (fun hs15 h => ?_)
  · refine zr_aload_n hX dX6_count_105 rfl rfl ?_
    refine zr_getr hX dX6_count_106 (k := 2) (q := 44) rfl rfl ww_853 rfl ?_
    refine zr_iconst hX dX6_count_109 (zrl rfl) ?_
    refine zP_bind h (fun q16 hq16 h => ?_)
    refine zr_callS hX dX6_count_110 (m_M_thereOf (zarr rfl) hq16) rfl (z4 ww_1333 ww_1334 ww_77 ww_1335) hy_X6_thereOf rfl (Nat.le_of_ble_eq_true rfl) (Nat.le_of_ble_eq_true rfl) (Nat.le_of_ble_eq_true rfl) ?_
    exact zr_iret hX dX6_count_113 hF h
  refine zr_tswd (tgt := 114) hX dX6_count_1 (by omega) rfl ?_
  refine zr_iconst hX dX6_count_114 (zrl rfl) ?_
  exact zr_iret hX dX6_count_115 hF h
set_option maxRecDepth 100000 in
theorem m_M_count {l : Launch} {G : zG} {v1 : Int} {μ : zM} {q : Int} (hq : f_M_count v1 μ = some q) : zCT l G yX6_count cX6_count 2 (some .int) 3 [zR 42, zI v1] μ (some (zI q)) μ := by
  refine zMet (lv := [some (zR 42), some (zI v1)]) (k := 0) pl_X6 rfl (Nat.le_of_ble_eq_true rfl) (fun X hl hX hF _ _ => ?_)
  exact w_M_count_e hX hF (zP_of hq rfl)
set_option maxRecDepth 100000 in
set_option maxHeartbeats 4000000 in
theorem w_M_finding_e {X : zX} {G : zG} {μ : zM} {rv : Option zV} {ν : zM} (hX : zOk X G cX6_finding RX6 1 (some .int) 1) (hF : zFin X G rv ν) (h : zP (fun r : Int => (some (zI r), μ) = (rv, ν)) (fo_M_finding μ)) : zW X G 1 0 [some (zR 42)] [] μ := by
  refine zr_aload_n hX dX6_finding_0 rfl rfl ?_
  refine zr_geti hX dX6_finding_1 (k := 8) rfl rfl ww_859 ?_
  exact zr_iret hX dX6_finding_4 hF h
set_option maxRecDepth 100000 in
theorem m_M_finding {l : Launch} {G : zG} {μ : zM} : zCT l G yX6_finding cX6_finding 1 (some .int) 1 [zR 42] μ (some (zI (f_M_finding μ))) μ := by
  refine zMet (lv := [some (zR 42)]) (k := 0) pl_X6 rfl (Nat.le_of_ble_eq_true rfl) (fun X hl hX hF _ _ => ?_)
  exact w_M_finding_e hX hF (by rw [fo_M_finding_eq]; rfl)
set_option maxRecDepth 100000 in
set_option maxHeartbeats 4000000 in
theorem w_M_findings_e {X : zX} {G : zG} {v1 : Int} {μ : zM} {rv : Option zV} {ν : zM} (hX : zOk X G cX6_findings RX6 2 (some .int) 2) (hF : zFin X G rv ν) (h : zP (fun r : Int => (some (zI r), μ) = (rv, ν)) (f_M_findings v1 μ)) : zW X G 2 0 [some (zR 42), some (zI v1)] [] μ := by
  refine zr_iload_n hX dX6_findings_0 rfl rfl ?_
  refine zr_i2l hX dX6_findings_1 ?_
  refine zr_lconst hX dX6_findings_2 (n := 1) rfl (zrlJ rfl) ?_
  refine zr_ldc2 hX dX6_findings_3 ww_917 rfl (zrlJ rfl) ?_
  refine zr_callS hX dX6_findings_6 (m_M_in) rfl (z4 ww_918 ww_919 ww_77 ww_920) hy_X6_in rfl (Nat.le_of_ble_eq_true rfl) (Nat.le_of_ble_eq_true rfl) (Nat.le_of_ble_eq_true rfl) ?_
  refine zr_ifeq (tgt := 21) hX dX6_findings_9 rfl h (fun h => ?_) (fun h => ?_)
  · refine zr_iconst hX dX6_findings_21 (zrl rfl) ?_
    exact zr_iret hX dX6_findings_22 hF h
  · refine zr_aload_n hX dX6_findings_12 rfl rfl ?_
    refine zr_getr hX dX6_findings_13 (k := 9) (q := 50) rfl rfl ww_860 rfl ?_
    refine zr_iload_n hX dX6_findings_16 rfl rfl ?_
    refine zr_iald (N := 6) hX dX6_findings_17 rfl rfl h (fun h => ?_)
    refine zr_goto hX dX6_findings_18 (tgt := 22) rfl ?_
    exact zr_iret hX dX6_findings_22 hF h
set_option maxRecDepth 100000 in
theorem m_M_findings {l : Launch} {G : zG} {v1 : Int} {μ : zM} {q : Int} (hq : f_M_findings v1 μ = some q) : zCT l G yX6_findings cX6_findings 2 (some .int) 2 [zR 42, zI v1] μ (some (zI q)) μ := by
  refine zMet (lv := [some (zR 42), some (zI v1)]) (k := 0) pl_X6 rfl (Nat.le_of_ble_eq_true rfl) (fun X hl hX hF _ _ => ?_)
  exact w_M_findings_e hX hF (zP_of hq rfl)
set_option maxRecDepth 100000 in
set_option maxHeartbeats 4000000 in
theorem w_M_mix_e {X : zX} {G : zG} {v1 : Int} {μ : zM} {rv : Option zV} {ν : zM} (hX : zOk X G cX6_mix RX6 3 none 1) (hF : zFin X G rv ν) (h : zP (fun r : zM => ((none : Option zV), r) = (rv, ν)) (f_M_mix v1 μ)) : zW X G 3 0 [some (zR 42), some (zJ v1), none] [] μ := by
  refine zr_aload_n hX dX6_mix_0 rfl rfl ?_
  refine zr_ldc2 hX dX6_mix_1 ww_1354 rfl (zrlJ rfl) ?_
  refine zr_aload_n hX dX6_mix_4 rfl rfl ?_
  refine zr_getj hX dX6_mix_5 (k := 18) rfl rfl ww_869 ?_
  refine zr_lmul hX dX6_mix_8 ?_
  refine zr_lload_n hX dX6_mix_9 rfl rfl ?_
  refine zr_ladd hX dX6_mix_10 ?_
  refine zr_putj hX dX6_mix_11 (k := 18) rfl rfl ww_869 rfl (by decide +kernel) ?_
  exact zr_vret hX dX6_mix_14 hF h
set_option maxRecDepth 100000 in
theorem m_M_mix {l : Launch} {G : zG} {v1 : Int} {μ : zM} {q : zM} (hq : f_M_mix v1 μ = some q) : zCT l G yX6_mix cX6_mix 3 none 1 [zR 42, zJ v1] μ (none) q := by
  refine zMet (lv := [some (zR 42), some (zJ v1), none]) (k := 0) pl_X6 rfl (Nat.le_of_ble_eq_true rfl) (fun X hl hX hF _ _ => ?_)
  exact w_M_mix_e hX hF (zP_of hq rfl)
def k_M_digest (X : zX) (G : zG) : ((Int × zM) ⊕ (Int × zM) ⊕ (Int × zM) ⊕ (Int × Int × zM) ⊕ (Int × zM) ⊕ (Int × Int × Int × zM) ⊕ (Int × zM) ⊕ (Int × Int × zM) ⊕ (Int × Int × zM)) → Prop := fun s => match s with
  | .inl (s) => zW X G 4 9 [some (zR 42), some (zI s.1), none, none] [] s.2
  | .inr (.inl (s)) => zW X G 4 37 [some (zR 42), some (zI s.1), none, none] [] s.2
  | .inr (.inr (.inl (s))) => zW X G 4 114 [some (zR 42), some (zI s.1), none, none] [] s.2
  | .inr (.inr (.inr (.inl (s)))) => zW X G 4 62 [some (zR 42), some (zI s.1), some (zI s.2.1), none] [] s.2.2
  | .inr (.inr (.inr (.inr (.inl (s))))) => zW X G 4 138 [some (zR 42), some (zI s.1), none, none] [] s.2
  | .inr (.inr (.inr (.inr (.inr (.inl (s)))))) => zW X G 4 76 [some (zR 42), some (zI s.1), some (zI s.2.1), some (zI s.2.2.1)] [] s.2.2.2
  | .inr (.inr (.inr (.inr (.inr (.inr (.inl (s))))))) => zW X G 4 197 [some (zR 42), some (zI s.1), none, none] [] s.2
  | .inr (.inr (.inr (.inr (.inr (.inr (.inr (.inl (s)))))))) => zW X G 4 157 [some (zR 42), some (zI s.1), some (zI s.2.1), none] [] s.2.2
  | .inr (.inr (.inr (.inr (.inr (.inr (.inr (.inr (s)))))))) => zW X G 4 215 [some (zR 42), some (zI s.1), some (zI s.2.1), none] [] s.2.2
theorem k_M_digest_9 {X : zX} {G : zG} {F : (Int × zM) → Prop} {v1 : Int} {κ : zM} (h : zP (Sum.elim (k_M_digest X G) F) (some (.inl (.inl ((v1, κ)))))) : zW X G 4 9 [some (zR 42), some (zI v1), none, none] [] κ := h
theorem k_M_digest_37 {X : zX} {G : zG} {F : (Int × zM) → Prop} {v1 : Int} {κ : zM} (h : zP (Sum.elim (k_M_digest X G) F) (some (.inl (.inr (.inl ((v1, κ))))))) : zW X G 4 37 [some (zR 42), some (zI v1), none, none] [] κ := h
theorem k_M_digest_114 {X : zX} {G : zG} {F : (Int × zM) → Prop} {v1 : Int} {κ : zM} (h : zP (Sum.elim (k_M_digest X G) F) (some (.inl (.inr (.inr (.inl ((v1, κ)))))))) : zW X G 4 114 [some (zR 42), some (zI v1), none, none] [] κ := h
theorem k_M_digest_62 {X : zX} {G : zG} {F : (Int × zM) → Prop} {v1 v2 : Int} {κ : zM} (h : zP (Sum.elim (k_M_digest X G) F) (some (.inl (.inr (.inr (.inr (.inl ((v1, v2, κ))))))))) : zW X G 4 62 [some (zR 42), some (zI v1), some (zI v2), none] [] κ := h
theorem k_M_digest_138 {X : zX} {G : zG} {F : (Int × zM) → Prop} {v1 : Int} {κ : zM} (h : zP (Sum.elim (k_M_digest X G) F) (some (.inl (.inr (.inr (.inr (.inr (.inl ((v1, κ)))))))))) : zW X G 4 138 [some (zR 42), some (zI v1), none, none] [] κ := h
theorem k_M_digest_76 {X : zX} {G : zG} {F : (Int × zM) → Prop} {v1 v2 v3 : Int} {κ : zM} (h : zP (Sum.elim (k_M_digest X G) F) (some (.inl (.inr (.inr (.inr (.inr (.inr (.inl ((v1, v2, v3, κ))))))))))) : zW X G 4 76 [some (zR 42), some (zI v1), some (zI v2), some (zI v3)] [] κ := h
theorem k_M_digest_197 {X : zX} {G : zG} {F : (Int × zM) → Prop} {v1 : Int} {κ : zM} (h : zP (Sum.elim (k_M_digest X G) F) (some (.inl (.inr (.inr (.inr (.inr (.inr (.inr (.inl ((v1, κ)))))))))))) : zW X G 4 197 [some (zR 42), some (zI v1), none, none] [] κ := h
theorem k_M_digest_157 {X : zX} {G : zG} {F : (Int × zM) → Prop} {v1 v2 : Int} {κ : zM} (h : zP (Sum.elim (k_M_digest X G) F) (some (.inl (.inr (.inr (.inr (.inr (.inr (.inr (.inr (.inl ((v1, v2, κ))))))))))))) : zW X G 4 157 [some (zR 42), some (zI v1), some (zI v2), none] [] κ := h
theorem k_M_digest_215 {X : zX} {G : zG} {F : (Int × zM) → Prop} {v1 v2 : Int} {κ : zM} (h : zP (Sum.elim (k_M_digest X G) F) (some (.inl (.inr (.inr (.inr (.inr (.inr (.inr (.inr (.inr ((v1, v2, κ))))))))))))) : zW X G 4 215 [some (zR 42), some (zI v1), some (zI v2), none] [] κ := h
set_option maxRecDepth 100000 in
set_option maxHeartbeats 4000000 in
theorem w_M_digest_9 {X : zX} {G : zG} {μ : zM} {rv : Option zV} {ν : zM} (hX : zOk X G cX6_digest RX6 4 (some .long) 7) (hF : zFin X G rv ν) {v1 : Int} (h : zP (Sum.elim (k_M_digest X G) (fun r : (Int × zM) => (some (zJ r.1), r.2) = (rv, ν))) (b_M_digest_9 v1 μ)) : zW X G 4 9 [some (zR 42), some (zI v1), none, none] [] μ := by
  refine zr_iload_n hX dX6_digest_9 rfl rfl ?_
  refine zr_bipush hX dX6_digest_10 rfl ?_
  refine zr_icmpge (tgt := 31) hX dX6_digest_12 rfl h (fun h => ?_) (fun h => ?_)
  · refine zr_aload_n hX dX6_digest_31 rfl rfl ?_
    refine zP_bind h (fun q1 hq1 h => ?_)
    refine zr_callV hX dX6_digest_32 (m_M_layLamps hq1) rfl rfl rfl (z5 ww_1019 ww_1021 ww_31 ww_77 ww_1022) hy_X6_layLamps rfl (Nat.le_of_ble_eq_true rfl) (Nat.le_of_ble_eq_true rfl) (Nat.le_of_ble_eq_true rfl) ?_
    refine zr_iconst hX dX6_digest_35 (zrl rfl) ?_
    refine zr_istore_n hX dX6_digest_36 rfl (Nat.le_of_ble_eq_true rfl) ?_
    exact zW_lf (k_M_digest_37 h) (And.intro rfl (And.intro rfl trivial))
  · refine zr_aload_n hX dX6_digest_15 rfl rfl ?_
    refine zr_aload_n hX dX6_digest_16 rfl rfl ?_
    refine zr_iload_n hX dX6_digest_17 rfl rfl ?_
    refine zP_bind h (fun q2 hq2 h => ?_)
    refine zr_callV hX dX6_digest_18 (m_M_count hq2) rfl rfl rfl (z5 ww_1349 ww_1322 ww_1323 ww_77 ww_1324) hy_X6_count rfl (Nat.le_of_ble_eq_true rfl) (Nat.le_of_ble_eq_true rfl) (Nat.le_of_ble_eq_true rfl) ?_
    refine zr_i2l hX dX6_digest_21 ?_
    refine zP_bind h (fun q3 hq3 h => ?_)
    refine zr_callV hX dX6_digest_22 (m_M_mix hq3) rfl rfl rfl (z5 ww_1350 ww_1352 ww_68 ww_77 ww_1353) hy_X6_mix rfl (Nat.le_of_ble_eq_true rfl) (Nat.le_of_ble_eq_true rfl) (Nat.le_of_ble_eq_true rfl) ?_
    refine zr_iinc hX dX6_digest_25 rfl (Nat.le_of_ble_eq_true rfl) ?_
    refine zr_goto hX dX6_digest_28 (tgt := 9) rfl ?_
    exact zW_lf (k_M_digest_9 h) (And.intro rfl (And.intro rfl trivial))
set_option maxRecDepth 100000 in
set_option maxHeartbeats 4000000 in
theorem w_M_digest_37 {X : zX} {G : zG} {μ : zM} {rv : Option zV} {ν : zM} (hX : zOk X G cX6_digest RX6 4 (some .long) 7) (hF : zFin X G rv ν) {v1 : Int} (h : zP (Sum.elim (k_M_digest X G) (fun r : (Int × zM) => (some (zJ r.1), r.2) = (rv, ν))) (b_M_digest_37 v1 μ)) : zW X G 4 37 [some (zR 42), some (zI v1), none, none] [] μ := by
  refine zr_iload_n hX dX6_digest_37 rfl rfl ?_
  refine zr_aload_n hX dX6_digest_38 rfl rfl ?_
  refine zr_getr hX dX6_digest_39 (k := 0) (q := 43) rfl rfl ww_851 rfl ?_
  refine zr_iconst hX dX6_digest_42 (zrl rfl) ?_
  refine zr_ialdc hX dX6_digest_43 (N := 10956) rfl rfl rfl ?_
  refine zr_icmpge (tgt := 112) hX dX6_digest_44 rfl h (fun h => ?_) (fun h => ?_)
  · refine zr_iconst hX dX6_digest_112 (zrl rfl) ?_
    refine zr_istore_n hX dX6_digest_113 rfl (Nat.le_of_ble_eq_true rfl) ?_
    exact zW_lf (k_M_digest_114 h) (And.intro rfl (And.intro rfl trivial))
  · refine zr_aload_n hX dX6_digest_47 rfl rfl ?_
    refine zr_aload_n hX dX6_digest_48 rfl rfl ?_
    refine zr_getr hX dX6_digest_49 (k := 0) (q := 43) rfl rfl ww_851 rfl ?_
    refine zr_iconst hX dX6_digest_52 (zrl rfl) ?_
    refine zr_iload_n hX dX6_digest_53 rfl rfl ?_
    refine zr_iadd hX dX6_digest_54 ?_
    refine zr_iald (N := 10956) hX dX6_digest_55 rfl rfl h (fun h => ?_)
    refine zr_i2l hX dX6_digest_56 ?_
    refine zP_bind h (fun q4 hq4 h => ?_)
    refine zr_callV hX dX6_digest_57 (m_M_mix hq4) rfl rfl rfl (z5 ww_1350 ww_1352 ww_68 ww_77 ww_1353) hy_X6_mix rfl (Nat.le_of_ble_eq_true rfl) (Nat.le_of_ble_eq_true rfl) (Nat.le_of_ble_eq_true rfl) ?_
    refine zr_iconst hX dX6_digest_60 (zrl rfl) ?_
    refine zr_istore_n hX dX6_digest_61 rfl (Nat.le_of_ble_eq_true rfl) ?_
    exact zW_lf (k_M_digest_62 h) (And.intro rfl (And.intro rfl (And.intro rfl trivial)))
set_option maxRecDepth 100000 in
set_option maxHeartbeats 4000000 in
theorem w_M_digest_114 {X : zX} {G : zG} {μ : zM} {rv : Option zV} {ν : zM} (hX : zOk X G cX6_digest RX6 4 (some .long) 7) (hF : zFin X G rv ν) {v1 : Int} (h : zP (Sum.elim (k_M_digest X G) (fun r : (Int × zM) => (some (zJ r.1), r.2) = (rv, ν))) (b_M_digest_114 v1 μ)) : zW X G 4 114 [some (zR 42), some (zI v1), none, none] [] μ := by
  refine zr_iload_n hX dX6_digest_114 rfl rfl ?_
  refine zr_iconst hX dX6_digest_115 (zrl rfl) ?_
  refine zr_icmpge (tgt := 136) hX dX6_digest_116 rfl h (fun h => ?_) (fun h => ?_)
  · refine zr_iconst hX dX6_digest_136 (zrl rfl) ?_
    refine zr_istore_n hX dX6_digest_137 rfl (Nat.le_of_ble_eq_true rfl) ?_
    exact zW_lf (k_M_digest_138 h) (And.intro rfl (And.intro rfl trivial))
  · refine zr_aload_n hX dX6_digest_119 rfl rfl ?_
    refine zr_aload_n hX dX6_digest_120 rfl rfl ?_
    refine zr_getr hX dX6_digest_121 (k := 2) (q := 44) rfl rfl ww_853 rfl ?_
    refine zr_iload_n hX dX6_digest_124 rfl rfl ?_
    refine zr_iald (N := 3) hX dX6_digest_125 rfl rfl h (fun h => ?_)
    refine zr_i2l hX dX6_digest_126 ?_
    refine zP_bind h (fun q5 hq5 h => ?_)
    refine zr_callV hX dX6_digest_127 (m_M_mix hq5) rfl rfl rfl (z5 ww_1350 ww_1352 ww_68 ww_77 ww_1353) hy_X6_mix rfl (Nat.le_of_ble_eq_true rfl) (Nat.le_of_ble_eq_true rfl) (Nat.le_of_ble_eq_true rfl) ?_
    refine zr_iinc hX dX6_digest_130 rfl (Nat.le_of_ble_eq_true rfl) ?_
    refine zr_goto hX dX6_digest_133 (tgt := 114) rfl ?_
    exact zW_lf (k_M_digest_114 h) (And.intro rfl (And.intro rfl trivial))
set_option maxRecDepth 100000 in
set_option maxHeartbeats 4000000 in
theorem w_M_digest_62 {X : zX} {G : zG} {μ : zM} {rv : Option zV} {ν : zM} (hX : zOk X G cX6_digest RX6 4 (some .long) 7) (hF : zFin X G rv ν) {v1 v2 : Int} (h : zP (Sum.elim (k_M_digest X G) (fun r : (Int × zM) => (some (zJ r.1), r.2) = (rv, ν))) (b_M_digest_62 v1 v2 μ)) : zW X G 4 62 [some (zR 42), some (zI v1), some (zI v2), none] [] μ := by
  refine zr_iload_n hX dX6_digest_62 rfl rfl ?_
  refine zr_aload_n hX dX6_digest_63 rfl rfl ?_
  refine zr_getr hX dX6_digest_64 (k := 0) (q := 43) rfl rfl ww_851 rfl ?_
  refine zr_iconst hX dX6_digest_67 (zrl rfl) ?_
  refine zr_iload_n hX dX6_digest_68 rfl rfl ?_
  refine zr_iadd hX dX6_digest_69 ?_
  refine zr_iald (N := 10956) hX dX6_digest_70 rfl rfl h (fun h => ?_)
  refine zr_icmpge (tgt := 106) hX dX6_digest_71 rfl h (fun h => ?_) (fun h => ?_)
  · refine zr_iinc hX dX6_digest_106 rfl (Nat.le_of_ble_eq_true rfl) ?_
    refine zr_goto hX dX6_digest_109 (tgt := 37) rfl ?_
    exact zW_lf (k_M_digest_37 h) (And.intro rfl (And.intro rfl trivial))
  · refine zr_iconst hX dX6_digest_74 (zrl rfl) ?_
    refine zr_istore_n hX dX6_digest_75 rfl (Nat.le_of_ble_eq_true rfl) ?_
    exact zW_lf (k_M_digest_76 h) (And.intro rfl (And.intro rfl (And.intro rfl (And.intro rfl trivial))))
set_option maxRecDepth 100000 in
set_option maxHeartbeats 4000000 in
theorem w_M_digest_138 {X : zX} {G : zG} {μ : zM} {rv : Option zV} {ν : zM} (hX : zOk X G cX6_digest RX6 4 (some .long) 7) (hF : zFin X G rv ν) {v1 : Int} (h : zP (Sum.elim (k_M_digest X G) (fun r : (Int × zM) => (some (zJ r.1), r.2) = (rv, ν))) (b_M_digest_138 v1 μ)) : zW X G 4 138 [some (zR 42), some (zI v1), none, none] [] μ := by
  refine zr_iload_n hX dX6_digest_138 rfl rfl ?_
  refine zr_bipush hX dX6_digest_139 rfl ?_
  refine zr_icmpge (tgt := 195) hX dX6_digest_141 rfl h (fun h => ?_) (fun h => ?_)
  · refine zr_iconst hX dX6_digest_195 (zrl rfl) ?_
    refine zr_istore_n hX dX6_digest_196 rfl (Nat.le_of_ble_eq_true rfl) ?_
    exact zW_lf (k_M_digest_197 h) (And.intro rfl (And.intro rfl trivial))
  · refine zr_aload_n hX dX6_digest_144 rfl rfl ?_
    refine zr_aload_n hX dX6_digest_145 rfl rfl ?_
    refine zr_getr hX dX6_digest_146 (k := 4) (q := 46) rfl rfl ww_855 rfl ?_
    refine zr_iload_n hX dX6_digest_149 rfl rfl ?_
    refine zr_iald (N := 6) hX dX6_digest_150 rfl rfl h (fun h => ?_)
    refine zr_i2l hX dX6_digest_151 ?_
    refine zP_bind h (fun q6 hq6 h => ?_)
    refine zr_callV hX dX6_digest_152 (m_M_mix hq6) rfl rfl rfl (z5 ww_1350 ww_1352 ww_68 ww_77 ww_1353) hy_X6_mix rfl (Nat.le_of_ble_eq_true rfl) (Nat.le_of_ble_eq_true rfl) (Nat.le_of_ble_eq_true rfl) ?_
    refine zr_iconst hX dX6_digest_155 (zrl rfl) ?_
    refine zr_istore_n hX dX6_digest_156 rfl (Nat.le_of_ble_eq_true rfl) ?_
    exact zW_lf (k_M_digest_157 h) (And.intro rfl (And.intro rfl (And.intro rfl trivial)))
set_option maxRecDepth 100000 in
set_option maxHeartbeats 4000000 in
theorem w_M_digest_76 {X : zX} {G : zG} {μ : zM} {rv : Option zV} {ν : zM} (hX : zOk X G cX6_digest RX6 4 (some .long) 7) (hF : zFin X G rv ν) {v1 v2 v3 : Int} (h : zP (Sum.elim (k_M_digest X G) (fun r : (Int × zM) => (some (zJ r.1), r.2) = (rv, ν))) (b_M_digest_76 v1 v2 v3 μ)) : zW X G 4 76 [some (zR 42), some (zI v1), some (zI v2), some (zI v3)] [] μ := by
  refine zr_iload_n hX dX6_digest_76 rfl rfl ?_
  refine zr_bipush hX dX6_digest_77 rfl ?_
  refine zr_icmpge (tgt := 100) hX dX6_digest_79 rfl h (fun h => ?_) (fun h => ?_)
  · refine zr_iinc hX dX6_digest_100 rfl (Nat.le_of_ble_eq_true rfl) ?_
    refine zr_goto hX dX6_digest_103 (tgt := 62) rfl ?_
    exact zW_lf (k_M_digest_62 h) (And.intro rfl (And.intro rfl (And.intro rfl trivial)))
  · refine zr_aload_n hX dX6_digest_82 rfl rfl ?_
    refine zr_aload_n hX dX6_digest_83 rfl rfl ?_
    refine zr_iload_n hX dX6_digest_84 rfl rfl ?_
    refine zr_iload_n hX dX6_digest_85 rfl rfl ?_
    refine zr_iload_n hX dX6_digest_86 rfl rfl ?_
    refine zP_bind h (fun q7 hq7 h => ?_)
    refine zr_callV hX dX6_digest_87 (m_M_houseTells hq7) rfl rfl rfl (z5 ww_1056 ww_1058 ww_38 ww_77 ww_1059) hy_X6_houseTells rfl (Nat.le_of_ble_eq_true rfl) (Nat.le_of_ble_eq_true rfl) (Nat.le_of_ble_eq_true rfl) ?_
    refine zr_i2l hX dX6_digest_90 ?_
    refine zP_bind h (fun q8 hq8 h => ?_)
    refine zr_callV hX dX6_digest_91 (m_M_mix hq8) rfl rfl rfl (z5 ww_1350 ww_1352 ww_68 ww_77 ww_1353) hy_X6_mix rfl (Nat.le_of_ble_eq_true rfl) (Nat.le_of_ble_eq_true rfl) (Nat.le_of_ble_eq_true rfl) ?_
    refine zr_iinc hX dX6_digest_94 rfl (Nat.le_of_ble_eq_true rfl) ?_
    refine zr_goto hX dX6_digest_97 (tgt := 76) rfl ?_
    exact zW_lf (k_M_digest_76 h) (And.intro rfl (And.intro rfl (And.intro rfl (And.intro rfl trivial))))
set_option maxRecDepth 100000 in
set_option maxHeartbeats 4000000 in
theorem w_M_digest_197 {X : zX} {G : zG} {μ : zM} {rv : Option zV} {ν : zM} (hX : zOk X G cX6_digest RX6 4 (some .long) 7) (hF : zFin X G rv ν) {v1 : Int} (h : zP (Sum.elim (k_M_digest X G) (fun r : (Int × zM) => (some (zJ r.1), r.2) = (rv, ν))) (b_M_digest_197 v1 μ)) : zW X G 4 197 [some (zR 42), some (zI v1), none, none] [] μ := by
  refine zr_iload_n hX dX6_digest_197 rfl rfl ?_
  refine zr_iconst hX dX6_digest_198 (zrl rfl) ?_
  refine zr_icmpge (tgt := 253) hX dX6_digest_199 rfl h (fun h => ?_) (fun h => ?_)
  · refine zr_aload_n hX dX6_digest_253 rfl rfl ?_
    refine zr_getj hX dX6_digest_254 (k := 18) rfl rfl ww_869 ?_
    exact zr_lret hX dX6_digest_257 hF h
  · refine zr_aload_n hX dX6_digest_202 rfl rfl ?_
    refine zr_aload_n hX dX6_digest_203 rfl rfl ?_
    refine zr_getr hX dX6_digest_204 (k := 6) (q := 48) rfl rfl ww_857 rfl ?_
    refine zr_iload_n hX dX6_digest_207 rfl rfl ?_
    refine zr_iald (N := 4) hX dX6_digest_208 rfl rfl h (fun h => ?_)
    refine zr_i2l hX dX6_digest_209 ?_
    refine zP_bind h (fun q9 hq9 h => ?_)
    refine zr_callV hX dX6_digest_210 (m_M_mix hq9) rfl rfl rfl (z5 ww_1350 ww_1352 ww_68 ww_77 ww_1353) hy_X6_mix rfl (Nat.le_of_ble_eq_true rfl) (Nat.le_of_ble_eq_true rfl) (Nat.le_of_ble_eq_true rfl) ?_
    refine zr_iconst hX dX6_digest_213 (zrl rfl) ?_
    refine zr_istore_n hX dX6_digest_214 rfl (Nat.le_of_ble_eq_true rfl) ?_
    exact zW_lf (k_M_digest_215 h) (And.intro rfl (And.intro rfl (And.intro rfl trivial)))
set_option maxRecDepth 100000 in
set_option maxHeartbeats 4000000 in
theorem w_M_digest_157 {X : zX} {G : zG} {μ : zM} {rv : Option zV} {ν : zM} (hX : zOk X G cX6_digest RX6 4 (some .long) 7) (hF : zFin X G rv ν) {v1 v2 : Int} (h : zP (Sum.elim (k_M_digest X G) (fun r : (Int × zM) => (some (zJ r.1), r.2) = (rv, ν))) (b_M_digest_157 v1 v2 μ)) : zW X G 4 157 [some (zR 42), some (zI v1), some (zI v2), none] [] μ := by
  refine zr_iload_n hX dX6_digest_157 rfl rfl ?_
  refine zr_aload_n hX dX6_digest_158 rfl rfl ?_
  refine zr_getr hX dX6_digest_159 (k := 4) (q := 46) rfl rfl ww_855 rfl ?_
  refine zr_iload_n hX dX6_digest_162 rfl rfl ?_
  refine zr_iald (N := 6) hX dX6_digest_163 rfl rfl h (fun h => ?_)
  refine zr_icmpge (tgt := 189) hX dX6_digest_164 rfl h (fun h => ?_) (fun h => ?_)
  · refine zr_iinc hX dX6_digest_189 rfl (Nat.le_of_ble_eq_true rfl) ?_
    refine zr_goto hX dX6_digest_192 (tgt := 138) rfl ?_
    exact zW_lf (k_M_digest_138 h) (And.intro rfl (And.intro rfl trivial))
  · refine zr_aload_n hX dX6_digest_167 rfl rfl ?_
    refine zr_aload_n hX dX6_digest_168 rfl rfl ?_
    refine zr_getr hX dX6_digest_169 (k := 3) (q := 45) rfl rfl ww_854 rfl ?_
    refine zr_bipush hX dX6_digest_172 rfl ?_
    refine zr_iload_n hX dX6_digest_174 rfl rfl ?_
    refine zr_imul hX dX6_digest_175 ?_
    refine zr_iload_n hX dX6_digest_176 rfl rfl ?_
    refine zr_iadd hX dX6_digest_177 ?_
    refine zr_iald (N := 240) hX dX6_digest_178 rfl rfl h (fun h => ?_)
    refine zr_i2l hX dX6_digest_179 ?_
    refine zP_bind h (fun q10 hq10 h => ?_)
    refine zr_callV hX dX6_digest_180 (m_M_mix hq10) rfl rfl rfl (z5 ww_1350 ww_1352 ww_68 ww_77 ww_1353) hy_X6_mix rfl (Nat.le_of_ble_eq_true rfl) (Nat.le_of_ble_eq_true rfl) (Nat.le_of_ble_eq_true rfl) ?_
    refine zr_iinc hX dX6_digest_183 rfl (Nat.le_of_ble_eq_true rfl) ?_
    refine zr_goto hX dX6_digest_186 (tgt := 157) rfl ?_
    exact zW_lf (k_M_digest_157 h) (And.intro rfl (And.intro rfl (And.intro rfl trivial)))
set_option maxRecDepth 100000 in
set_option maxHeartbeats 4000000 in
theorem w_M_digest_215 {X : zX} {G : zG} {μ : zM} {rv : Option zV} {ν : zM} (hX : zOk X G cX6_digest RX6 4 (some .long) 7) (hF : zFin X G rv ν) {v1 v2 : Int} (h : zP (Sum.elim (k_M_digest X G) (fun r : (Int × zM) => (some (zJ r.1), r.2) = (rv, ν))) (b_M_digest_215 v1 v2 μ)) : zW X G 4 215 [some (zR 42), some (zI v1), some (zI v2), none] [] μ := by
  refine zr_iload_n hX dX6_digest_215 rfl rfl ?_
  refine zr_aload_n hX dX6_digest_216 rfl rfl ?_
  refine zr_getr hX dX6_digest_217 (k := 6) (q := 48) rfl rfl ww_857 rfl ?_
  refine zr_iload_n hX dX6_digest_220 rfl rfl ?_
  refine zr_iald (N := 4) hX dX6_digest_221 rfl rfl h (fun h => ?_)
  refine zr_icmpge (tgt := 247) hX dX6_digest_222 rfl h (fun h => ?_) (fun h => ?_)
  · refine zr_iinc hX dX6_digest_247 rfl (Nat.le_of_ble_eq_true rfl) ?_
    refine zr_goto hX dX6_digest_250 (tgt := 197) rfl ?_
    exact zW_lf (k_M_digest_197 h) (And.intro rfl (And.intro rfl trivial))
  · refine zr_aload_n hX dX6_digest_225 rfl rfl ?_
    refine zr_aload_n hX dX6_digest_226 rfl rfl ?_
    refine zr_getr hX dX6_digest_227 (k := 5) (q := 47) rfl rfl ww_856 rfl ?_
    refine zr_bipush hX dX6_digest_230 rfl ?_
    refine zr_iload_n hX dX6_digest_232 rfl rfl ?_
    refine zr_imul hX dX6_digest_233 ?_
    refine zr_iload_n hX dX6_digest_234 rfl rfl ?_
    refine zr_iadd hX dX6_digest_235 ?_
    refine zr_iald (N := 240) hX dX6_digest_236 rfl rfl h (fun h => ?_)
    refine zr_i2l hX dX6_digest_237 ?_
    refine zP_bind h (fun q11 hq11 h => ?_)
    refine zr_callV hX dX6_digest_238 (m_M_mix hq11) rfl rfl rfl (z5 ww_1350 ww_1352 ww_68 ww_77 ww_1353) hy_X6_mix rfl (Nat.le_of_ble_eq_true rfl) (Nat.le_of_ble_eq_true rfl) (Nat.le_of_ble_eq_true rfl) ?_
    refine zr_iinc hX dX6_digest_241 rfl (Nat.le_of_ble_eq_true rfl) ?_
    refine zr_goto hX dX6_digest_244 (tgt := 215) rfl ?_
    exact zW_lf (k_M_digest_215 h) (And.intro rfl (And.intro rfl (And.intro rfl trivial)))
set_option maxRecDepth 100000 in
set_option maxHeartbeats 4000000 in
theorem w_M_digest_e {X : zX} {G : zG} {μ : zM} {rv : Option zV} {ν : zM} (hX : zOk X G cX6_digest RX6 4 (some .long) 7) (hF : zFin X G rv ν) (h : zP (Sum.elim (k_M_digest X G) (fun r : (Int × zM) => (some (zJ r.1), r.2) = (rv, ν))) (e_M_digest μ)) : zW X G 4 0 [some (zR 42), none, none, none] [] μ := by
  refine zr_aload_n hX dX6_digest_0 rfl rfl ?_
  refine zr_ldc2 hX dX6_digest_1 ww_1348 rfl (zrlJ rfl) ?_
  refine zr_putj hX dX6_digest_4 (k := 18) rfl rfl ww_869 rfl (by decide +kernel) ?_
  refine zr_iconst hX dX6_digest_7 (zrl rfl) ?_
  refine zr_istore_n hX dX6_digest_8 rfl (Nat.le_of_ble_eq_true rfl) ?_
  exact zW_lf (k_M_digest_9 h) (And.intro rfl (And.intro rfl trivial))
set_option maxRecDepth 100000 in
theorem m_M_digest {l : Launch} {G : zG} {μ : zM} {q : Int × zM} (hq : f_M_digest μ = some q) : zCT l G yX6_digest cX6_digest 4 (some .long) 7 [zR 42] μ (some (zJ q.1)) q.2 := by
  refine zMet (lv := [some (zR 42), none, none, none]) (k := 3) pl_X6 rfl (Nat.le_of_ble_eq_true rfl) (fun X hl hX hF _ _ => ?_)
  refine w_M_digest_e hX hF (zgo_K (r := q) (step := t_M_digest) (fun s h => ?_) rfl hq)
  cases s with
  | inl s => exact w_M_digest_9 hX hF h
  | inr s =>
    cases s with
    | inl s => exact w_M_digest_37 hX hF h
    | inr s =>
      cases s with
      | inl s => exact w_M_digest_114 hX hF h
      | inr s =>
        cases s with
        | inl s => exact w_M_digest_62 hX hF h
        | inr s =>
          cases s with
          | inl s => exact w_M_digest_138 hX hF h
          | inr s =>
            cases s with
            | inl s => exact w_M_digest_76 hX hF h
            | inr s =>
              cases s with
              | inl s => exact w_M_digest_197 hX hF h
              | inr s =>
                cases s with
                | inl s => exact w_M_digest_157 hX hF h
                | inr s => exact w_M_digest_215 hX hF h
