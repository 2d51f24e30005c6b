set_option maxRecDepth 100000 in
set_option maxHeartbeats 4000000 in
theorem w_R_saveTo_e {X : zX} {G : zG} {o : Nat} {o1 : Nat} {v2 : Int} {μ : zM} {rv : Option zV} {ν : zM} (hX : zOk X G cX1_saveTo RX1 3 none 1) (hF : zFin X G rv ν) (ho : zsh o = (0, 1)) (ho1 : zsh o1 = (1, (zsh o1).2)) (h : zP (fun r : zM => ((none : Option zV), r) = (rv, ν)) (f_R_saveTo o o1 v2 μ)) : zW X G 3 0 [some (zR o), some (zR o1), some (zI v2)] [] μ := by
  refine zr_iload_n hX dX1_saveTo_0 rfl rfl ?_
  refine zr_iflt (tgt := 25) hX dX1_saveTo_1 rfl h (fun h => ?_) (fun h => ?_)
  · exact zr_vret hX dX1_saveTo_25 hF h
  · refine zr_iload_n hX dX1_saveTo_4 rfl rfl ?_
    refine zr_aload_n hX dX1_saveTo_5 rfl rfl ?_
    refine zr_alen hX dX1_saveTo_6 (N := zsz o1) ho1 rfl (zsz_r _) ?_
    refine zr_bipush hX dX1_saveTo_7 rfl ?_
    refine zr_isub hX dX1_saveTo_9 ?_
    refine zr_icmpgt (tgt := 25) hX dX1_saveTo_10 rfl h (fun h => ?_) (fun h => ?_)
    · exact zr_vret hX dX1_saveTo_25 hF h
    · refine zr_aload_n hX dX1_saveTo_13 rfl rfl ?_
      refine zr_getr hX dX1_saveTo_14 (k := 3) (q := (o + 2)) ho rfl ww_126 rfl ?_
      refine zr_iconst hX dX1_saveTo_17 (zrl rfl) ?_
      refine zr_aload_n hX dX1_saveTo_18 rfl rfl ?_
      refine zr_iload_n hX dX1_saveTo_19 rfl rfl ?_
      refine zr_bipush hX dX1_saveTo_20 rfl ?_
      refine zr_copy (Na := 30) (Nb := zsz o1) hX dX1_saveTo_22 (by decide +kernel) (zkid_of zk_1_2 ho) ho1 rfl rfl (Nat.le_of_ble_eq_true rfl) (Nat.le_of_ble_eq_true rfl) h (fun h => ?_)
      exact zr_vret hX dX1_saveTo_25 hF h
set_option maxRecDepth 100000 in
theorem m_R_saveTo {l : Launch} {G : zG} {o : Nat} {o1 : Nat} {v2 : Int} {μ : zM} (ho : zsh o = (0, 1)) (ho1 : zsh o1 = (1, (zsh o1).2)) {q : zM} (hq : f_R_saveTo o o1 v2 μ = some q) : zCT l G yX1_saveTo cX1_saveTo 3 none 1 [zR o, zR o1, zI v2] μ (none) q := by
  refine zMet (lv := [some (zR o), some (zR o1), some (zI v2)]) (k := 0) pl_X1 rfl (Nat.le_of_ble_eq_true rfl) (fun X hl hX hF _ _ => ?_)
  exact w_R_saveTo_e hX hF ho ho1 (zP_of hq rfl)
set_option maxRecDepth 100000 in
set_option maxHeartbeats 4000000 in
theorem w_Y_noteDeed_e {X : zX} {G : zG} {o : Nat} {μ : zM} {rv : Option zV} {ν : zM} (hX : zOk X G cX4_noteDeed RX4 1 none 2) (hF : zFin X G rv ν) (ho : zsh o = (0, 4)) (h : zP (fun r : zM => ((none : Option zV), r) = (rv, ν)) (f_Y_noteDeed o μ)) : zW X G 1 0 [some (zR o)] [] μ := by
  refine zr_aload_n hX dX4_noteDeed_0 rfl rfl ?_
  refine zr_iconst hX dX4_noteDeed_1 (zrl rfl) ?_
  refine zr_callV hX dX4_noteDeed_2 (m_Y_hasRoomFor ho) ho rfl rfl (z5 ww_568 ww_561 ww_562 ww_73 ww_563) hy_X4_hasRoomFor rfl (Nat.le_of_ble_eq_true rfl) (Nat.le_of_ble_eq_true rfl) (Nat.le_of_ble_eq_true rfl) ?_
  refine zr_ifeq (tgt := 36) hX dX4_noteDeed_5 rfl h (fun h => ?_) (fun h => ?_)
  · exact zr_vret hX dX4_noteDeed_36 hF h
  · refine zr_aload_n hX dX4_noteDeed_8 rfl rfl ?_
    refine zr_getr hX dX4_noteDeed_9 (k := 0) (q := (o + 1)) ho rfl ww_136 rfl ?_
    refine zr_aload_n hX dX4_noteDeed_12 rfl rfl ?_
    refine zr_getr hX dX4_noteDeed_13 (k := 1) (q := (o + 4)) ho rfl ww_138 rfl ?_
    refine zr_aload_n hX dX4_noteDeed_16 rfl rfl ?_
    refine zr_geti hX dX4_noteDeed_17 (k := 2) ho rfl ww_139 ?_
    refine zr_bipush hX dX4_noteDeed_20 rfl ?_
    refine zr_imul hX dX4_noteDeed_22 ?_
    refine zP_bind h (fun q1 hq1 h => ?_)
    refine zr_callV hX dX4_noteDeed_23 (m_R_saveTo (zkid_of zk_4_1 ho) (zarr (zkid_of zk_4_4 ho)) hq1) (zkid_of zk_4_1 ho) rfl rfl (z5 ww_569 ww_570 ww_571 ww_74 ww_572) hy_X1_saveTo rfl (Nat.le_of_ble_eq_true rfl) (Nat.le_of_ble_eq_true rfl) (Nat.le_of_ble_eq_true rfl) ?_
    refine zr_aload_n hX dX4_noteDeed_26 rfl rfl ?_
    refine zr_dup hX dX4_noteDeed_27 rfl ?_
    refine zr_geti hX dX4_noteDeed_28 (k := 2) ho rfl ww_139 ?_
    refine zr_iconst hX dX4_noteDeed_31 (zrl rfl) ?_
    refine zr_iadd hX dX4_noteDeed_32 ?_
    refine zr_puti hX dX4_noteDeed_33 (k := 2) ho rfl ww_139 rfl (by decide +kernel) ?_
    exact zr_vret hX dX4_noteDeed_36 hF h
set_option maxRecDepth 100000 in
theorem m_Y_noteDeed {l : Launch} {G : zG} {o : Nat} {μ : zM} (ho : zsh o = (0, 4)) {q : zM} (hq : f_Y_noteDeed o μ = some q) : zCT l G yX4_noteDeed cX4_noteDeed 1 none 2 [zR o] μ (none) q := by
  refine zMet (lv := [some (zR o)]) (k := 0) pl_X4 rfl (Nat.le_of_ble_eq_true rfl) (fun X hl hX hF _ _ => ?_)
  exact w_Y_noteDeed_e hX hF ho (zP_of hq rfl)
set_option maxRecDepth 100000 in
set_option maxHeartbeats 4000000 in
theorem w_X_build_e {X : zX} {G : zG} {v1 : Int} {v2 : Int} {v3 : Int} {μ : zM} {rv : Option zV} {ν : zM} (hX : zOk X G cX5_build RX5 4 (some .int) 4) (hF : zFin X G rv ν) (h : zP (fun r : (Int × zM) => (some (zI r.1), r.2) = (rv, ν)) (f_X_build v1 v2 v3 μ)) : zW X G 4 0 [some (zR 0), some (zI v1), some (zI v2), some (zI v3)] [] μ := by
  refine zr_aload_n hX dX5_build_0 rfl rfl ?_
  refine zr_getr hX dX5_build_1 (k := 2) (q := 7) rfl rfl ww_201 rfl ?_
  refine zr_getrN hX dX5_build_4 (k := 0) (q := 8) rfl rfl nf_X5_125 rfl ?_
  refine zr_iload_n hX dX5_build_7 rfl rfl ?_
  refine zr_callV hX dX5_build_8 (m_R_isTower rfl) rfl rfl rfl (z5 ww_421 ww_355 ww_356 ww_74 ww_357) hy_X1_isTower rfl (Nat.le_of_ble_eq_true rfl) (Nat.le_of_ble_eq_true rfl) (Nat.le_of_ble_eq_true rfl) ?_
  refine zr_ifeq (tgt := 28) hX dX5_build_11 rfl h (fun h => ?_) (fun h => ?_)
  · refine zr_iconst hX dX5_build_28 (zrl rfl) ?_
    exact zr_iret hX dX5_build_29 hF h
  · refine zr_iload_n hX dX5_build_14 rfl rfl ?_
    refine zr_callS hX dX5_build_15 (m_X_isKind) rfl (z4 ww_523 ww_524 ww_70 ww_525) hy_X5_isKind rfl (Nat.le_of_ble_eq_true rfl) (Nat.le_of_ble_eq_true rfl) (Nat.le_of_ble_eq_true rfl) ?_
    refine zr_ifeq (tgt := 28) hX dX5_build_18 rfl h (fun h => ?_) (fun h => ?_)
    · refine zr_iconst hX dX5_build_28 (zrl rfl) ?_
      exact zr_iret hX dX5_build_29 hF h
    · refine zr_iload_n hX dX5_build_21 rfl rfl ?_
      refine zr_callS hX dX5_build_22 (m_X_isBorne) rfl (z4 ww_362 ww_363 ww_70 ww_364) hy_X5_isBorne rfl (Nat.le_of_ble_eq_true rfl) (Nat.le_of_ble_eq_true rfl) (Nat.le_of_ble_eq_true rfl) ?_
      refine zr_ifne (tgt := 30) hX dX5_build_25 rfl h (fun h => ?_) (fun h => ?_)
      · refine zr_aload_n hX dX5_build_30 rfl rfl ?_
        refine zr_getr hX dX5_build_31 (k := 2) (q := 7) rfl rfl ww_201 rfl ?_
        refine zr_getrN hX dX5_build_34 (k := 0) (q := 8) rfl rfl nf_X5_125 rfl ?_
        refine zr_iload_n hX dX5_build_37 rfl rfl ?_
        refine zP_bind h (fun q1 hq1 h => ?_)
        refine zr_callV hX dX5_build_38 (m_R_hasRoom rfl hq1) rfl rfl rfl (z5 ww_350 ww_351 ww_352 ww_74 ww_353) hy_X1_hasRoom rfl (Nat.le_of_ble_eq_true rfl) (Nat.le_of_ble_eq_true rfl) (Nat.le_of_ble_eq_true rfl) ?_
        refine zr_ifeq (tgt := 55) hX dX5_build_41 rfl h (fun h => ?_) (fun h => ?_)
        · refine zr_bipush hX dX5_build_55 rfl ?_
          exact zr_iret hX dX5_build_57 hF h
        · refine zr_aload_n hX dX5_build_44 rfl rfl ?_
          refine zr_getr hX dX5_build_45 (k := 2) (q := 7) rfl rfl ww_201 rfl ?_
          refine zr_iconst hX dX5_build_48 (zrl rfl) ?_
          refine zr_callV hX dX5_build_49 (m_Y_hasRoomFor rfl) rfl rfl rfl (z5 ww_560 ww_561 ww_562 ww_73 ww_563) hy_X4_hasRoomFor rfl (Nat.le_of_ble_eq_true rfl) (Nat.le_of_ble_eq_true rfl) (Nat.le_of_ble_eq_true rfl) ?_
          refine zr_ifne (tgt := 58) hX dX5_build_52 rfl h (fun h => ?_) (fun h => ?_)
          · refine zr_aload_n hX dX5_build_58 rfl rfl ?_
            refine zr_getr hX dX5_build_59 (k := 2) (q := 7) rfl rfl ww_201 rfl ?_
            refine zP_bind h (fun q2 hq2 h => ?_)
            refine zr_callV hX dX5_build_62 (m_Y_noteDeed rfl hq2) rfl rfl rfl (z5 ww_564 ww_565 ww_566 ww_73 ww_567) hy_X4_noteDeed rfl (Nat.le_of_ble_eq_true rfl) (Nat.le_of_ble_eq_true rfl) (Nat.le_of_ble_eq_true rfl) ?_
            refine zr_aload_n hX dX5_build_65 rfl rfl ?_
            refine zr_getr hX dX5_build_66 (k := 2) (q := 7) rfl rfl ww_201 rfl ?_
            refine zr_getrN hX dX5_build_69 (k := 0) (q := 8) rfl rfl nf_X5_125 rfl ?_
            refine zr_iload_n hX dX5_build_72 rfl rfl ?_
            refine zr_iload_n hX dX5_build_73 rfl rfl ?_
            refine zr_iload_n hX dX5_build_74 rfl rfl ?_
            refine zP_bind h (fun q3 hq3 h => ?_)
            refine zr_callV hX dX5_build_75 (m_R_push rfl hq3) rfl rfl rfl (z5 ww_365 ww_366 ww_367 ww_74 ww_368) hy_X1_push rfl (Nat.le_of_ble_eq_true rfl) (Nat.le_of_ble_eq_true rfl) (Nat.le_of_ble_eq_true rfl) ?_
            refine zr_pop hX dX5_build_78 rfl ?_
            refine zr_aload_n hX dX5_build_79 rfl rfl ?_
            refine zr_getr hX dX5_build_80 (k := 2) (q := 7) rfl rfl ww_201 rfl ?_
            refine zr_getrN hX dX5_build_83 (k := 0) (q := 8) rfl rfl nf_X5_125 rfl ?_
            refine zr_iload_n hX dX5_build_86 rfl rfl ?_
            refine zP_bind h (fun q4 hq4 h => ?_)
            refine zr_callV hX dX5_build_87 (m_R_heightOf rfl hq4) rfl rfl rfl (z5 ww_422 ww_359 ww_360 ww_74 ww_361) hy_X1_heightOf rfl (Nat.le_of_ble_eq_true rfl) (Nat.le_of_ble_eq_true rfl) (Nat.le_of_ble_eq_true rfl) ?_
            refine zr_iconst hX dX5_build_90 (zrl rfl) ?_
            refine zr_isub hX dX5_build_91 ?_
            exact zr_iret hX dX5_build_92 hF h
          · refine zr_bipush hX dX5_build_55 rfl ?_
            exact zr_iret hX dX5_build_57 hF h
      · refine zr_iconst hX dX5_build_28 (zrl rfl) ?_
        exact zr_iret hX dX5_build_29 hF h
set_option maxRecDepth 100000 in
theorem m_X_build {l : Launch} {G : zG} {v1 : Int} {v2 : Int} {v3 : Int} {μ : zM} {q : Int × zM} (hq : f_X_build v1 v2 v3 μ = some q) : zCT l G yX5_build cX5_build 4 (some .int) 4 [zR 0, zI v1, zI v2, zI v3] μ (some (zI q.1)) q.2 := by
  refine zMet (lv := [some (zR 0), some (zI v1), some (zI v2), some (zI v3)]) (k := 0) pl_X5 rfl (Nat.le_of_ble_eq_true rfl) (fun X hl hX hF _ _ => ?_)
  exact w_X_build_e hX hF (zP_of hq rfl)
def k_R_remove (X : zX) (G : zG) (o : Nat) (v1 : Int) (v2 : Int) : (Int × Int × zM) → Prop := fun s => zW X G 5 22 [some (zR o), some (zI v1), none, some (zI s.1), some (zI s.2.1)] [] s.2.2
theorem k_R_remove_22 {X : zX} {G : zG} {o : Nat} {v1 : Int} {v2 : Int} {F : zM → Prop} {v3 v4 : Int} {κ : zM} (h : zP (Sum.elim (k_R_remove X G o v1 v2) F) (some (.inl ((v3, v4, κ))))) : zW X G 5 22 [some (zR o), some (zI v1), none, some (zI v3), some (zI v4)] [] κ := h
set_option maxRecDepth 100000 in
set_option maxHeartbeats 4000000 in
theorem w_R_remove_22 {X : zX} {G : zG} {o : Nat} {v1 : Int} {v2 : Int} {μ : zM} {rv : Option zV} {ν : zM} (hX : zOk X G cX1_remove RX1 5 none 3) (hF : zFin X G rv ν) (ho : zsh o = (0, 1)) {v3 v4 : Int} (h : zP (Sum.elim (k_R_remove X G o v1 v2) (fun r : zM => ((none : Option zV), r) = (rv, ν))) (b_R_remove_22 o v1 v2 v3 v4 μ)) : zW X G 5 22 [some (zR o), some (zI v1), none, some (zI v3), some (zI v4)] [] μ := by
  refine zr_iload hX dX1_remove_22 rfl ?_
  refine zr_iload_n hX dX1_remove_24 rfl rfl ?_
  refine zr_icmpge (tgt := 59) hX dX1_remove_25 rfl h (fun h => ?_) (fun h => ?_)
  · refine zr_aload_n hX dX1_remove_59 rfl rfl ?_
    refine zr_getr hX dX1_remove_60 (k := 3) (q := (o + 2)) ho rfl ww_126 rfl ?_
    refine zr_iload_n hX dX1_remove_63 rfl rfl ?_
    refine zr_bipush hX dX1_remove_64 rfl ?_
    refine zr_imul hX dX1_remove_66 ?_
    refine zr_iload_n hX dX1_remove_67 rfl rfl ?_
    refine zr_iadd hX dX1_remove_68 ?_
    refine zr_iconst hX dX1_remove_69 (zrl rfl) ?_
    refine zr_iast (N := 30) hX dX1_remove_70 (zkid_of zk_1_2 ho) rfl h (fun h => ?_)
    refine zr_aload_n hX dX1_remove_71 rfl rfl ?_
    refine zr_getr hX dX1_remove_72 (k := 2) (q := (o + 1)) ho rfl ww_125 rfl ?_
    refine zr_iload_n hX dX1_remove_75 rfl rfl ?_
    refine zr_dup2 hX dX1_remove_76 rfl rfl ?_
    refine zr_iald (N := 5) hX dX1_remove_77 (zkid_of zk_1_1 ho) rfl h (fun h => ?_)
    refine zr_iconst hX dX1_remove_78 (zrl rfl) ?_
    refine zr_isub hX dX1_remove_79 ?_
    refine zr_iast (N := 5) hX dX1_remove_80 (zkid_of zk_1_1 ho) rfl h (fun h => ?_)
    refine zr_aload_n hX dX1_remove_81 rfl rfl ?_
    refine zr_dup hX dX1_remove_82 rfl ?_
    refine zr_geti hX dX1_remove_83 (k := 1) ho rfl ww_124 ?_
    refine zr_iconst hX dX1_remove_86 (zrl rfl) ?_
    refine zr_isub hX dX1_remove_87 ?_
    refine zr_puti hX dX1_remove_88 (k := 1) ho rfl ww_124 rfl (by decide +kernel) ?_
    exact zr_vret hX dX1_remove_91 hF h
  · refine zr_aload_n hX dX1_remove_28 rfl rfl ?_
    refine zr_iload_n hX dX1_remove_29 rfl rfl ?_
    refine zr_iload hX dX1_remove_30 rfl ?_
    refine zr_aload_n hX dX1_remove_32 rfl rfl ?_
    refine zr_iload_n hX dX1_remove_33 rfl rfl ?_
    refine zr_iload hX dX1_remove_34 rfl ?_
    refine zr_iconst hX dX1_remove_36 (zrl rfl) ?_
    refine zr_iadd hX dX1_remove_37 ?_
    refine zP_bind h (fun q2 hq2 h => ?_)
    refine zr_callV hX dX1_remove_38 (m_R_kindAt ho hq2) ho rfl rfl (z5 ww_396 ww_397 ww_398 ww_74 ww_399) hy_X1_kindAt rfl (Nat.le_of_ble_eq_true rfl) (Nat.le_of_ble_eq_true rfl) (Nat.le_of_ble_eq_true rfl) ?_
    refine zr_aload_n hX dX1_remove_41 rfl rfl ?_
    refine zr_iload_n hX dX1_remove_42 rfl rfl ?_
    refine zr_iload hX dX1_remove_43 rfl ?_
    refine zr_iconst hX dX1_remove_45 (zrl rfl) ?_
    refine zr_iadd hX dX1_remove_46 ?_
    refine zP_bind h (fun q3 hq3 h => ?_)
    refine zr_callV hX dX1_remove_47 (m_R_borneAt ho hq3) ho rfl rfl (z5 ww_400 ww_401 ww_402 ww_74 ww_403) hy_X1_borneAt rfl (Nat.le_of_ble_eq_true rfl) (Nat.le_of_ble_eq_true rfl) (Nat.le_of_ble_eq_true rfl) ?_
    refine zP_bind h (fun q4 hq4 h => ?_)
    refine zr_callV hX dX1_remove_50 (m_R_change ho hq4) ho rfl rfl (z5 ww_370 ww_371 ww_372 ww_74 ww_373) hy_X1_change rfl (Nat.le_of_ble_eq_true rfl) (Nat.le_of_ble_eq_true rfl) (Nat.le_of_ble_eq_true rfl) ?_
    refine zr_iinc hX dX1_remove_53 rfl (Nat.le_of_ble_eq_true rfl) ?_
    refine zr_goto hX dX1_remove_56 (tgt := 22) rfl ?_
    exact zW_lf (k_R_remove_22 h) (And.intro rfl (And.intro rfl (And.intro rfl (And.intro rfl trivial))))
set_option maxRecDepth 100000 in
set_option maxHeartbeats 4000000 in
theorem w_R_remove_e {X : zX} {G : zG} {o : Nat} {v1 : Int} {v2 : Int} {μ : zM} {rv : Option zV} {ν : zM} (hX : zOk X G cX1_remove RX1 5 none 3) (hF : zFin X G rv ν) (ho : zsh o = (0, 1)) (h : zP (Sum.elim (k_R_remove X G o v1 v2) (fun r : zM => ((none : Option zV), r) = (rv, ν))) (e_R_remove o v1 v2 μ)) : zW X G 5 0 [some (zR o), some (zI v1), some (zI v2), none, none] [] μ := by
  refine zr_aload_n hX dX1_remove_0 rfl rfl ?_
  refine zr_iload_n hX dX1_remove_1 rfl rfl ?_
  refine zr_iload_n hX dX1_remove_2 rfl rfl ?_
  refine zP_bind h (fun q1 hq1 h => ?_)
  refine zr_callV hX dX1_remove_3 (m_R_has ho hq1) ho rfl rfl (z5 ww_374 ww_375 ww_376 ww_74 ww_377) hy_X1_has rfl (Nat.le_of_ble_eq_true rfl) (Nat.le_of_ble_eq_true rfl) (Nat.le_of_ble_eq_true rfl) ?_
  refine zr_ifne (tgt := 10) hX dX1_remove_6 rfl h (fun h => ?_) (fun h => ?_)
  · refine zr_aload_n hX dX1_remove_10 rfl rfl ?_
    refine zr_getr hX dX1_remove_11 (k := 2) (q := (o + 1)) ho rfl ww_125 rfl ?_
    refine zr_iload_n hX dX1_remove_14 rfl rfl ?_
    refine zr_iald (N := 5) hX dX1_remove_15 (zkid_of zk_1_1 ho) rfl h (fun h => ?_)
    refine zr_iconst hX dX1_remove_16 (zrl rfl) ?_
    refine zr_isub hX dX1_remove_17 ?_
    refine zr_istore_n hX dX1_remove_18 rfl (Nat.le_of_ble_eq_true rfl) ?_
    refine zr_iload_n hX dX1_remove_19 rfl rfl ?_
    refine zr_istore hX dX1_remove_20 (Nat.le_of_ble_eq_true rfl) ?_
    exact zW_lf (k_R_remove_22 h) (And.intro rfl (And.intro rfl (And.intro rfl (And.intro rfl trivial))))
  · exact zr_vret hX dX1_remove_9 hF h
set_option maxRecDepth 100000 in
theorem m_R_remove {l : Launch} {G : zG} {o : Nat} {v1 : Int} {v2 : Int} {μ : zM} (ho : zsh o = (0, 1)) {q : zM} (hq : f_R_remove o v1 v2 μ = some q) : zCT l G yX1_remove cX1_remove 5 none 3 [zR o, zI v1, zI v2] μ (none) q := by
  refine zMet (lv := [some (zR o), some (zI v1), some (zI v2), none, none]) (k := 2) pl_X1 rfl (Nat.le_of_ble_eq_true rfl) (fun X hl hX hF _ _ => ?_)
  refine w_R_remove_e hX hF ho (zgo_K (r := q) (step := t_R_remove o v1 v2) (fun s h => ?_) rfl hq)
  exact w_R_remove_22 hX hF ho h
set_option maxRecDepth 100000 in
set_option maxHeartbeats 4000000 in
theorem w_X_leave_e {X : zX} {G : zG} {v1 : Int} {v2 : Int} {μ : zM} {rv : Option zV} {ν : zM} (hX : zOk X G cX5_leave RX5 3 (some .int) 4) (hF : zFin X G rv ν) (h : zP (fun r : (Int × zM) => (some (zI r.1), r.2) = (rv, ν)) (f_X_leave v1 v2 μ)) : zW X G 3 0 [some (zR 0), some (zI v1), some (zI v2)] [] μ := by
  refine zr_aload_n hX dX5_leave_0 rfl rfl ?_
  refine zr_iload_n hX dX5_leave_1 rfl rfl ?_
  refine zr_iload_n hX dX5_leave_2 rfl rfl ?_
  refine zr_callV hX dX5_leave_3 (m_X_isNoPlace) rfl rfl rfl (z5 ww_427 ww_429 ww_4 ww_70 ww_430) hy_X5_isNoPlace rfl (Nat.le_of_ble_eq_true rfl) (Nat.le_of_ble_eq_true rfl) (Nat.le_of_ble_eq_true rfl) ?_
  refine zr_ifeq (tgt := 11) hX dX5_leave_6 rfl h (fun h => ?_) (fun h => ?_)
  · refine zr_aload_n hX dX5_leave_11 rfl rfl ?_
    refine zr_getr hX dX5_leave_12 (k := 2) (q := 7) rfl rfl ww_201 rfl ?_
    refine zr_getrN hX dX5_leave_15 (k := 0) (q := 8) rfl rfl nf_X5_125 rfl ?_
    refine zr_iload_n hX dX5_leave_18 rfl rfl ?_
    refine zr_iload_n hX dX5_leave_19 rfl rfl ?_
    refine zP_bind h (fun q1 hq1 h => ?_)
    refine zr_callV hX dX5_leave_20 (m_R_has rfl hq1) rfl rfl rfl (z5 ww_431 ww_375 ww_376 ww_74 ww_377) hy_X1_has rfl (Nat.le_of_ble_eq_true rfl) (Nat.le_of_ble_eq_true rfl) (Nat.le_of_ble_eq_true rfl) ?_
    refine zr_ifne (tgt := 32) hX dX5_leave_23 rfl h (fun h => ?_) (fun h => ?_)
    · refine zr_aload_n hX dX5_leave_32 rfl rfl ?_
      refine zr_getr hX dX5_leave_33 (k := 2) (q := 7) rfl rfl ww_201 rfl ?_
      refine zr_iconst hX dX5_leave_36 (zrl rfl) ?_
      refine zr_callV hX dX5_leave_37 (m_Y_hasRoomFor rfl) rfl rfl rfl (z5 ww_560 ww_561 ww_562 ww_73 ww_563) hy_X4_hasRoomFor rfl (Nat.le_of_ble_eq_true rfl) (Nat.le_of_ble_eq_true rfl) (Nat.le_of_ble_eq_true rfl) ?_
      refine zr_ifne (tgt := 46) hX dX5_leave_40 rfl h (fun h => ?_) (fun h => ?_)
      · refine zr_aload_n hX dX5_leave_46 rfl rfl ?_
        refine zr_getr hX dX5_leave_47 (k := 2) (q := 7) rfl rfl ww_201 rfl ?_
        refine zP_bind h (fun q2 hq2 h => ?_)
        refine zr_callV hX dX5_leave_50 (m_Y_noteDeed rfl hq2) rfl rfl rfl (z5 ww_564 ww_565 ww_566 ww_73 ww_567) hy_X4_noteDeed rfl (Nat.le_of_ble_eq_true rfl) (Nat.le_of_ble_eq_true rfl) (Nat.le_of_ble_eq_true rfl) ?_
        refine zr_aload_n hX dX5_leave_53 rfl rfl ?_
        refine zr_getr hX dX5_leave_54 (k := 2) (q := 7) rfl rfl ww_201 rfl ?_
        refine zr_getrN hX dX5_leave_57 (k := 0) (q := 8) rfl rfl nf_X5_125 rfl ?_
        refine zr_iload_n hX dX5_leave_60 rfl rfl ?_
        refine zr_iload_n hX dX5_leave_61 rfl rfl ?_
        refine zP_bind h (fun q3 hq3 h => ?_)
        refine zr_callV hX dX5_leave_62 (m_R_remove rfl hq3) rfl rfl rfl (z5 ww_578 ww_579 ww_580 ww_74 ww_581) hy_X1_remove rfl (Nat.le_of_ble_eq_true rfl) (Nat.le_of_ble_eq_true rfl) (Nat.le_of_ble_eq_true rfl) ?_
        refine zr_aload_n hX dX5_leave_65 rfl rfl ?_
        refine zr_getr hX dX5_leave_66 (k := 2) (q := 7) rfl rfl ww_201 rfl ?_
        refine zr_getrN hX dX5_leave_69 (k := 0) (q := 8) rfl rfl nf_X5_125 rfl ?_
        refine zr_iload_n hX dX5_leave_72 rfl rfl ?_
        refine zP_bind h (fun q4 hq4 h => ?_)
        refine zr_callV hX dX5_leave_73 (m_R_heightOf rfl hq4) rfl rfl rfl (z5 ww_422 ww_359 ww_360 ww_74 ww_361) hy_X1_heightOf rfl (Nat.le_of_ble_eq_true rfl) (Nat.le_of_ble_eq_true rfl) (Nat.le_of_ble_eq_true rfl) ?_
        refine zr_iload_n hX dX5_leave_76 rfl rfl ?_
        refine zr_isub hX dX5_leave_77 ?_
        exact zr_iret hX dX5_leave_78 hF h
      · refine zr_bipush hX dX5_leave_43 rfl ?_
        exact zr_iret hX dX5_leave_45 hF h
    · refine zr_aload_n hX dX5_leave_26 rfl rfl ?_
      refine zr_iconst hX dX5_leave_27 (zrl rfl) ?_
      refine zP_bind h (fun q5 hq5 h => ?_)
      refine zr_callV hX dX5_leave_28 (m_X_found hq5) rfl rfl rfl (z5 ww_244 ww_246 ww_0 ww_70 ww_247) hy_X5_found rfl (Nat.le_of_ble_eq_true rfl) (Nat.le_of_ble_eq_true rfl) (Nat.le_of_ble_eq_true rfl) ?_
      exact zr_iret hX dX5_leave_31 hF h
  · refine zr_iconst hX dX5_leave_9 (zrl rfl) ?_
    exact zr_iret hX dX5_leave_10 hF h
set_option maxRecDepth 100000 in
theorem m_X_leave {l : Launch} {G : zG} {v1 : Int} {v2 : Int} {μ : zM} {q : Int × zM} (hq : f_X_leave v1 v2 μ = some q) : zCT l G yX5_leave cX5_leave 3 (some .int) 4 [zR 0, zI v1, zI v2] μ (some (zI q.1)) q.2 := by
  refine zMet (lv := [some (zR 0), some (zI v1), some (zI v2)]) (k := 0) pl_X5 rfl (Nat.le_of_ble_eq_true rfl) (fun X hl hX hF _ _ => ?_)
  exact w_X_leave_e hX hF (zP_of hq rfl)
def k_R_housesIn (X : zX) (G : zG) (o : Nat) (v1 : Int) (μ : zM) : (Int × Int) → Prop := fun s => zW X G 5 4 [some (zR o), some (zI v1), some (zI s.1), some (zI s.2), none] [] μ
theorem k_R_housesIn_4 {X : zX} {G : zG} {o : Nat} {v1 : Int} {μ : zM} {F : Int → Prop} {v2 v3 : Int} (h : zP (Sum.elim (k_R_housesIn X G o v1 μ) F) (some (.inl ((v2, v3))))) : zW X G 5 4 [some (zR o), some (zI v1), some (zI v2), some (zI v3), none] [] μ := h
set_option maxRecDepth 100000 in
set_option maxHeartbeats 4000000 in
theorem w_R_housesIn_4 {X : zX} {G : zG} {o : Nat} {v1 : Int} {μ : zM} {rv : Option zV} {ν : zM} (hX : zOk X G cX1_housesIn RX1 5 (some .int) 1) (hF : zFin X G rv ν) (ho : zsh o = (0, 1)) {v2 v3 : Int} (h : zP (Sum.elim (k_R_housesIn X G o v1 μ) (fun r : Int => (some (zI r), μ) = (rv, ν))) (b_R_housesIn_4 o v1 v2 v3 μ)) : zW X G 5 4 [some (zR o), some (zI v1), some (zI v2), some (zI v3), none] [] μ := by
  refine zr_iload_n hX dX1_housesIn_4 rfl rfl ?_
  refine zr_bipush hX dX1_housesIn_5 rfl ?_
  refine zr_icmpge (tgt := 52) hX dX1_housesIn_7 rfl h (fun h => ?_) (fun h => ?_)
  · refine zr_iload_n hX dX1_housesIn_52 rfl rfl ?_
    exact zr_iret hX dX1_housesIn_53 hF h
  · refine zr_iload_n hX dX1_housesIn_10 rfl rfl ?_
    refine zr_bipush hX dX1_housesIn_11 rfl ?_
    refine zr_imul hX dX1_housesIn_13 ?_
    refine zr_iload_n hX dX1_housesIn_14 rfl rfl ?_
    refine zr_iadd hX dX1_housesIn_15 ?_
    refine zr_istore hX dX1_housesIn_16 (Nat.le_of_ble_eq_true rfl) ?_
    refine zr_iload hX dX1_housesIn_18 rfl ?_
    refine zr_iflt (tgt := 46) hX dX1_housesIn_20 rfl h (fun h => ?_) (fun h => ?_)
    · refine zr_iinc hX dX1_housesIn_46 rfl (Nat.le_of_ble_eq_true rfl) ?_
      refine zr_goto hX dX1_housesIn_49 (tgt := 4) rfl ?_
      exact zW_lf (k_R_housesIn_4 h) (And.intro rfl (And.intro rfl (And.intro rfl (And.intro rfl trivial))))
    · refine zr_iload hX dX1_housesIn_23 rfl ?_
      refine zr_aload_n hX dX1_housesIn_25 rfl rfl ?_
      refine zr_getr hX dX1_housesIn_26 (k := 3) (q := (o + 2)) ho rfl ww_126 rfl ?_
      refine zr_alen hX dX1_housesIn_29 (N := 30) (zkid_of zk_1_2 ho) rfl (zrl rfl) ?_
      refine zr_icmpge (tgt := 46) hX dX1_housesIn_30 rfl h (fun h => ?_) (fun h => ?_)
      · refine zr_iinc hX dX1_housesIn_46 rfl (Nat.le_of_ble_eq_true rfl) ?_
        refine zr_goto hX dX1_housesIn_49 (tgt := 4) rfl ?_
        exact zW_lf (k_R_housesIn_4 h) (And.intro rfl (And.intro rfl (And.intro rfl (And.intro rfl trivial))))
      · refine zr_aload_n hX dX1_housesIn_33 rfl rfl ?_
        refine zr_getr hX dX1_housesIn_34 (k := 3) (q := (o + 2)) ho rfl ww_126 rfl ?_
        refine zr_iload hX dX1_housesIn_37 rfl ?_
        refine zr_iald (N := 30) hX dX1_housesIn_39 (zkid_of zk_1_2 ho) rfl h (fun h => ?_)
        refine zr_ifeq (tgt := 46) hX dX1_housesIn_40 rfl h (fun h => ?_) (fun h => ?_)
        · refine zr_iinc hX dX1_housesIn_46 rfl (Nat.le_of_ble_eq_true rfl) ?_
          refine zr_goto hX dX1_housesIn_49 (tgt := 4) rfl ?_
          exact zW_lf (k_R_housesIn_4 h) (And.intro rfl (And.intro rfl (And.intro rfl (And.intro rfl trivial))))
        · refine zr_iinc hX dX1_housesIn_43 rfl (Nat.le_of_ble_eq_true rfl) ?_
          refine zr_iinc hX dX1_housesIn_46 rfl (Nat.le_of_ble_eq_true rfl) ?_
          refine zr_goto hX dX1_housesIn_49 (tgt := 4) rfl ?_
          exact zW_lf (k_R_housesIn_4 h) (And.intro rfl (And.intro rfl (And.intro rfl (And.intro rfl trivial))))
set_option maxRecDepth 100000 in
set_option maxHeartbeats 4000000 in
theorem w_R_housesIn_e {X : zX} {G : zG} {o : Nat} {v1 : Int} {μ : zM} {rv : Option zV} {ν : zM} (hX : zOk X G cX1_housesIn RX1 5 (some .int) 1) (hF : zFin X G rv ν) (ho : zsh o = (0, 1)) (h : zP (Sum.elim (k_R_housesIn X G o v1 μ) (fun r : Int => (some (zI r), μ) = (rv, ν))) (e_R_housesIn o v1 μ)) : zW X G 5 0 [some (zR o), some (zI v1), none, none, none] [] μ := by
  refine zr_iconst hX dX1_housesIn_0 (zrl rfl) ?_
  refine zr_istore_n hX dX1_housesIn_1 rfl (Nat.le_of_ble_eq_true rfl) ?_
  refine zr_iconst hX dX1_housesIn_2 (zrl rfl) ?_
  refine zr_istore_n hX dX1_housesIn_3 rfl (Nat.le_of_ble_eq_true rfl) ?_
  exact zW_lf (k_R_housesIn_4 h) (And.intro rfl (And.intro rfl (And.intro rfl (And.intro rfl trivial))))
set_option maxRecDepth 100000 in
theorem m_R_housesIn {l : Launch} {G : zG} {o : Nat} {v1 : Int} {μ : zM} (ho : zsh o = (0, 1)) {q : Int} (hq : f_R_housesIn o v1 μ = some q) : zCT l G yX1_housesIn cX1_housesIn 5 (some .int) 1 [zR o, zI v1] μ (some (zI q)) μ := by
  refine zMet (lv := [some (zR o), some (zI v1), none, none, none]) (k := 3) pl_X1 rfl (Nat.le_of_ble_eq_true rfl) (fun X hl hX hF _ _ => ?_)
  refine w_R_housesIn_e hX hF ho (zgo_K (r := q) (step := t_R_housesIn o v1 μ) (fun s h => ?_) rfl hq)
  exact w_R_housesIn_4 hX hF ho h
def k_R_loadFrom (X : zX) (G : zG) (o : Nat) (o1 : Nat) (v2 : Int) : (Int × zM) → Prop := fun s => zW X G 4 33 [some (zR o), none, none, some (zI s.1)] [] s.2
theorem k_R_loadFrom_33 {X : zX} {G : zG} {o : Nat} {o1 : Nat} {v2 : Int} {F : zM → Prop} {v3 : Int} {κ : zM} (h : zP (Sum.elim (k_R_loadFrom X G o o1 v2) F) (some (.inl ((v3, κ))))) : zW X G 4 33 [some (zR o), none, none, some (zI v3)] [] κ := h
set_option maxRecDepth 100000 in
set_option maxHeartbeats 4000000 in
theorem w_R_loadFrom_33 {X : zX} {G : zG} {o : Nat} {o1 : Nat} {v2 : Int} {μ : zM} {rv : Option zV} {ν : zM} (hX : zOk X G cX1_loadFrom RX1 4 none 2) (hF : zFin X G rv ν) (ho : zsh o = (0, 1)) (ho1 : zsh o1 = (1, (zsh o1).2)) {v3 : Int} (h : zP (Sum.elim (k_R_loadFrom X G o o1 v2) (fun r : zM => ((none : Option zV), r) = (rv, ν))) (b_R_loadFrom_33 o o1 v2 v3 μ)) : zW X G 4 33 [some (zR o), none, none, some (zI v3)] [] μ := by
  refine zr_iload_n hX dX1_loadFrom_33 rfl rfl ?_
  refine zr_aload_n hX dX1_loadFrom_34 rfl rfl ?_
  refine zr_getr hX dX1_loadFrom_35 (k := 2) (q := (o + 1)) ho rfl ww_125 rfl ?_
  refine zr_alen hX dX1_loadFrom_38 (N := 5) (zkid_of zk_1_1 ho) rfl (zrl rfl) ?_
  refine zr_icmpge (tgt := 74) hX dX1_loadFrom_39 rfl h (fun h => ?_) (fun h => ?_)
  · exact zr_vret hX dX1_loadFrom_74 hF h
  · refine zr_aload_n hX dX1_loadFrom_42 rfl rfl ?_
    refine zr_getr hX dX1_loadFrom_43 (k := 2) (q := (o + 1)) ho rfl ww_125 rfl ?_
    refine zr_iload_n hX dX1_loadFrom_46 rfl rfl ?_
    refine zr_aload_n hX dX1_loadFrom_47 rfl rfl ?_
    refine zr_iload_n hX dX1_loadFrom_48 rfl rfl ?_
    refine zP_bind h (fun q1 hq1 h => ?_)
    refine zr_callV hX dX1_loadFrom_49 (m_R_housesIn ho hq1) ho rfl rfl (z5 ww_594 ww_596 ww_13 ww_74 ww_597) hy_X1_housesIn rfl (Nat.le_of_ble_eq_true rfl) (Nat.le_of_ble_eq_true rfl) (Nat.le_of_ble_eq_true rfl) ?_
    refine zr_iast (N := 5) hX dX1_loadFrom_52 (zkid_of zk_1_1 ho) rfl h (fun h => ?_)
    refine zr_aload_n hX dX1_loadFrom_53 rfl rfl ?_
    refine zr_dup hX dX1_loadFrom_54 rfl ?_
    refine zr_geti hX dX1_loadFrom_55 (k := 1) ho rfl ww_124 ?_
    refine zr_aload_n hX dX1_loadFrom_58 rfl rfl ?_
    refine zr_getr hX dX1_loadFrom_59 (k := 2) (q := (o + 1)) ho rfl ww_125 rfl ?_
    refine zr_iload_n hX dX1_loadFrom_62 rfl rfl ?_
    refine zr_iald (N := 5) hX dX1_loadFrom_63 (zkid_of zk_1_1 ho) rfl h (fun h => ?_)
    refine zr_iadd hX dX1_loadFrom_64 ?_
    refine zr_puti hX dX1_loadFrom_65 (k := 1) ho rfl ww_124 rfl (by decide +kernel) ?_
    refine zr_iinc hX dX1_loadFrom_68 rfl (Nat.le_of_ble_eq_true rfl) ?_
    refine zr_goto hX dX1_loadFrom_71 (tgt := 33) rfl ?_
    exact zW_lf (k_R_loadFrom_33 h) (And.intro rfl (And.intro rfl trivial))
set_option maxRecDepth 100000 in
set_option maxHeartbeats 4000000 in
theorem w_R_loadFrom_e {X : zX} {G : zG} {o : Nat} {o1 : Nat} {v2 : Int} {μ : zM} {rv : Option zV} {ν : zM} (hX : zOk X G cX1_loadFrom RX1 4 none 2) (hF : zFin X G rv ν) (ho : zsh o = (0, 1)) (ho1 : zsh o1 = (1, (zsh o1).2)) (h : zP (Sum.elim (k_R_loadFrom X G o o1 v2) (fun r : zM => ((none : Option zV), r) = (rv, ν))) (e_R_loadFrom o o1 v2 μ)) : zW X G 4 0 [some (zR o), some (zR o1), some (zI v2), none] [] μ := by
  refine zr_iload_n hX dX1_loadFrom_0 rfl rfl ?_
  refine zr_iflt (tgt := 13) hX dX1_loadFrom_1 rfl h (fun h => ?_) (fun h => ?_)
  · exact zr_vret hX dX1_loadFrom_13 hF h
  · refine zr_iload_n hX dX1_loadFrom_4 rfl rfl ?_
    refine zr_aload_n hX dX1_loadFrom_5 rfl rfl ?_
    refine zr_alen hX dX1_loadFrom_6 (N := zsz o1) ho1 rfl (zsz_r _) ?_
    refine zr_bipush hX dX1_loadFrom_7 rfl ?_
    refine zr_isub hX dX1_loadFrom_9 ?_
    refine zr_icmple (tgt := 14) hX dX1_loadFrom_10 rfl h (fun h => ?_) (fun h => ?_)
    · refine zr_aload_n hX dX1_loadFrom_14 rfl rfl ?_
      refine zr_iload_n hX dX1_loadFrom_15 rfl rfl ?_
      refine zr_aload_n hX dX1_loadFrom_16 rfl rfl ?_
      refine zr_getr hX dX1_loadFrom_17 (k := 3) (q := (o + 2)) ho rfl ww_126 rfl ?_
      refine zr_iconst hX dX1_loadFrom_20 (zrl rfl) ?_
      refine zr_bipush hX dX1_loadFrom_21 rfl ?_
      refine zr_copy (Na := zsz o1) (Nb := 30) hX dX1_loadFrom_23 (by decide +kernel) ho1 (zkid_of zk_1_2 ho) rfl rfl (Nat.le_of_ble_eq_true rfl) (Nat.le_of_ble_eq_true rfl) h (fun h => ?_)
      refine zr_aload_n hX dX1_loadFrom_26 rfl rfl ?_
      refine zr_iconst hX dX1_loadFrom_27 (zrl rfl) ?_
      refine zr_puti hX dX1_loadFrom_28 (k := 1) ho rfl ww_124 rfl (by decide +kernel) ?_
      refine zr_iconst hX dX1_loadFrom_31 (zrl rfl) ?_
      refine zr_istore_n hX dX1_loadFrom_32 rfl (Nat.le_of_ble_eq_true rfl) ?_
      exact zW_lf (k_R_loadFrom_33 h) (And.intro rfl (And.intro rfl trivial))
    · exact zr_vret hX dX1_loadFrom_13 hF h
set_option maxRecDepth 100000 in
theorem m_R_loadFrom {l : Launch} {G : zG} {o : Nat} {o1 : Nat} {v2 : Int} {μ : zM} (ho : zsh o = (0, 1)) (ho1 : zsh o1 = (1, (zsh o1).2)) {q : zM} (hq : f_R_loadFrom o o1 v2 μ = some q) : zCT l G yX1_loadFrom cX1_loadFrom 4 none 2 [zR o, zR o1, zI v2] μ (none) q := by
  refine zMet (lv := [some (zR o), some (zR o1), some (zI v2), none]) (k := 1) pl_X1 rfl (Nat.le_of_ble_eq_true rfl) (fun X hl hX hF _ _ => ?_)
  refine w_R_loadFrom_e hX hF ho ho1 (zgo_K (r := q) (step := t_R_loadFrom o o1 v2) (fun s h => ?_) rfl hq)
  exact w_R_loadFrom_33 hX hF ho ho1 h
set_option maxRecDepth 100000 in
set_option maxHeartbeats 4000000 in
theorem w_Y_goBackTo_e {X : zX} {G : zG} {o : Nat} {v1 : Int} {μ : zM} {rv : Option zV} {ν : zM} (hX : zOk X G cX4_goBackTo RX4 2 none 3) (hF : zFin X G rv ν) (ho : zsh o = (0, 4)) (h : zP (fun r : zM => ((none : Option zV), r) = (rv, ν)) (f_Y_goBackTo o v1 μ)) : zW X G 2 0 [some (zR o), some (zI v1)] [] μ := by
  refine zr_iload_n hX dX4_goBackTo_0 rfl rfl ?_
  refine zr_iflt (tgt := 32) hX dX4_goBackTo_1 rfl h (fun h => ?_) (fun h => ?_)
  · exact zr_vret hX dX4_goBackTo_32 hF h
  · refine zr_iload_n hX dX4_goBackTo_4 rfl rfl ?_
    refine zr_aload_n hX dX4_goBackTo_5 rfl rfl ?_
    refine zr_geti hX dX4_goBackTo_6 (k := 2) ho rfl ww_139 ?_
    refine zr_icmpge (tgt := 32) hX dX4_goBackTo_9 rfl h (fun h => ?_) (fun h => ?_)
    · exact zr_vret hX dX4_goBackTo_32 hF h
    · refine zr_aload_n hX dX4_goBackTo_12 rfl rfl ?_
      refine zr_getr hX dX4_goBackTo_13 (k := 0) (q := (o + 1)) ho rfl ww_136 rfl ?_
      refine zr_aload_n hX dX4_goBackTo_16 rfl rfl ?_
      refine zr_getr hX dX4_goBackTo_17 (k := 1) (q := (o + 4)) ho rfl ww_138 rfl ?_
      refine zr_iload_n hX dX4_goBackTo_20 rfl rfl ?_
      refine zr_bipush hX dX4_goBackTo_21 rfl ?_
      refine zr_imul hX dX4_goBackTo_23 ?_
      refine zP_bind h (fun q1 hq1 h => ?_)
      refine zr_callV hX dX4_goBackTo_24 (m_R_loadFrom (zkid_of zk_4_1 ho) (zarr (zkid_of zk_4_4 ho)) hq1) (zkid_of zk_4_1 ho) rfl rfl (z5 ww_590 ww_591 ww_592 ww_74 ww_593) hy_X1_loadFrom rfl (Nat.le_of_ble_eq_true rfl) (Nat.le_of_ble_eq_true rfl) (Nat.le_of_ble_eq_true rfl) ?_
      refine zr_aload_n hX dX4_goBackTo_27 rfl rfl ?_
      refine zr_iload_n hX dX4_goBackTo_28 rfl rfl ?_
      refine zr_puti hX dX4_goBackTo_29 (k := 2) ho rfl ww_139 rfl (by decide +kernel) ?_
      exact zr_vret hX dX4_goBackTo_32 hF h
set_option maxRecDepth 100000 in
theorem m_Y_goBackTo {l : Launch} {G : zG} {o : Nat} {v1 : Int} {μ : zM} (ho : zsh o = (0, 4)) {q : zM} (hq : f_Y_goBackTo o v1 μ = some q) : zCT l G yX4_goBackTo cX4_goBackTo 2 none 3 [zR o, zI v1] μ (none) q := by
  refine zMet (lv := [some (zR o), some (zI v1)]) (k := 0) pl_X4 rfl (Nat.le_of_ble_eq_true rfl) (fun X hl hX hF _ _ => ?_)
  exact w_Y_goBackTo_e hX hF ho (zP_of hq rfl)
set_option maxRecDepth 100000 in
set_option maxHeartbeats 4000000 in
theorem w_X_undo_e {X : zX} {G : zG} {v1 : Int} {μ : zM} {rv : Option zV} {ν : zM} (hX : zOk X G cX5_undo RX5 3 (some .int) 4) (hF : zFin X G rv ν) (h : zP (fun r : (Int × zM) => (some (zI r.1), r.2) = (rv, ν)) (f_X_undo v1 μ)) : zW X G 3 0 [some (zR 0), some (zI v1), none] [] μ := by
  refine zr_iload_n hX dX5_undo_0 rfl rfl ?_
  refine zr_iflt (tgt := 15) hX dX5_undo_1 rfl h (fun h => ?_) (fun h => ?_)
  · refine zr_iconst hX dX5_undo_15 (zrl rfl) ?_
    exact zr_iret hX dX5_undo_16 hF h
  · refine zr_iload_n hX dX5_undo_4 rfl rfl ?_
    refine zr_aload_n hX dX5_undo_5 rfl rfl ?_
    refine zr_getr hX dX5_undo_6 (k := 2) (q := 7) rfl rfl ww_201 rfl ?_
    refine zr_getiN hX dX5_undo_9 (k := 2) rfl rfl nf_X5_182 ?_
    refine zr_icmple (tgt := 17) hX dX5_undo_12 rfl h (fun h => ?_) (fun h => ?_)
    · refine zr_aload_n hX dX5_undo_17 rfl rfl ?_
      refine zr_getr hX dX5_undo_18 (k := 2) (q := 7) rfl rfl ww_201 rfl ?_
      refine zr_getiN hX dX5_undo_21 (k := 2) rfl rfl nf_X5_182 ?_
      refine zr_iload_n hX dX5_undo_24 rfl rfl ?_
      refine zr_isub hX dX5_undo_25 ?_
      refine zr_istore_n hX dX5_undo_26 rfl (Nat.le_of_ble_eq_true rfl) ?_
      refine zr_aload_n hX dX5_undo_27 rfl rfl ?_
      refine zr_getr hX dX5_undo_28 (k := 2) (q := 7) rfl rfl ww_201 rfl ?_
      refine zr_iload_n hX dX5_undo_31 rfl rfl ?_
      refine zP_bind h (fun q1 hq1 h => ?_)
      refine zr_callV hX dX5_undo_32 (m_Y_goBackTo rfl hq1) rfl rfl rfl (z5 ww_586 ww_587 ww_588 ww_73 ww_589) hy_X4_goBackTo rfl (Nat.le_of_ble_eq_true rfl) (Nat.le_of_ble_eq_true rfl) (Nat.le_of_ble_eq_true rfl) ?_
      refine zr_iload_n hX dX5_undo_35 rfl rfl ?_
      exact zr_iret hX dX5_undo_36 hF h
    · refine zr_iconst hX dX5_undo_15 (zrl rfl) ?_
      exact zr_iret hX dX5_undo_16 hF h
set_option maxRecDepth 100000 in
theorem m_X_undo {l : Launch} {G : zG} {v1 : Int} {μ : zM} {q : Int × zM} (hq : f_X_undo v1 μ = some q) : zCT l G yX5_undo cX5_undo 3 (some .int) 4 [zR 0, zI v1] μ (some (zI q.1)) q.2 := by
  refine zMet (lv := [some (zR 0), some (zI v1), none]) (k := 1) pl_X5 rfl (Nat.le_of_ble_eq_true rfl) (fun X hl hX hF _ _ => ?_)
  exact w_X_undo_e hX hF (zP_of hq rfl)
set_option maxRecDepth 100000 in
set_option maxHeartbeats 4000000 in
theorem w_Y_takeFrom_e {X : zX} {G : zG} {o : Nat} {o1 : Nat} {μ : zM} {rv : Option zV} {ν : zM} (hX : zOk X G cX4_takeFrom RX4 2 none 6) (hF : zFin X G rv ν) (ho : zsh o = (0, 4)) (ho1 : zsh o1 = (0, 4)) (h : zP (fun r : zM => ((none : Option zV), r) = (rv, ν)) (f_Y_takeFrom o o1 μ)) : zW X G 2 0 [some (zR o), some (zR o1)] [] μ := by
  refine zr_aload_n hX dX4_takeFrom_0 rfl rfl ?_
  refine zr_getr hX dX4_takeFrom_1 (k := 0) (q := (o + 1)) ho rfl ww_136 rfl ?_
  refine zr_aload_n hX dX4_takeFrom_4 rfl rfl ?_
  refine zr_getr hX dX4_takeFrom_5 (k := 0) (q := (o1 + 1)) ho1 rfl ww_136 rfl ?_
  refine zP_bind h (fun q1 hq1 h => ?_)
  refine zr_callV hX dX4_takeFrom_8 (m_R_takeFrom (zkid_of zk_4_1 ho) (zkid_of zk_4_1 ho1) hq1) (zkid_of zk_4_1 ho) rfl rfl (z5 ww_386 ww_387 ww_388 ww_74 ww_389) hy_X1_takeFrom rfl (Nat.le_of_ble_eq_true rfl) (Nat.le_of_ble_eq_true rfl) (Nat.le_of_ble_eq_true rfl) ?_
  refine zr_aload_n hX dX4_takeFrom_11 rfl rfl ?_
  refine zr_aload_n hX dX4_takeFrom_12 rfl rfl ?_
  refine zr_geti hX dX4_takeFrom_13 (k := 2) ho1 rfl ww_139 ?_
  refine zr_puti hX dX4_takeFrom_16 (k := 2) ho rfl ww_139 rfl (by decide +kernel) ?_
  refine zr_aload_n hX dX4_takeFrom_19 rfl rfl ?_
  refine zr_getr hX dX4_takeFrom_20 (k := 1) (q := (o1 + 4)) ho1 rfl ww_138 rfl ?_
  refine zr_iconst hX dX4_takeFrom_23 (zrl rfl) ?_
  refine zr_aload_n hX dX4_takeFrom_24 rfl rfl ?_
  refine zr_getr hX dX4_takeFrom_25 (k := 1) (q := (o + 4)) ho rfl ww_138 rfl ?_
  refine zr_iconst hX dX4_takeFrom_28 (zrl rfl) ?_
  refine zr_aload_n hX dX4_takeFrom_29 rfl rfl ?_
  refine zr_getr hX dX4_takeFrom_30 (k := 1) (q := (o + 4)) ho rfl ww_138 rfl ?_
  refine zr_alen hX dX4_takeFrom_33 (N := 1200) (zkid_of zk_4_4 ho) rfl (zrl rfl) ?_
  refine zr_copy (Na := 1200) (Nb := 1200) hX dX4_takeFrom_34 (by decide +kernel) (zkid_of zk_4_4 ho1) (zkid_of zk_4_4 ho) rfl rfl (Nat.le_of_ble_eq_true rfl) (Nat.le_of_ble_eq_true rfl) h (fun h => ?_)
  exact zr_vret hX dX4_takeFrom_37 hF h
set_option maxRecDepth 100000 in
theorem m_Y_takeFrom {l : Launch} {G : zG} {o : Nat} {o1 : Nat} {μ : zM} (ho : zsh o = (0, 4)) (ho1 : zsh o1 = (0, 4)) {q : zM} (hq : f_Y_takeFrom o o1 μ = some q) : zCT l G yX4_takeFrom cX4_takeFrom 2 none 6 [zR o, zR o1] μ (none) q := by
  refine zMet (lv := [some (zR o), some (zR o1)]) (k := 0) pl_X4 rfl (Nat.le_of_ble_eq_true rfl) (fun X hl hX hF _ _ => ?_)
  exact w_Y_takeFrom_e hX hF ho ho1 (zP_of hq rfl)
set_option maxRecDepth 100000 in
set_option maxHeartbeats 4000000 in
theorem w_X_keep_e {X : zX} {G : zG} {v1 : Int} {μ : zM} {rv : Option zV} {ν : zM} (hX : zOk X G cX5_keep RX5 3 (some .int) 7) (hF : zFin X G rv ν) (h : zP (fun r : (Int × zM) => (some (zI r.1), r.2) = (rv, ν)) (f_X_keep v1 μ)) : zW X G 3 0 [some (zR 0), some (zI v1), none] [] μ := by
  refine zr_aload_n hX dX5_keep_0 rfl rfl ?_
  refine zr_iload_n hX dX5_keep_1 rfl rfl ?_
  refine zP_bind h (fun q1 hq1 h => ?_)
  refine zr_callV hX dX5_keep_2 (m_X_keptAt hq1) rfl rfl rfl (z5 ww_409 ww_411 ww_3 ww_70 ww_412) hy_X5_keptAt rfl (Nat.le_of_ble_eq_true rfl) (Nat.le_of_ble_eq_true rfl) (Nat.le_of_ble_eq_true rfl) ?_
  refine zr_astore_nN hX dX5_keep_5 rfl (Nat.le_of_ble_eq_true rfl) ?_
  refine zr_aload_nN hX dX5_keep_6 rfl rfl ?_
  refine zr_ifnonnull (tgt := 12) hX dX5_keep_7 rfl h (fun o_2 hn2 h => ?_) (fun _ h => ?_)
  · refine zr_aload_n hX dX5_keep_12 rfl rfl ?_
    refine zr_getr hX dX5_keep_13 (k := 2) (q := 7) rfl rfl ww_201 rfl ?_
    refine zr_getrN hX dX5_keep_16 (k := 0) (q := 8) rfl rfl nf_X5_125 rfl ?_
    refine zr_callV hX dX5_keep_19 (m_R_towerCount rfl) rfl rfl rfl (z5 ww_341 ww_342 ww_343 ww_74 ww_344) hy_X1_towerCount rfl (Nat.le_of_ble_eq_true rfl) (Nat.le_of_ble_eq_true rfl) (Nat.le_of_ble_eq_true rfl) ?_
    refine zr_ifne (tgt := 28) hX dX5_keep_22 rfl h (fun h => ?_) (fun h => ?_)
    · refine zr_aload_nN hX dX5_keep_28 rfl rfl ?_
      refine zW_nr hn2 ?_
      refine zr_aload_n hX dX5_keep_29 rfl rfl ?_
      refine zr_getr hX dX5_keep_30 (k := 2) (q := 7) rfl rfl ww_201 rfl ?_
      refine zP_bind h (fun q3 hq3 h => ?_)
      refine zr_callV hX dX5_keep_33 (m_Y_takeFrom (f_X_keptAt_sh hq1 hn2) rfl hq3) (f_X_keptAt_sh hq1 hn2) rfl rfl (z5 ww_602 ww_603 ww_604 ww_73 ww_605) hy_X4_takeFrom rfl (Nat.le_of_ble_eq_true rfl) (Nat.le_of_ble_eq_true rfl) (Nat.le_of_ble_eq_true rfl) ?_
      refine zr_aload_n hX dX5_keep_36 rfl rfl ?_
      refine zr_getr hX dX5_keep_37 (k := 2) (q := 7) rfl rfl ww_201 rfl ?_
      refine zr_getiN hX dX5_keep_40 (k := 2) rfl rfl nf_X5_182 ?_
      exact zr_iret hX dX5_keep_43 hF h
    · refine zr_bipush hX dX5_keep_25 rfl ?_
      exact zr_iret hX dX5_keep_27 hF h
  · refine zr_iconst hX dX5_keep_10 (zrl rfl) ?_
    exact zr_iret hX dX5_keep_11 hF h
set_option maxRecDepth 100000 in
theorem m_X_keep {l : Launch} {G : zG} {v1 : Int} {μ : zM} {q : Int × zM} (hq : f_X_keep v1 μ = some q) : zCT l G yX5_keep cX5_keep 3 (some .int) 7 [zR 0, zI v1] μ (some (zI q.1)) q.2 := by
  refine zMet (lv := [some (zR 0), some (zI v1), none]) (k := 1) pl_X5 rfl (Nat.le_of_ble_eq_true rfl) (fun X hl hX hF _ _ => ?_)
  exact w_X_keep_e hX hF (zP_of hq rfl)
set_option maxRecDepth 100000 in
set_option maxHeartbeats 4000000 in
theorem w_Y_isThere_e {X : zX} {G : zG} {o : Nat} {μ : zM} {rv : Option zV} {ν : zM} (hX : zOk X G cX4_isThere RX4 1 (some .boolean) 1) (hF : zFin X G rv ν) (ho : zsh o = (0, 4)) (h : zP (fun r : Int => (some (zI r), μ) = (rv, ν)) (fo_Y_isThere o μ)) : zW X G 1 0 [some (zR o)] [] μ := by
  refine zr_aload_n hX dX4_isThere_0 rfl rfl ?_
  refine zr_geti hX dX4_isThere_1 (k := 2) ho rfl ww_139 ?_
  refine zr_iflt (tgt := 11) hX dX4_isThere_4 rfl h (fun h => ?_) (fun h => ?_)
  · refine zr_iconst hX dX4_isThere_11 (zrl rfl) ?_
    exact zr_bretc hX dX4_isThere_12 hF (Or.inl rfl) h
  · refine zr_iconst hX dX4_isThere_7 (zrl rfl) ?_
    refine zr_goto hX dX4_isThere_8 (tgt := 12) rfl ?_
    exact zr_bretc hX dX4_isThere_12 hF (Or.inr rfl) h
set_option maxRecDepth 100000 in
theorem m_Y_isThere {l : Launch} {G : zG} {o : Nat} {μ : zM} (ho : zsh o = (0, 4)) : zCT l G yX4_isThere cX4_isThere 1 (some .boolean) 1 [zR o] μ (some (zI (f_Y_isThere o μ))) μ := by
  refine zMet (lv := [some (zR o)]) (k := 0) pl_X4 rfl (Nat.le_of_ble_eq_true rfl) (fun X hl hX hF _ _ => ?_)
  exact w_Y_isThere_e hX hF ho (by rw [fo_Y_isThere_eq]; rfl)
set_option maxRecDepth 100000 in
set_option maxHeartbeats 4000000 in
theorem w_X_on_e {X : zX} {G : zG} {v1 : Int} {μ : zM} {rv : Option zV} {ν : zM} (hX : zOk X G cX5_on RX5 3 (some .int) 7) (hF : zFin X G rv ν) (h : zP (fun r : (Int × zM) => (some (zI r.1), r.2) = (rv, ν)) (f_X_on v1 μ)) : zW X G 3 0 [some (zR 0), some (zI v1), none] [] μ := by
  refine zr_aload_n hX dX5_on_0 rfl rfl ?_
  refine zr_iload_n hX dX5_on_1 rfl rfl ?_
  refine zP_bind h (fun q1 hq1 h => ?_)
  refine zr_callV hX dX5_on_2 (m_X_keptAt hq1) rfl rfl rfl (z5 ww_409 ww_411 ww_3 ww_70 ww_412) hy_X5_keptAt rfl (Nat.le_of_ble_eq_true rfl) (Nat.le_of_ble_eq_true rfl) (Nat.le_of_ble_eq_true rfl) ?_
  refine zr_astore_nN hX dX5_on_5 rfl (Nat.le_of_ble_eq_true rfl) ?_
  refine zr_aload_nN hX dX5_on_6 rfl rfl ?_
  refine zr_ifnonnull (tgt := 12) hX dX5_on_7 rfl h (fun o_2 hn2 h => ?_) (fun _ h => ?_)
  · refine zr_aload_nN hX dX5_on_12 rfl rfl ?_
    refine zW_nr hn2 ?_
    refine zr_callV hX dX5_on_13 (m_Y_isThere (f_X_keptAt_sh hq1 hn2)) (f_X_keptAt_sh hq1 hn2) rfl rfl (z5 ww_611 ww_612 ww_613 ww_73 ww_614) hy_X4_isThere rfl (Nat.le_of_ble_eq_true rfl) (Nat.le_of_ble_eq_true rfl) (Nat.le_of_ble_eq_true rfl) ?_
    refine zr_ifne (tgt := 25) hX dX5_on_16 rfl h (fun h => ?_) (fun h => ?_)
    · refine zr_aload_n hX dX5_on_25 rfl rfl ?_
      refine zr_getr hX dX5_on_26 (k := 2) (q := 7) rfl rfl ww_201 rfl ?_
      refine zr_aload_nN hX dX5_on_29 rfl rfl ?_
      refine zW_nr hn2 ?_
      refine zP_bind h (fun q3 hq3 h => ?_)
      refine zr_callV hX dX5_on_30 (m_Y_takeFrom rfl (f_X_keptAt_sh hq1 hn2) hq3) rfl rfl rfl (z5 ww_602 ww_603 ww_604 ww_73 ww_605) hy_X4_takeFrom rfl (Nat.le_of_ble_eq_true rfl) (Nat.le_of_ble_eq_true rfl) (Nat.le_of_ble_eq_true rfl) ?_
      refine zr_aload_n hX dX5_on_33 rfl rfl ?_
      refine zr_getr hX dX5_on_34 (k := 2) (q := 7) rfl rfl ww_201 rfl ?_
      refine zr_getiN hX dX5_on_37 (k := 2) rfl rfl nf_X5_182 ?_
      exact zr_iret hX dX5_on_40 hF h
    · refine zr_aload_n hX dX5_on_19 rfl rfl ?_
      refine zr_iconst hX dX5_on_20 (zrl rfl) ?_
      refine zP_bind h (fun q4 hq4 h => ?_)
      refine zr_callV hX dX5_on_21 (m_X_found hq4) rfl rfl rfl (z5 ww_244 ww_246 ww_0 ww_70 ww_247) hy_X5_found rfl (Nat.le_of_ble_eq_true rfl) (Nat.le_of_ble_eq_true rfl) (Nat.le_of_ble_eq_true rfl) ?_
      exact zr_iret hX dX5_on_24 hF h
  · refine zr_iconst hX dX5_on_10 (zrl rfl) ?_
    exact zr_iret hX dX5_on_11 hF h
set_option maxRecDepth 100000 in
theorem m_X_on {l : Launch} {G : zG} {v1 : Int} {μ : zM} {q : Int × zM} (hq : f_X_on v1 μ = some q) : zCT l G yX5_on cX5_on 3 (some .int) 7 [zR 0, zI v1] μ (some (zI q.1)) q.2 := by
  refine zMet (lv := [some (zR 0), some (zI v1), none]) (k := 1) pl_X5 rfl (Nat.le_of_ble_eq_true rfl) (fun X hl hX hF _ _ => ?_)
  exact w_X_on_e hX hF (zP_of hq rfl)
set_option maxRecDepth 100000 in
set_option maxHeartbeats 4000000 in
theorem w_X_shades_e {X : zX} {G : zG} {v1 : Int} {v2 : Int} {v3 : Int} {μ : zM} {rv : Option zV} {ν : zM} (hX : zOk X G cX5_shades RX5 4 (some .int) 4) (hF : zFin X G rv ν) (h : zP (fun r : (Int × zM) => (some (zI r.1), r.2) = (rv, ν)) (f_X_shades v1 v2 v3 μ)) : zW X G 4 0 [some (zR 0), some (zI v1), some (zI v2), some (zI v3)] [] μ := by
  refine zr_aload_n hX dX5_shades_0 rfl rfl ?_
  refine zr_iload_n hX dX5_shades_1 rfl rfl ?_
  refine zr_iload_n hX dX5_shades_2 rfl rfl ?_
  refine zr_callV hX dX5_shades_3 (m_X_isNoPlace) rfl rfl rfl (z5 ww_427 ww_429 ww_4 ww_70 ww_430) hy_X5_isNoPlace rfl (Nat.le_of_ble_eq_true rfl) (Nat.le_of_ble_eq_true rfl) (Nat.le_of_ble_eq_true rfl) ?_
  refine zr_ifne (tgt := 18) hX dX5_shades_6 rfl h (fun h => ?_) (fun h => ?_)
  · refine zr_iconst hX dX5_shades_18 (zrl rfl) ?_
    exact zr_iret hX dX5_shades_19 hF h
  · refine zr_iload_n hX dX5_shades_9 rfl rfl ?_
    refine zr_iflt (tgt := 18) hX dX5_shades_10 rfl h (fun h => ?_) (fun h => ?_)
    · refine zr_iconst hX dX5_shades_18 (zrl rfl) ?_
      exact zr_iret hX dX5_shades_19 hF h
    · refine zr_iload_n hX dX5_shades_13 rfl rfl ?_
      refine zr_iconst hX dX5_shades_14 (zrl rfl) ?_
      refine zr_icmplt (tgt := 20) hX dX5_shades_15 rfl h (fun h => ?_) (fun h => ?_)
      · refine zr_aload_n hX dX5_shades_20 rfl rfl ?_
        refine zr_getr hX dX5_shades_21 (k := 2) (q := 7) rfl rfl ww_201 rfl ?_
        refine zr_getrN hX dX5_shades_24 (k := 0) (q := 8) rfl rfl nf_X5_125 rfl ?_
        refine zr_iload_n hX dX5_shades_27 rfl rfl ?_
        refine zr_iload_n hX dX5_shades_28 rfl rfl ?_
        refine zP_bind h (fun q1 hq1 h => ?_)
        refine zr_callV hX dX5_shades_29 (m_R_has rfl hq1) rfl rfl rfl (z5 ww_431 ww_375 ww_376 ww_74 ww_377) hy_X1_has rfl (Nat.le_of_ble_eq_true rfl) (Nat.le_of_ble_eq_true rfl) (Nat.le_of_ble_eq_true rfl) ?_
        refine zr_ifne (tgt := 41) hX dX5_shades_32 rfl h (fun h => ?_) (fun h => ?_)
        · refine zr_aload_n hX dX5_shades_41 rfl rfl ?_
          refine zr_getr hX dX5_shades_42 (k := 2) (q := 7) rfl rfl ww_201 rfl ?_
          refine zr_getrN hX dX5_shades_45 (k := 0) (q := 8) rfl rfl nf_X5_125 rfl ?_
          refine zr_iload_n hX dX5_shades_48 rfl rfl ?_
          refine zr_iload_n hX dX5_shades_49 rfl rfl ?_
          refine zr_iload_n hX dX5_shades_50 rfl rfl ?_
          refine zP_bind h (fun q2 hq2 h => ?_)
          refine zr_callV hX dX5_shades_51 (m_R_shaderOf rfl hq2) rfl rfl rfl (z5 ww_619 ww_462 ww_463 ww_74 ww_464) hy_X1_shaderOf rfl (Nat.le_of_ble_eq_true rfl) (Nat.le_of_ble_eq_true rfl) (Nat.le_of_ble_eq_true rfl) ?_
          exact zr_iret hX dX5_shades_54 hF h
        · refine zr_aload_n hX dX5_shades_35 rfl rfl ?_
          refine zr_iconst hX dX5_shades_36 (zrl rfl) ?_
          refine zP_bind h (fun q3 hq3 h => ?_)
          refine zr_callV hX dX5_shades_37 (m_X_found hq3) rfl rfl rfl (z5 ww_244 ww_246 ww_0 ww_70 ww_247) hy_X5_found rfl (Nat.le_of_ble_eq_true rfl) (Nat.le_of_ble_eq_true rfl) (Nat.le_of_ble_eq_true rfl) ?_
          exact zr_iret hX dX5_shades_40 hF h
      · refine zr_iconst hX dX5_shades_18 (zrl rfl) ?_
        exact zr_iret hX dX5_shades_19 hF h
set_option maxRecDepth 100000 in
theorem m_X_shades {l : Launch} {G : zG} {v1 : Int} {v2 : Int} {v3 : Int} {μ : zM} {q : Int × zM} (hq : f_X_shades v1 v2 v3 μ = some q) : zCT l G yX5_shades cX5_shades 4 (some .int) 4 [zR 0, zI v1, zI v2, zI v3] μ (some (zI q.1)) q.2 := by
  refine zMet (lv := [some (zR 0), some (zI v1), some (zI v2), some (zI v3)]) (k := 0) pl_X5 rfl (Nat.le_of_ble_eq_true rfl) (fun X hl hX hF _ _ => ?_)
  exact w_X_shades_e hX hF (zP_of hq rfl)
set_option maxRecDepth 100000 in
set_option maxHeartbeats 4000000 in
theorem w_X_sees_e {X : zX} {G : zG} {v1 : Int} {v2 : Int} {μ : zM} {rv : Option zV} {ν : zM} (hX : zOk X G cX5_sees RX5 3 (some .int) 5) (hF : zFin X G rv ν) (h : zP (fun r : (Int × zM) => (some (zI r.1), r.2) = (rv, ν)) (f_X_sees v1 v2 μ)) : zW X G 3 0 [some (zR 0), some (zI v1), some (zI v2)] [] μ := by
  refine zr_aload_n hX dX5_sees_0 rfl rfl ?_
  refine zr_iload_n hX dX5_sees_1 rfl rfl ?_
  refine zr_iload_n hX dX5_sees_2 rfl rfl ?_
  refine zr_callV hX dX5_sees_3 (m_X_isNoPlace) rfl rfl rfl (z5 ww_427 ww_429 ww_4 ww_70 ww_430) hy_X5_isNoPlace rfl (Nat.le_of_ble_eq_true rfl) (Nat.le_of_ble_eq_true rfl) (Nat.le_of_ble_eq_true rfl) ?_
  refine zr_ifeq (tgt := 11) hX dX5_sees_6 rfl h (fun h => ?_) (fun h => ?_)
  · refine zr_aload_n hX dX5_sees_11 rfl rfl ?_
    refine zr_getr hX dX5_sees_12 (k := 2) (q := 7) rfl rfl ww_201 rfl ?_
    refine zr_getrN hX dX5_sees_15 (k := 0) (q := 8) rfl rfl nf_X5_125 rfl ?_
    refine zr_iload_n hX dX5_sees_18 rfl rfl ?_
    refine zr_iload_n hX dX5_sees_19 rfl rfl ?_
    refine zP_bind h (fun q1 hq1 h => ?_)
    refine zr_callV hX dX5_sees_20 (m_R_has rfl hq1) rfl rfl rfl (z5 ww_431 ww_375 ww_376 ww_74 ww_377) hy_X1_has rfl (Nat.le_of_ble_eq_true rfl) (Nat.le_of_ble_eq_true rfl) (Nat.le_of_ble_eq_true rfl) ?_
    refine zr_ifne (tgt := 32) hX dX5_sees_23 rfl h (fun h => ?_) (fun h => ?_)
    · refine zr_aload_n hX dX5_sees_32 rfl rfl ?_
      refine zr_aload_n hX dX5_sees_33 rfl rfl ?_
      refine zr_getr hX dX5_sees_34 (k := 2) (q := 7) rfl rfl ww_201 rfl ?_
      refine zr_getrN hX dX5_sees_37 (k := 0) (q := 8) rfl rfl nf_X5_125 rfl ?_
      refine zr_iload_n hX dX5_sees_40 rfl rfl ?_
      refine zr_iload_n hX dX5_sees_41 rfl rfl ?_
      refine zP_bind h (fun q2 hq2 h => ?_)
      refine zr_callV hX dX5_sees_42 (m_R_lampedAbove rfl hq2) rfl rfl rfl (z5 ww_551 ww_454 ww_455 ww_74 ww_456) hy_X1_lampedAbove rfl (Nat.le_of_ble_eq_true rfl) (Nat.le_of_ble_eq_true rfl) (Nat.le_of_ble_eq_true rfl) ?_
      refine zr_puti hX dX5_sees_45 (k := 9) rfl rfl ww_208 rfl (by decide +kernel) ?_
      refine zr_aload_n hX dX5_sees_48 rfl rfl ?_
      refine zr_getr hX dX5_sees_49 (k := 2) (q := 7) rfl rfl ww_201 rfl ?_
      refine zr_getrN hX dX5_sees_52 (k := 0) (q := 8) rfl rfl nf_X5_125 rfl ?_
      refine zr_iload_n hX dX5_sees_55 rfl rfl ?_
      refine zr_iload_n hX dX5_sees_56 rfl rfl ?_
      refine zP_bind h (fun q3 hq3 h => ?_)
      refine zr_callV hX dX5_sees_57 (m_R_hoursSeen rfl hq3) rfl rfl rfl (z5 ww_538 ww_539 ww_540 ww_74 ww_541) hy_X1_hoursSeen rfl (Nat.le_of_ble_eq_true rfl) (Nat.le_of_ble_eq_true rfl) (Nat.le_of_ble_eq_true rfl) ?_
      exact zr_iret hX dX5_sees_60 hF h
    · refine zr_aload_n hX dX5_sees_26 rfl rfl ?_
      refine zr_iconst hX dX5_sees_27 (zrl rfl) ?_
      refine zP_bind h (fun q4 hq4 h => ?_)
      refine zr_callV hX dX5_sees_28 (m_X_found hq4) rfl rfl rfl (z5 ww_244 ww_246 ww_0 ww_70 ww_247) hy_X5_found rfl (Nat.le_of_ble_eq_true rfl) (Nat.le_of_ble_eq_true rfl) (Nat.le_of_ble_eq_true rfl) ?_
      exact zr_iret hX dX5_sees_31 hF h
  · refine zr_iconst hX dX5_sees_9 (zrl rfl) ?_
    exact zr_iret hX dX5_sees_10 hF h
set_option maxRecDepth 100000 in
theorem m_X_sees {l : Launch} {G : zG} {v1 : Int} {v2 : Int} {μ : zM} {q : Int × zM} (hq : f_X_sees v1 v2 μ = some q) : zCT l G yX5_sees cX5_sees 3 (some .int) 5 [zR 0, zI v1, zI v2] μ (some (zI q.1)) q.2 := by
  refine zMet (lv := [some (zR 0), some (zI v1), some (zI v2)]) (k := 0) pl_X5 rfl (Nat.le_of_ble_eq_true rfl) (fun X hl hX hF _ _ => ?_)
  exact w_X_sees_e hX hF (zP_of hq rfl)
set_option maxRecDepth 100000 in
set_option maxHeartbeats 4000000 in
theorem w_R_isNumber_e {X : zX} {G : zG} {o : Nat} {v1 : Int} {μ : zM} {rv : Option zV} {ν : zM} (hX : zOk X G cX1_isNumber RX1 2 (some .boolean) 1) (hF : zFin X G rv ν) (ho : zsh o = (0, 1)) (h : zP (fun r : Int => (some (zI r), μ) = (rv, ν)) (fo_R_isNumber o v1 μ)) : zW X G 2 0 [some (zR o), some (zI v1)] [] μ := by
  refine zr_iload_n hX dX1_isNumber_0 rfl rfl ?_
  refine zr_iflt (tgt := 16) hX dX1_isNumber_1 rfl h (fun h => ?_) (fun h => ?_)
  · refine zr_iconst hX dX1_isNumber_16 (zrl rfl) ?_
    exact zr_bretc hX dX1_isNumber_17 hF (Or.inl rfl) h
  · refine zr_iload_n hX dX1_isNumber_4 rfl rfl ?_
    refine zr_aload_n hX dX1_isNumber_5 rfl rfl ?_
    refine zr_geti hX dX1_isNumber_6 (k := 1) ho rfl ww_124 ?_
    refine zr_icmpge (tgt := 16) hX dX1_isNumber_9 rfl h (fun h => ?_) (fun h => ?_)
    · refine zr_iconst hX dX1_isNumber_16 (zrl rfl) ?_
      exact zr_bretc hX dX1_isNumber_17 hF (Or.inl rfl) h
    · refine zr_iconst hX dX1_isNumber_12 (zrl rfl) ?_
      refine zr_goto hX dX1_isNumber_13 (tgt := 17) rfl ?_
      exact zr_bretc hX dX1_isNumber_17 hF (Or.inr rfl) h
set_option maxRecDepth 100000 in
theorem m_R_isNumber {l : Launch} {G : zG} {o : Nat} {v1 : Int} {μ : zM} (ho : zsh o = (0, 1)) : zCT l G yX1_isNumber cX1_isNumber 2 (some .boolean) 1 [zR o, zI v1] μ (some (zI (f_R_isNumber o v1 μ))) μ := by
  refine zMet (lv := [some (zR o), some (zI v1)]) (k := 0) pl_X1 rfl (Nat.le_of_ble_eq_true rfl) (fun X hl hX hF _ _ => ?_)
  exact w_R_isNumber_e hX hF ho (by rw [fo_R_isNumber_eq]; rfl)
set_option maxRecDepth 100000 in
set_option maxHeartbeats 4000000 in
theorem w_L_lampsFromTo_e {X : zX} {G : zG} {v1 : Int} {v2 : Int} {μ : zM} {rv : Option zV} {ν : zM} (hX : zOk X G cX0_lampsFromTo RX0 3 (some .int) 2) (hF : zFin X G rv ν) (h : zP (fun r : Int => (some (zI r), μ) = (rv, ν)) (f_L_lampsFromTo v1 v2 μ)) : zW X G 3 0 [some (zR 16), some (zI v1), some (zI v2)] [] μ := by
  refine zr_aload_n hX dX0_lampsFromTo_0 rfl rfl ?_
  refine zr_iload_n hX dX0_lampsFromTo_1 rfl rfl ?_
  refine zr_callV hX dX0_lampsFromTo_2 (m_L_isNumber) rfl rfl rfl (z5 ww_449 ww_451 ww_6 ww_75 ww_452) hy_X0_isNumber rfl (Nat.le_of_ble_eq_true rfl) (Nat.le_of_ble_eq_true rfl) (Nat.le_of_ble_eq_true rfl) ?_
  refine zr_ifeq (tgt := 30) hX dX0_lampsFromTo_5 rfl h (fun h => ?_) (fun h => ?_)
  · refine zr_iconst hX dX0_lampsFromTo_30 (zrl rfl) ?_
    exact zr_iret hX dX0_lampsFromTo_31 hF h
  · refine zr_aload_n hX dX0_lampsFromTo_8 rfl rfl ?_
    refine zr_iload_n hX dX0_lampsFromTo_9 rfl rfl ?_
    refine zr_callV hX dX0_lampsFromTo_10 (m_L_isNumber) rfl rfl rfl (z5 ww_449 ww_451 ww_6 ww_75 ww_452) hy_X0_isNumber rfl (Nat.le_of_ble_eq_true rfl) (Nat.le_of_ble_eq_true rfl) (Nat.le_of_ble_eq_true rfl) ?_
    refine zr_ifeq (tgt := 30) hX dX0_lampsFromTo_13 rfl h (fun h => ?_) (fun h => ?_)
    · refine zr_iconst hX dX0_lampsFromTo_30 (zrl rfl) ?_
      exact zr_iret hX dX0_lampsFromTo_31 hF h
    · refine zr_aload_n hX dX0_lampsFromTo_16 rfl rfl ?_
      refine zr_getr hX dX0_lampsFromTo_17 (k := 6) (q := 21) rfl rfl ww_164 rfl ?_
      refine zr_iload_n hX dX0_lampsFromTo_20 rfl rfl ?_
      refine zr_bipush hX dX0_lampsFromTo_21 rfl ?_
      refine zr_imul hX dX0_lampsFromTo_23 ?_
      refine zr_iload_n hX dX0_lampsFromTo_24 rfl rfl ?_
      refine zr_iadd hX dX0_lampsFromTo_25 ?_
      refine zr_iald (N := 144) hX dX0_lampsFromTo_26 rfl rfl h (fun h => ?_)
      refine zr_goto hX dX0_lampsFromTo_27 (tgt := 31) rfl ?_
      exact zr_iret hX dX0_lampsFromTo_31 hF h
set_option maxRecDepth 100000 in
theorem m_L_lampsFromTo {l : Launch} {G : zG} {v1 : Int} {v2 : Int} {μ : zM} {q : Int} (hq : f_L_lampsFromTo v1 v2 μ = some q) : zCT l G yX0_lampsFromTo cX0_lampsFromTo 3 (some .int) 2 [zR 16, zI v1, zI v2] μ (some (zI q)) μ := by
  refine zMet (lv := [some (zR 16), some (zI v1), some (zI v2)]) (k := 0) pl_X0 rfl (Nat.le_of_ble_eq_true rfl) (fun X hl hX hF _ _ => ?_)
  exact w_L_lampsFromTo_e hX hF (zP_of hq rfl)
set_option maxRecDepth 100000 in
set_option maxHeartbeats 4000000 in
theorem w_X_owes_e {X : zX} {G : zG} {v1 : Int} {v2 : Int} {μ : zM} {rv : Option zV} {ν : zM} (hX : zOk X G cX5_owes RX5 3 (some .int) 6) (hF : zFin X G rv ν) (h : zP (fun r : (Int × zM) => (some (zI r.1), r.2) = (rv, ν)) (f_X_owes v1 v2 μ)) : zW X G 3 0 [some (zR 0), some (zI v1), some (zI v2)] [] μ := by
  refine zr_aload_n hX dX5_owes_0 rfl rfl ?_
  refine zr_getr hX dX5_owes_1 (k := 2) (q := 7) rfl rfl ww_201 rfl ?_
  refine zr_getrN hX dX5_owes_4 (k := 0) (q := 8) rfl rfl nf_X5_125 rfl ?_
  refine zr_iload_n hX dX5_owes_7 rfl rfl ?_
  refine zr_callV hX dX5_owes_8 (m_R_isNumber rfl) rfl rfl rfl (z5 ww_628 ww_629 ww_630 ww_74 ww_631) hy_X1_isNumber rfl (Nat.le_of_ble_eq_true rfl) (Nat.le_of_ble_eq_true rfl) (Nat.le_of_ble_eq_true rfl) ?_
  refine zr_ifeq (tgt := 33) hX dX5_owes_11 rfl h (fun h => ?_) (fun h => ?_)
  · refine zr_iconst hX dX5_owes_33 (zrl rfl) ?_
    exact zr_iret hX dX5_owes_34 hF h
  · refine zr_aload_n hX dX5_owes_14 rfl rfl ?_
    refine zr_getr hX dX5_owes_15 (k := 2) (q := 7) rfl rfl ww_201 rfl ?_
    refine zr_getrN hX dX5_owes_18 (k := 0) (q := 8) rfl rfl nf_X5_125 rfl ?_
    refine zr_iload_n hX dX5_owes_21 rfl rfl ?_
    refine zr_callV hX dX5_owes_22 (m_R_isNumber rfl) rfl rfl rfl (z5 ww_628 ww_629 ww_630 ww_74 ww_631) hy_X1_isNumber rfl (Nat.le_of_ble_eq_true rfl) (Nat.le_of_ble_eq_true rfl) (Nat.le_of_ble_eq_true rfl) ?_
    refine zr_ifeq (tgt := 33) hX dX5_owes_25 rfl h (fun h => ?_) (fun h => ?_)
    · refine zr_iconst hX dX5_owes_33 (zrl rfl) ?_
      exact zr_iret hX dX5_owes_34 hF h
    · refine zr_iload_n hX dX5_owes_28 rfl rfl ?_
      refine zr_iload_n hX dX5_owes_29 rfl rfl ?_
      refine zr_icmpne (tgt := 35) hX dX5_owes_30 rfl h (fun h => ?_) (fun h => ?_)
      · refine zr_aload_n hX dX5_owes_35 rfl rfl ?_
        refine zr_getr hX dX5_owes_36 (k := 5) (q := 16) rfl rfl ww_204 rfl ?_
        refine zr_aload_n hX dX5_owes_39 rfl rfl ?_
        refine zr_getr hX dX5_owes_40 (k := 2) (q := 7) rfl rfl ww_201 rfl ?_
        refine zr_getrN hX dX5_owes_43 (k := 0) (q := 8) rfl rfl nf_X5_125 rfl ?_
        refine zP_bind h (fun q1 hq1 h => ?_)
        refine zr_callV hX dX5_owes_46 (m_L_reckon rfl hq1) rfl rfl rfl (z5 ww_432 ww_433 ww_434 ww_75 ww_435) hy_X0_reckon rfl (Nat.le_of_ble_eq_true rfl) (Nat.le_of_ble_eq_true rfl) (Nat.le_of_ble_eq_true rfl) ?_
        refine zr_aload_n hX dX5_owes_49 rfl rfl ?_
        refine zr_getr hX dX5_owes_50 (k := 5) (q := 16) rfl rfl ww_204 rfl ?_
        refine zr_iload_n hX dX5_owes_53 rfl rfl ?_
        refine zr_iload_n hX dX5_owes_54 rfl rfl ?_
        refine zP_bind h (fun q2 hq2 h => ?_)
        refine zr_callV hX dX5_owes_55 (m_L_lampsFromTo hq2) rfl rfl rfl (z5 ww_632 ww_633 ww_634 ww_75 ww_635) hy_X0_lampsFromTo rfl (Nat.le_of_ble_eq_true rfl) (Nat.le_of_ble_eq_true rfl) (Nat.le_of_ble_eq_true rfl) ?_
        exact zr_iret hX dX5_owes_58 hF h
      · refine zr_iconst hX dX5_owes_33 (zrl rfl) ?_
        exact zr_iret hX dX5_owes_34 hF h
set_option maxRecDepth 100000 in
theorem m_X_owes {l : Launch} {G : zG} {v1 : Int} {v2 : Int} {μ : zM} {q : Int × zM} (hq : f_X_owes v1 v2 μ = some q) : zCT l G yX5_owes cX5_owes 3 (some .int) 6 [zR 0, zI v1, zI v2] μ (some (zI q.1)) q.2 := by
  refine zMet (lv := [some (zR 0), some (zI v1), some (zI v2)]) (k := 0) pl_X5 rfl (Nat.le_of_ble_eq_true rfl) (fun X hl hX hF _ _ => ?_)
  exact w_X_owes_e hX hF (zP_of hq rfl)
set_option maxRecDepth 100000 in
set_option maxHeartbeats 4000000 in
theorem w_L_debtOf_e {X : zX} {G : zG} {v1 : Int} {μ : zM} {rv : Option zV} {ν : zM} (hX : zOk X G cX0_debtOf RX0 2 (some .int) 3) (hF : zFin X G rv ν) (h : zP (fun r : Int => (some (zI r), μ) = (rv, ν)) (f_L_debtOf v1 μ)) : zW X G 2 0 [some (zR 16), some (zI v1)] [] μ := by
  refine zr_aload_n hX dX0_debtOf_0 rfl rfl ?_
  refine zr_iload_n hX dX0_debtOf_1 rfl rfl ?_
  refine zP_bind h (fun q1 hq1 h => ?_)
  refine zr_callV hX dX0_debtOf_2 (m_L_owingOf hq1) rfl rfl rfl (z5 ww_644 ww_512 ww_513 ww_75 ww_514) hy_X0_owingOf rfl (Nat.le_of_ble_eq_true rfl) (Nat.le_of_ble_eq_true rfl) (Nat.le_of_ble_eq_true rfl) ?_
  refine zr_aload_n hX dX0_debtOf_5 rfl rfl ?_
  refine zr_iload_n hX dX0_debtOf_6 rfl rfl ?_
  refine zP_bind h (fun q2 hq2 h => ?_)
  refine zr_callV hX dX0_debtOf_7 (m_L_owedOf hq2) rfl rfl rfl (z5 ww_645 ww_516 ww_517 ww_75 ww_518) hy_X0_owedOf rfl (Nat.le_of_ble_eq_true rfl) (Nat.le_of_ble_eq_true rfl) (Nat.le_of_ble_eq_true rfl) ?_
  refine zr_isub hX dX0_debtOf_10 ?_
  exact zr_iret hX dX0_debtOf_11 hF h
set_option maxRecDepth 100000 in
theorem m_L_debtOf {l : Launch} {G : zG} {v1 : Int} {μ : zM} {q : Int} (hq : f_L_debtOf v1 μ = some q) : zCT l G yX0_debtOf cX0_debtOf 2 (some .int) 3 [zR 16, zI v1] μ (some (zI q)) μ := by
  refine zMet (lv := [some (zR 16), some (zI v1)]) (k := 0) pl_X0 rfl (Nat.le_of_ble_eq_true rfl) (fun X hl hX hF _ _ => ?_)
  exact w_L_debtOf_e hX hF (zP_of hq rfl)
set_option maxRecDepth 100000 in
set_option maxHeartbeats 4000000 in
theorem w_X_debt_e {X : zX} {G : zG} {v1 : Int} {μ : zM} {rv : Option zV} {ν : zM} (hX : zOk X G cX5_debt RX5 2 (some .int) 6) (hF : zFin X G rv ν) (h : zP (fun r : (Int × zM) => (some (zI r.1), r.2) = (rv, ν)) (f_X_debt v1 μ)) : zW X G 2 0 [some (zR 0), some (zI v1)] [] μ := by
  refine zr_aload_n hX dX5_debt_0 rfl rfl ?_
  refine zr_getr hX dX5_debt_1 (k := 2) (q := 7) rfl rfl ww_201 rfl ?_
  refine zr_getrN hX dX5_debt_4 (k := 0) (q := 8) rfl rfl nf_X5_125 rfl ?_
  refine zr_iload_n hX dX5_debt_7 rfl rfl ?_
  refine zr_callV hX dX5_debt_8 (m_R_isNumber rfl) rfl rfl rfl (z5 ww_628 ww_629 ww_630 ww_74 ww_631) hy_X1_isNumber rfl (Nat.le_of_ble_eq_true rfl) (Nat.le_of_ble_eq_true rfl) (Nat.le_of_ble_eq_true rfl) ?_
  refine zr_ifne (tgt := 16) hX dX5_debt_11 rfl h (fun h => ?_) (fun h => ?_)
  · refine zr_aload_n hX dX5_debt_16 rfl rfl ?_
    refine zr_getr hX dX5_debt_17 (k := 5) (q := 16) rfl rfl ww_204 rfl ?_
    refine zr_aload_n hX dX5_debt_20 rfl rfl ?_
    refine zr_getr hX dX5_debt_21 (k := 2) (q := 7) rfl rfl ww_201 rfl ?_
    refine zr_getrN hX dX5_debt_24 (k := 0) (q := 8) rfl rfl nf_X5_125 rfl ?_
    refine zP_bind h (fun q1 hq1 h => ?_)
    refine zr_callV hX dX5_debt_27 (m_L_reckon rfl hq1) rfl rfl rfl (z5 ww_432 ww_433 ww_434 ww_75 ww_435) hy_X0_reckon rfl (Nat.le_of_ble_eq_true rfl) (Nat.le_of_ble_eq_true rfl) (Nat.le_of_ble_eq_true rfl) ?_
    refine zr_aload_n hX dX5_debt_30 rfl rfl ?_
    refine zr_aload_n hX dX5_debt_31 rfl rfl ?_
    refine zr_getr hX dX5_debt_32 (k := 5) (q := 16) rfl rfl ww_204 rfl ?_
    refine zr_iload_n hX dX5_debt_35 rfl rfl ?_
    refine zP_bind h (fun q2 hq2 h => ?_)
    refine zr_callV hX dX5_debt_36 (m_L_debtOf hq2) rfl rfl rfl (z5 ww_640 ww_641 ww_642 ww_75 ww_643) hy_X0_debtOf rfl (Nat.le_of_ble_eq_true rfl) (Nat.le_of_ble_eq_true rfl) (Nat.le_of_ble_eq_true rfl) ?_
    refine zr_puti hX dX5_debt_39 (k := 9) rfl rfl ww_208 rfl (by decide +kernel) ?_
    refine zr_iconst hX dX5_debt_42 (zrl rfl) ?_
    exact zr_iret hX dX5_debt_43 hF h
  · refine zr_iconst hX dX5_debt_14 (zrl rfl) ?_
    exact zr_iret hX dX5_debt_15 hF h
set_option maxRecDepth 100000 in
theorem m_X_debt {l : Launch} {G : zG} {v1 : Int} {μ : zM} {q : Int × zM} (hq : f_X_debt v1 μ = some q) : zCT l G yX5_debt cX5_debt 2 (some .int) 6 [zR 0, zI v1] μ (some (zI q.1)) q.2 := by
  refine zMet (lv := [some (zR 0), some (zI v1)]) (k := 0) pl_X5 rfl (Nat.le_of_ble_eq_true rfl) (fun X hl hX hF _ _ => ?_)
  exact w_X_debt_e hX hF (zP_of hq rfl)
def k_L_allLight (X : zX) (G : zG) (μ : zM) : (Int × Int) → Prop := fun s => zW X G 3 4 [some (zR 16), some (zI s.1), some (zI s.2)] [] μ
theorem k_L_allLight_4 {X : zX} {G : zG} {μ : zM} {F : Int → Prop} {v1 v2 : Int} (h : zP (Sum.elim (k_L_allLight X G μ) F) (some (.inl ((v1, v2))))) : zW X G 3 4 [some (zR 16), some (zI v1), some (zI v2)] [] μ := h
set_option maxRecDepth 100000 in
set_option maxHeartbeats 4000000 in
theorem w_L_allLight_4 {X : zX} {G : zG} {μ : zM} {rv : Option zV} {ν : zM} (hX : zOk X G cX0_allLight RX0 3 (some .int) 4) (hF : zFin X G rv ν) {v1 v2 : Int} (h : zP (Sum.elim (k_L_allLight X G μ) (fun r : Int => (some (zI r), μ) = (rv, ν))) (b_L_allLight_4 v1 v2 μ)) : zW X G 3 4 [some (zR 16), some (zI v1), some (zI v2)] [] μ := by
  refine zr_iload_n hX dX0_allLight_4 rfl rfl ?_
  refine zr_aload_n hX dX0_allLight_5 rfl rfl ?_
  refine zr_geti hX dX0_allLight_6 (k := 0) rfl rfl ww_157 ?_
  refine zr_icmpge (tgt := 26) hX dX0_allLight_9 rfl h (fun h => ?_) (fun h => ?_)
  · refine zr_iload_n hX dX0_allLight_26 rfl rfl ?_
    exact zr_iret hX dX0_allLight_27 hF h
  · refine zr_iload_n hX dX0_allLight_12 rfl rfl ?_
    refine zr_aload_n hX dX0_allLight_13 rfl rfl ?_
    refine zr_iload_n hX dX0_allLight_14 rfl rfl ?_
    refine zP_bind h (fun q1 hq1 h => ?_)
    refine zr_callV hX dX0_allLight_15 (m_L_lightOf hq1) rfl rfl rfl (z5 ww_654 ww_498 ww_499 ww_75 ww_500) hy_X0_lightOf rfl (Nat.le_of_ble_eq_true rfl) (Nat.le_of_ble_eq_true rfl) (Nat.le_of_ble_eq_true rfl) ?_
    refine zr_iadd hX dX0_allLight_18 ?_
    refine zr_istore_n hX dX0_allLight_19 rfl (Nat.le_of_ble_eq_true rfl) ?_
    refine zr_iinc hX dX0_allLight_20 rfl (Nat.le_of_ble_eq_true rfl) ?_
    refine zr_goto hX dX0_allLight_23 (tgt := 4) rfl ?_
    exact zW_lf (k_L_allLight_4 h) (And.intro rfl (And.intro rfl (And.intro rfl trivial)))
set_option maxRecDepth 100000 in
set_option maxHeartbeats 4000000 in
theorem w_L_allLight_e {X : zX} {G : zG} {μ : zM} {rv : Option zV} {ν : zM} (hX : zOk X G cX0_allLight RX0 3 (some .int) 4) (hF : zFin X G rv ν) (h : zP (Sum.elim (k_L_allLight X G μ) (fun r : Int => (some (zI r), μ) = (rv, ν))) (e_L_allLight μ)) : zW X G 3 0 [some (zR 16), none, none] [] μ := by
  refine zr_iconst hX dX0_allLight_0 (zrl rfl) ?_
  refine zr_istore_n hX dX0_allLight_1 rfl (Nat.le_of_ble_eq_true rfl) ?_
  refine zr_iconst hX dX0_allLight_2 (zrl rfl) ?_
  refine zr_istore_n hX dX0_allLight_3 rfl (Nat.le_of_ble_eq_true rfl) ?_
  exact zW_lf (k_L_allLight_4 h) (And.intro rfl (And.intro rfl (And.intro rfl trivial)))
set_option maxRecDepth 100000 in
theorem m_L_allLight {l : Launch} {G : zG} {μ : zM} {q : Int} (hq : f_L_allLight μ = some q) : zCT l G yX0_allLight cX0_allLight 3 (some .int) 4 [zR 16] μ (some (zI q)) μ := by
  refine zMet (lv := [some (zR 16), none, none]) (k := 2) pl_X0 rfl (Nat.le_of_ble_eq_true rfl) (fun X hl hX hF _ _ => ?_)
  refine w_L_allLight_e hX hF (zgo_K (r := q) (step := t_L_allLight μ) (fun s h => ?_) rfl hq)
  exact w_L_allLight_4 hX hF h
set_option maxRecDepth 100000 in
set_option maxHeartbeats 4000000 in
theorem w_X_light_e {X : zX} {G : zG} {μ : zM} {rv : Option zV} {ν : zM} (hX : zOk X G cX5_light RX5 1 (some .int) 6) (hF : zFin X G rv ν) (h : zP (fun r : (Int × zM) => (some (zI r.1), r.2) = (rv, ν)) (f_X_light μ)) : zW X G 1 0 [some (zR 0)] [] μ := by
  refine zr_aload_n hX dX5_light_0 rfl rfl ?_
  refine zr_getr hX dX5_light_1 (k := 5) (q := 16) rfl rfl ww_204 rfl ?_
  refine zr_aload_n hX dX5_light_4 rfl rfl ?_
  refine zr_getr hX dX5_light_5 (k := 2) (q := 7) rfl rfl ww_201 rfl ?_
  refine zr_getrN hX dX5_light_8 (k := 0) (q := 8) rfl rfl nf_X5_125 rfl ?_
  refine zP_bind h (fun q1 hq1 h => ?_)
  refine zr_callV hX dX5_light_11 (m_L_reckon rfl hq1) rfl rfl rfl (z5 ww_432 ww_433 ww_434 ww_75 ww_435) hy_X0_reckon rfl (Nat.le_of_ble_eq_true rfl) (Nat.le_of_ble_eq_true rfl) (Nat.le_of_ble_eq_true rfl) ?_
  refine zr_aload_n hX dX5_light_14 rfl rfl ?_
  refine zr_aload_n hX dX5_light_15 rfl rfl ?_
  refine zr_getr hX dX5_light_16 (k := 5) (q := 16) rfl rfl ww_204 rfl ?_
  refine zr_getiN hX dX5_light_19 (k := 1) rfl rfl nf_X5_217 ?_
  refine zr_puti hX dX5_light_22 (k := 9) rfl rfl ww_208 rfl (by decide +kernel) ?_
  refine zr_aload_n hX dX5_light_25 rfl rfl ?_
  refine zr_getr hX dX5_light_26 (k := 5) (q := 16) rfl rfl ww_204 rfl ?_
  refine zP_bind h (fun q2 hq2 h => ?_)
  refine zr_callV hX dX5_light_29 (m_L_allLight hq2) rfl rfl rfl (z5 ww_650 ww_651 ww_652 ww_75 ww_653) hy_X0_allLight rfl (Nat.le_of_ble_eq_true rfl) (Nat.le_of_ble_eq_true rfl) (Nat.le_of_ble_eq_true rfl) ?_
  exact zr_iret hX dX5_light_32 hF h
set_option maxRecDepth 100000 in
theorem m_X_light {l : Launch} {G : zG} {μ : zM} {q : Int × zM} (hq : f_X_light μ = some q) : zCT l G yX5_light cX5_light 1 (some .int) 6 [zR 0] μ (some (zI q.1)) q.2 := by
  refine zMet (lv := [some (zR 0)]) (k := 0) pl_X5 rfl (Nat.le_of_ble_eq_true rfl) (fun X hl hX hF _ _ => ?_)
  exact w_X_light_e hX hF (zP_of hq rfl)
def k_X_ruined (X : zX) (G : zG) : (Int × Int × zM) → Prop := fun s => zW X G 3 19 [some (zR 0), some (zI s.1), some (zI s.2.1)] [] s.2.2
theorem k_X_ruined_19 {X : zX} {G : zG} {F : (Int × zM) → Prop} {v1 v2 : Int} {κ : zM} (h : zP (Sum.elim (k_X_ruined X G) F) (some (.inl ((v1, v2, κ))))) : zW X G 3 19 [some (zR 0), some (zI v1), some (zI v2)] [] κ := h
set_option maxRecDepth 100000 in
set_option maxHeartbeats 4000000 in
theorem w_X_ruined_19 {X : zX} {G : zG} {μ : zM} {rv : Option zV} {ν : zM} (hX : zOk X G cX5_ruined RX5 3 (some .int) 6) (hF : zFin X G rv ν) {v1 v2 : Int} (h : zP (Sum.elim (k_X_ruined X G) (fun r : (Int × zM) => (some (zI r.1), r.2) = (rv, ν))) (b_X_ruined_19 v1 v2 μ)) : zW X G 3 19 [some (zR 0), some (zI v1), some (zI v2)] [] μ := by
  refine zr_iload_n hX dX5_ruined_19 rfl rfl ?_
  refine zr_aload_n hX dX5_ruined_20 rfl rfl ?_
  refine zr_getr hX dX5_ruined_21 (k := 2) (q := 7) rfl rfl ww_201 rfl ?_
  refine zr_getrN hX dX5_ruined_24 (k := 0) (q := 8) rfl rfl nf_X5_125 rfl ?_
  refine zr_callV hX dX5_ruined_27 (m_R_houseCount rfl) rfl rfl rfl (z5 ww_659 ww_437 ww_438 ww_74 ww_439) hy_X1_houseCount rfl (Nat.le_of_ble_eq_true rfl) (Nat.le_of_ble_eq_true rfl) (Nat.le_of_ble_eq_true rfl) ?_
  refine zr_icmpge (tgt := 66) hX dX5_ruined_30 rfl h (fun h => ?_) (fun h => ?_)
  · refine zr_iload_n hX dX5_ruined_66 rfl rfl ?_
    refine zr_bipush hX dX5_ruined_67 rfl ?_
    refine zr_icmpeq (tgt := 84) hX dX5_ruined_69 rfl h (fun h => ?_) (fun h => ?_)
    · refine zr_iload_n hX dX5_ruined_84 rfl rfl ?_
      exact zr_iret hX dX5_ruined_85 hF h
    · refine zr_aload_n hX dX5_ruined_72 rfl rfl ?_
      refine zr_aload_n hX dX5_ruined_73 rfl rfl ?_
      refine zr_getr hX dX5_ruined_74 (k := 5) (q := 16) rfl rfl ww_204 rfl ?_
      refine zr_iload_n hX dX5_ruined_77 rfl rfl ?_
      refine zP_bind h (fun q2 hq2 h => ?_)
      refine zr_callV hX dX5_ruined_78 (m_L_owingOf hq2) rfl rfl rfl (z5 ww_511 ww_512 ww_513 ww_75 ww_514) hy_X0_owingOf rfl (Nat.le_of_ble_eq_true rfl) (Nat.le_of_ble_eq_true rfl) (Nat.le_of_ble_eq_true rfl) ?_
      refine zr_puti hX dX5_ruined_81 (k := 9) rfl rfl ww_208 rfl (by decide +kernel) ?_
      refine zr_iload_n hX dX5_ruined_84 rfl rfl ?_
      exact zr_iret hX dX5_ruined_85 hF h
  · refine zr_iload_n hX dX5_ruined_33 rfl rfl ?_
    refine zr_bipush hX dX5_ruined_34 rfl ?_
    refine zr_icmpeq (tgt := 58) hX dX5_ruined_36 rfl h (fun h => ?_) (fun h => ?_)
    · refine zr_iload_n hX dX5_ruined_58 rfl rfl ?_
      refine zr_istore_n hX dX5_ruined_59 rfl (Nat.le_of_ble_eq_true rfl) ?_
      refine zr_iinc hX dX5_ruined_60 rfl (Nat.le_of_ble_eq_true rfl) ?_
      refine zr_goto hX dX5_ruined_63 (tgt := 19) rfl ?_
      exact zW_lf (k_X_ruined_19 h) (And.intro rfl (And.intro rfl (And.intro rfl trivial)))
    · refine zr_aload_n hX dX5_ruined_39 rfl rfl ?_
      refine zr_getr hX dX5_ruined_40 (k := 5) (q := 16) rfl rfl ww_204 rfl ?_
      refine zr_iload_n hX dX5_ruined_43 rfl rfl ?_
      refine zP_bind h (fun q3 hq3 h => ?_)
      refine zr_callV hX dX5_ruined_44 (m_L_owingOf hq3) rfl rfl rfl (z5 ww_511 ww_512 ww_513 ww_75 ww_514) hy_X0_owingOf rfl (Nat.le_of_ble_eq_true rfl) (Nat.le_of_ble_eq_true rfl) (Nat.le_of_ble_eq_true rfl) ?_
      refine zr_aload_n hX dX5_ruined_47 rfl rfl ?_
      refine zr_getr hX dX5_ruined_48 (k := 5) (q := 16) rfl rfl ww_204 rfl ?_
      refine zr_iload_n hX dX5_ruined_51 rfl rfl ?_
      refine zP_bind h (fun q4 hq4 h => ?_)
      refine zr_callV hX dX5_ruined_52 (m_L_owingOf hq4) rfl rfl rfl (z5 ww_511 ww_512 ww_513 ww_75 ww_514) hy_X0_owingOf rfl (Nat.le_of_ble_eq_true rfl) (Nat.le_of_ble_eq_true rfl) (Nat.le_of_ble_eq_true rfl) ?_
      refine zr_icmple (tgt := 60) hX dX5_ruined_55 rfl h (fun h => ?_) (fun h => ?_)
      · refine zr_iinc hX dX5_ruined_60 rfl (Nat.le_of_ble_eq_true rfl) ?_
        refine zr_goto hX dX5_ruined_63 (tgt := 19) rfl ?_
        exact zW_lf (k_X_ruined_19 h) (And.intro rfl (And.intro rfl (And.intro rfl trivial)))
      · refine zr_iload_n hX dX5_ruined_58 rfl rfl ?_
        refine zr_istore_n hX dX5_ruined_59 rfl (Nat.le_of_ble_eq_true rfl) ?_
        refine zr_iinc hX dX5_ruined_60 rfl (Nat.le_of_ble_eq_true rfl) ?_
        refine zr_goto hX dX5_ruined_63 (tgt := 19) rfl ?_
        exact zW_lf (k_X_ruined_19 h) (And.intro rfl (And.intro rfl (And.intro rfl trivial)))
set_option maxRecDepth 100000 in
set_option maxHeartbeats 4000000 in
theorem w_X_ruined_e {X : zX} {G : zG} {μ : zM} {rv : Option zV} {ν : zM} (hX : zOk X G cX5_ruined RX5 3 (some .int) 6) (hF : zFin X G rv ν) (h : zP (Sum.elim (k_X_ruined X G) (fun r : (Int × zM) => (some (zI r.1), r.2) = (rv, ν))) (e_X_ruined μ)) : zW X G 3 0 [some (zR 0), none, none] [] μ := by
  refine zr_aload_n hX dX5_ruined_0 rfl rfl ?_
  refine zr_getr hX dX5_ruined_1 (k := 5) (q := 16) rfl rfl ww_204 rfl ?_
  refine zr_aload_n hX dX5_ruined_4 rfl rfl ?_
  refine zr_getr hX dX5_ruined_5 (k := 2) (q := 7) rfl rfl ww_201 rfl ?_
  refine zr_getrN hX dX5_ruined_8 (k := 0) (q := 8) rfl rfl nf_X5_125 rfl ?_
  refine zP_bind h (fun q1 hq1 h => ?_)
  refine zr_callV hX dX5_ruined_11 (m_L_reckon rfl hq1) rfl rfl rfl (z5 ww_432 ww_433 ww_434 ww_75 ww_435) hy_X0_reckon rfl (Nat.le_of_ble_eq_true rfl) (Nat.le_of_ble_eq_true rfl) (Nat.le_of_ble_eq_true rfl) ?_
  refine zr_bipush hX dX5_ruined_14 rfl ?_
  refine zr_istore_n hX dX5_ruined_16 rfl (Nat.le_of_ble_eq_true rfl) ?_
  refine zr_iconst hX dX5_ruined_17 (zrl rfl) ?_
  refine zr_istore_n hX dX5_ruined_18 rfl (Nat.le_of_ble_eq_true rfl) ?_
  exact zW_lf (k_X_ruined_19 h) (And.intro rfl (And.intro rfl (And.intro rfl trivial)))
set_option maxRecDepth 100000 in
theorem m_X_ruined {l : Launch} {G : zG} {μ : zM} {q : Int × zM} (hq : f_X_ruined μ = some q) : zCT l G yX5_ruined cX5_ruined 3 (some .int) 6 [zR 0] μ (some (zI q.1)) q.2 := by
  refine zMet (lv := [some (zR 0), none, none]) (k := 2) pl_X5 rfl (Nat.le_of_ble_eq_true rfl) (fun X hl hX hF _ _ => ?_)
  refine w_X_ruined_e hX hF (zgo_K (r := q) (step := t_X_ruined) (fun s h => ?_) rfl hq)
  exact w_X_ruined_19 hX hF h
set_option maxRecDepth 100000 in
set_option maxHeartbeats 4000000 in
theorem w_R_isSwaying_e {X : zX} {G : zG} {o : Nat} {v1 : Int} {v2 : Int} {μ : zM} {rv : Option zV} {ν : zM} (hX : zOk X G cX1_isSwaying RX1 3 (some .boolean) 4) (hF : zFin X G rv ν) (ho : zsh o = (0, 1)) (h : zP (fun r : Int => (some (zI r), μ) = (rv, ν)) (f_R_isSwaying o v1 v2 μ)) : zW X G 3 0 [some (zR o), some (zI v1), some (zI v2)] [] μ := by
  refine zr_aload_n hX dX1_isSwaying_0 rfl rfl ?_
  refine zr_iload_n hX dX1_isSwaying_1 rfl rfl ?_
  refine zr_iload_n hX dX1_isSwaying_2 rfl rfl ?_
  refine zP_bind h (fun q1 hq1 h => ?_)
  refine zr_callV hX dX1_isSwaying_3 (m_R_has ho hq1) ho rfl rfl (z5 ww_374 ww_375 ww_376 ww_74 ww_377) hy_X1_has rfl (Nat.le_of_ble_eq_true rfl) (Nat.le_of_ble_eq_true rfl) (Nat.le_of_ble_eq_true rfl) ?_
  refine zr_ifeq (tgt := 28) hX dX1_isSwaying_6 rfl h (fun h => ?_) (fun h => ?_)
  · refine zr_iconst hX dX1_isSwaying_28 (zrl rfl) ?_
    exact zr_bretc hX dX1_isSwaying_29 hF (Or.inl rfl) h
  · refine zr_aload_n hX dX1_isSwaying_9 rfl rfl ?_
    refine zr_iload_n hX dX1_isSwaying_10 rfl rfl ?_
    refine zr_iload_n hX dX1_isSwaying_11 rfl rfl ?_
    refine zP_bind h (fun q2 hq2 h => ?_)
    refine zr_callV hX dX1_isSwaying_12 (m_R_weightOn ho hq2) ho rfl rfl (z5 ww_668 ww_488 ww_489 ww_74 ww_490) hy_X1_weightOn rfl (Nat.le_of_ble_eq_true rfl) (Nat.le_of_ble_eq_true rfl) (Nat.le_of_ble_eq_true rfl) ?_
    refine zr_aload_n hX dX1_isSwaying_15 rfl rfl ?_
    refine zr_iload_n hX dX1_isSwaying_16 rfl rfl ?_
    refine zr_iload_n hX dX1_isSwaying_17 rfl rfl ?_
    refine zP_bind h (fun q3 hq3 h => ?_)
    refine zr_callV hX dX1_isSwaying_18 (m_R_borneAt ho hq3) ho rfl rfl (z5 ww_400 ww_401 ww_402 ww_74 ww_403) hy_X1_borneAt rfl (Nat.le_of_ble_eq_true rfl) (Nat.le_of_ble_eq_true rfl) (Nat.le_of_ble_eq_true rfl) ?_
    refine zr_icmple (tgt := 28) hX dX1_isSwaying_21 rfl h (fun h => ?_) (fun h => ?_)
    · refine zr_iconst hX dX1_isSwaying_28 (zrl rfl) ?_
      exact zr_bretc hX dX1_isSwaying_29 hF (Or.inl rfl) h
    · refine zr_iconst hX dX1_isSwaying_24 (zrl rfl) ?_
      refine zr_goto hX dX1_isSwaying_25 (tgt := 29) rfl ?_
      exact zr_bretc hX dX1_isSwaying_29 hF (Or.inr rfl) h
set_option maxRecDepth 100000 in
theorem m_R_isSwaying {l : Launch} {G : zG} {o : Nat} {v1 : Int} {v2 : Int} {μ : zM} (ho : zsh o = (0, 1)) {q : Int} (hq : f_R_isSwaying o v1 v2 μ = some q) : zCT l G yX1_isSwaying cX1_isSwaying 3 (some .boolean) 4 [zR o, zI v1, zI v2] μ (some (zI q)) μ := by
  refine zMet (lv := [some (zR o), some (zI v1), some (zI v2)]) (k := 0) pl_X1 rfl (Nat.le_of_ble_eq_true rfl) (fun X hl hX hF _ _ => ?_)
  exact w_R_isSwaying_e hX hF ho (zP_of hq rfl)
def k_X_sways (X : zX) (G : zG) : ((Int × Int × Int × zM) ⊕ (Int × Int × Int × Int × zM)) → Prop := fun s => match s with
  | .inl (s) => zW X G 6 16 [some (zR 0), some (zI s.1), some (zI s.2.1), some (zR 8), some (zI s.2.2.1), none] [] s.2.2.2
  | .inr (s) => zW X G 6 28 [some (zR 0), some (zI s.1), some (zI s.2.1), some (zR 8), some (zI s.2.2.1), some (zI s.2.2.2.1)] [] s.2.2.2.2
theorem k_X_sways_16 {X : zX} {G : zG} {F : (Int × zM) → Prop} {v1 v2 v4 : Int} {κ : zM} (h : zP (Sum.elim (k_X_sways X G) F) (some (.inl (.inl ((v1, v2, v4, κ)))))) : zW X G 6 16 [some (zR 0), some (zI v1), some (zI v2), some (zR 8), some (zI v4), none] [] κ := h
theorem k_X_sways_28 {X : zX} {G : zG} {F : (Int × zM) → Prop} {v1 v2 v4 v5 : Int} {κ : zM} (h : zP (Sum.elim (k_X_sways X G) F) (some (.inl (.inr ((v1, v2, v4, v5, κ)))))) : zW X G 6 28 [some (zR 0), some (zI v1), some (zI v2), some (zR 8), some (zI v4), some (zI v5)] [] κ := h
set_option maxRecDepth 100000 in
set_option maxHeartbeats 4000000 in
theorem w_X_sways_16 {X : zX} {G : zG} {μ : zM} {rv : Option zV} {ν : zM} (hX : zOk X G cX5_sways RX5 6 (some .int) 5) (hF : zFin X G rv ν) {v1 v2 v4 : Int} (h : zP (Sum.elim (k_X_sways X G) (fun r : (Int × zM) => (some (zI r.1), r.2) = (rv, ν))) (b_X_sways_16 v1 v2 v4 μ)) : zW X G 6 16 [some (zR 0), some (zI v1), some (zI v2), some (zR 8), some (zI v4), none] [] μ := by
  refine zr_iload hX dX5_sways_16 rfl ?_
  refine zr_aload_n hX dX5_sways_18 rfl rfl ?_
  refine zr_callV hX dX5_sways_19 (m_R_towerCount rfl) rfl rfl rfl (z5 ww_341 ww_342 ww_343 ww_74 ww_344) hy_X1_towerCount rfl (Nat.le_of_ble_eq_true rfl) (Nat.le_of_ble_eq_true rfl) (Nat.le_of_ble_eq_true rfl) ?_
  refine zr_icmpge (tgt := 82) hX dX5_sways_22 rfl h (fun h => ?_) (fun h => ?_)
  · refine zr_aload_n hX dX5_sways_82 rfl rfl ?_
    refine zr_iload_n hX dX5_sways_83 rfl rfl ?_
    refine zr_puti hX dX5_sways_84 (k := 9) rfl rfl ww_208 rfl (by decide +kernel) ?_
    refine zr_iload_n hX dX5_sways_87 rfl rfl ?_
    exact zr_iret hX dX5_sways_88 hF h
  · refine zr_iconst hX dX5_sways_25 (zrl rfl) ?_
    refine zr_istore hX dX5_sways_26 (Nat.le_of_ble_eq_true rfl) ?_
    exact zW_lf (k_X_sways_28 h) (And.intro rfl (And.intro rfl (And.intro rfl (And.intro rfl (And.intro rfl (And.intro rfl trivial))))))
set_option maxRecDepth 100000 in
set_option maxHeartbeats 4000000 in
theorem w_X_sways_28 {X : zX} {G : zG} {μ : zM} {rv : Option zV} {ν : zM} (hX : zOk X G cX5_sways RX5 6 (some .int) 5) (hF : zFin X G rv ν) {v1 v2 v4 v5 : Int} (h : zP (Sum.elim (k_X_sways X G) (fun r : (Int × zM) => (some (zI r.1), r.2) = (rv, ν))) (b_X_sways_28 v1 v2 v4 v5 μ)) : zW X G 6 28 [some (zR 0), some (zI v1), some (zI v2), some (zR 8), some (zI v4), some (zI v5)] [] μ := by
  refine zr_iload hX dX5_sways_28 rfl ?_
  refine zr_aload_n hX dX5_sways_30 rfl rfl ?_
  refine zr_iload hX dX5_sways_31 rfl ?_
  refine zP_bind h (fun q1 hq1 h => ?_)
  refine zr_callV hX dX5_sways_33 (m_R_heightOf rfl hq1) rfl rfl rfl (z5 ww_422 ww_359 ww_360 ww_74 ww_361) hy_X1_heightOf rfl (Nat.le_of_ble_eq_true rfl) (Nat.le_of_ble_eq_true rfl) (Nat.le_of_ble_eq_true rfl) ?_
  refine zr_icmpge (tgt := 76) hX dX5_sways_36 rfl h (fun h => ?_) (fun h => ?_)
  · refine zr_iinc hX dX5_sways_76 rfl (Nat.le_of_ble_eq_true rfl) ?_
    refine zr_goto hX dX5_sways_79 (tgt := 16) rfl ?_
    exact zW_lf (k_X_sways_16 h) (And.intro rfl (And.intro rfl (And.intro rfl (And.intro rfl (And.intro rfl trivial)))))
  · refine zr_aload_n hX dX5_sways_39 rfl rfl ?_
    refine zr_iload hX dX5_sways_40 rfl ?_
    refine zr_iload hX dX5_sways_42 rfl ?_
    refine zP_bind h (fun q2 hq2 h => ?_)
    refine zr_callV hX dX5_sways_44 (m_R_isSwaying rfl hq2) rfl rfl rfl (z5 ww_664 ww_665 ww_666 ww_74 ww_667) hy_X1_isSwaying rfl (Nat.le_of_ble_eq_true rfl) (Nat.le_of_ble_eq_true rfl) (Nat.le_of_ble_eq_true rfl) ?_
    refine zr_ifeq (tgt := 70) hX dX5_sways_47 rfl h (fun h => ?_) (fun h => ?_)
    · refine zr_iinc hX dX5_sways_70 rfl (Nat.le_of_ble_eq_true rfl) ?_
      refine zr_goto hX dX5_sways_73 (tgt := 28) rfl ?_
      exact zW_lf (k_X_sways_28 h) (And.intro rfl (And.intro rfl (And.intro rfl (And.intro rfl (And.intro rfl (And.intro rfl trivial))))))
    · refine zr_iload_n hX dX5_sways_50 rfl rfl ?_
      refine zr_ifne (tgt := 65) hX dX5_sways_51 rfl h (fun h => ?_) (fun h => ?_)
      · refine zr_iload_n hX dX5_sways_65 rfl rfl ?_
        refine zr_istore_n hX dX5_sways_66 rfl (Nat.le_of_ble_eq_true rfl) ?_
        refine zr_iinc hX dX5_sways_67 rfl (Nat.le_of_ble_eq_true rfl) ?_
        refine zr_iinc hX dX5_sways_70 rfl (Nat.le_of_ble_eq_true rfl) ?_
        refine zr_goto hX dX5_sways_73 (tgt := 28) rfl ?_
        exact zW_lf (k_X_sways_28 h) (And.intro rfl (And.intro rfl (And.intro rfl (And.intro rfl (And.intro rfl (And.intro rfl trivial))))))
      · refine zr_aload_n hX dX5_sways_54 rfl rfl ?_
        refine zr_iload hX dX5_sways_55 rfl ?_
        refine zr_iload hX dX5_sways_57 rfl ?_
        refine zP_bind h (fun q3 hq3 h => ?_)
        refine zr_callV hX dX5_sways_59 (m_R_numberOf rfl hq3) rfl rfl rfl (z5 ww_484 ww_473 ww_474 ww_74 ww_475) hy_X1_numberOf rfl (Nat.le_of_ble_eq_true rfl) (Nat.le_of_ble_eq_true rfl) (Nat.le_of_ble_eq_true rfl) ?_
        refine zr_goto hX dX5_sways_62 (tgt := 66) rfl ?_
        refine zr_istore_n hX dX5_sways_66 rfl (Nat.le_of_ble_eq_true rfl) ?_
        refine zr_iinc hX dX5_sways_67 rfl (Nat.le_of_ble_eq_true rfl) ?_
        refine zr_iinc hX dX5_sways_70 rfl (Nat.le_of_ble_eq_true rfl) ?_
        refine zr_goto hX dX5_sways_73 (tgt := 28) rfl ?_
        exact zW_lf (k_X_sways_28 h) (And.intro rfl (And.intro rfl (And.intro rfl (And.intro rfl (And.intro rfl (And.intro rfl trivial))))))
set_option maxRecDepth 100000 in
set_option maxHeartbeats 4000000 in
theorem w_X_sways_e {X : zX} {G : zG} {μ : zM} {rv : Option zV} {ν : zM} (hX : zOk X G cX5_sways RX5 6 (some .int) 5) (hF : zFin X G rv ν) (h : zP (Sum.elim (k_X_sways X G) (fun r : (Int × zM) => (some (zI r.1), r.2) = (rv, ν))) (e_X_sways μ)) : zW X G 6 0 [some (zR 0), none, none, none, none, none] [] μ := by
  refine zr_bipush hX dX5_sways_0 rfl ?_
  refine zr_istore_n hX dX5_sways_2 rfl (Nat.le_of_ble_eq_true rfl) ?_
  refine zr_iconst hX dX5_sways_3 (zrl rfl) ?_
  refine zr_istore_n hX dX5_sways_4 rfl (Nat.le_of_ble_eq_true rfl) ?_
  refine zr_aload_n hX dX5_sways_5 rfl rfl ?_
  refine zr_getr hX dX5_sways_6 (k := 2) (q := 7) rfl rfl ww_201 rfl ?_
  refine zr_getrN hX dX5_sways_9 (k := 0) (q := 8) rfl rfl nf_X5_125 rfl ?_
  refine zr_astore_n hX dX5_sways_12 rfl (Nat.le_of_ble_eq_true rfl) ?_
  refine zr_iconst hX dX5_sways_13 (zrl rfl) ?_
  refine zr_istore hX dX5_sways_14 (Nat.le_of_ble_eq_true rfl) ?_
  exact zW_lf (k_X_sways_16 h) (And.intro rfl (And.intro rfl (And.intro rfl (And.intro rfl (And.intro rfl trivial)))))
set_option maxRecDepth 100000 in
theorem m_X_sways {l : Launch} {G : zG} {μ : zM} {q : Int × zM} (hq : f_X_sways μ = some q) : zCT l G yX5_sways cX5_sways 6 (some .int) 5 [zR 0] μ (some (zI q.1)) q.2 := by
  refine zMet (lv := [some (zR 0), none, none, none, none, none]) (k := 5) pl_X5 rfl (Nat.le_of_ble_eq_true rfl) (fun X hl hX hF _ _ => ?_)
  refine w_X_sways_e hX hF (zgo_K (r := q) (step := t_X_sways) (fun s h => ?_) rfl hq)
  cases s with
  | inl s => exact w_X_sways_16 hX hF h
  | inr s => exact w_X_sways_28 hX hF h
def k_R_isSteady (X : zX) (G : zG) (o : Nat) (μ : zM) : (Int ⊕ (Int × Int)) → Prop := fun s => match s with
  | .inl (s) => zW X G 3 2 [some (zR o), some (zI s), none] [] μ
  | .inr (s) => zW X G 3 12 [some (zR o), some (zI s.1), some (zI s.2)] [] μ
theorem k_R_isSteady_2 {X : zX} {G : zG} {o : Nat} {μ : zM} {F : Int → Prop} {v1 : Int} (h : zP (Sum.elim (k_R_isSteady X G o μ) F) (some (.inl (.inl (v1))))) : zW X G 3 2 [some (zR o), some (zI v1), none] [] μ := h
theorem k_R_isSteady_12 {X : zX} {G : zG} {o : Nat} {μ : zM} {F : Int → Prop} {v1 v2 : Int} (h : zP (Sum.elim (k_R_isSteady X G o μ) F) (some (.inl (.inr ((v1, v2)))))) : zW X G 3 12 [some (zR o), some (zI v1), some (zI v2)] [] μ := h
set_option maxRecDepth 100000 in
set_option maxHeartbeats 4000000 in
theorem w_R_isSteady_2 {X : zX} {G : zG} {o : Nat} {μ : zM} {rv : Option zV} {ν : zM} (hX : zOk X G cX1_isSteady RX1 3 (some .boolean) 5) (hF : zFin X G rv ν) (ho : zsh o = (0, 1)) {v1 : Int} (h : zP (Sum.elim (k_R_isSteady X G o μ) (fun r : Int => (some (zI r), μ) = (rv, ν))) (b_R_isSteady_2 o v1 μ)) : zW X G 3 2 [some (zR o), some (zI v1), none] [] μ := by
  refine zr_iload_n hX dX1_isSteady_2 rfl rfl ?_
  refine zr_aload_n hX dX1_isSteady_3 rfl rfl ?_
  refine zr_geti hX dX1_isSteady_4 (k := 0) ho rfl ww_123 ?_
  refine zr_icmpge (tgt := 44) hX dX1_isSteady_7 rfl h (fun h => ?_) (fun h => ?_)
  · refine zr_iconst hX dX1_isSteady_44 (zrl rfl) ?_
    exact zr_bretc hX dX1_isSteady_45 hF (Or.inr rfl) h
  · refine zr_iconst hX dX1_isSteady_10 (zrl rfl) ?_
    refine zr_istore_n hX dX1_isSteady_11 rfl (Nat.le_of_ble_eq_true rfl) ?_
    exact zW_lf (k_R_isSteady_12 h) (And.intro rfl (And.intro rfl (And.intro rfl trivial)))
set_option maxRecDepth 100000 in
set_option maxHeartbeats 4000000 in
theorem w_R_isSteady_12 {X : zX} {G : zG} {o : Nat} {μ : zM} {rv : Option zV} {ν : zM} (hX : zOk X G cX1_isSteady RX1 3 (some .boolean) 5) (hF : zFin X G rv ν) (ho : zsh o = (0, 1)) {v1 v2 : Int} (h : zP (Sum.elim (k_R_isSteady X G o μ) (fun r : Int => (some (zI r), μ) = (rv, ν))) (b_R_isSteady_12 o v1 v2 μ)) : zW X G 3 12 [some (zR o), some (zI v1), some (zI v2)] [] μ := by
  refine zr_iload_n hX dX1_isSteady_12 rfl rfl ?_
  refine zr_aload_n hX dX1_isSteady_13 rfl rfl ?_
  refine zr_iload_n hX dX1_isSteady_14 rfl rfl ?_
  refine zP_bind h (fun q1 hq1 h => ?_)
  refine zr_callV hX dX1_isSteady_15 (m_R_heightOf ho hq1) ho rfl rfl (z5 ww_358 ww_359 ww_360 ww_74 ww_361) hy_X1_heightOf rfl (Nat.le_of_ble_eq_true rfl) (Nat.le_of_ble_eq_true rfl) (Nat.le_of_ble_eq_true rfl) ?_
  refine zr_icmpge (tgt := 38) hX dX1_isSteady_18 rfl h (fun h => ?_) (fun h => ?_)
  · refine zr_iinc hX dX1_isSteady_38 rfl (Nat.le_of_ble_eq_true rfl) ?_
    refine zr_goto hX dX1_isSteady_41 (tgt := 2) rfl ?_
    exact zW_lf (k_R_isSteady_2 h) (And.intro rfl (And.intro rfl trivial))
  · refine zr_aload_n hX dX1_isSteady_21 rfl rfl ?_
    refine zr_iload_n hX dX1_isSteady_22 rfl rfl ?_
    refine zr_iload_n hX dX1_isSteady_23 rfl rfl ?_
    refine zP_bind h (fun q2 hq2 h => ?_)
    refine zr_callV hX dX1_isSteady_24 (m_R_isSwaying ho hq2) ho rfl rfl (z5 ww_681 ww_665 ww_666 ww_74 ww_667) hy_X1_isSwaying rfl (Nat.le_of_ble_eq_true rfl) (Nat.le_of_ble_eq_true rfl) (Nat.le_of_ble_eq_true rfl) ?_
    refine zr_ifeq (tgt := 32) hX dX1_isSteady_27 rfl h (fun h => ?_) (fun h => ?_)
    · refine zr_iinc hX dX1_isSteady_32 rfl (Nat.le_of_ble_eq_true rfl) ?_
      refine zr_goto hX dX1_isSteady_35 (tgt := 12) rfl ?_
      exact zW_lf (k_R_isSteady_12 h) (And.intro rfl (And.intro rfl (And.intro rfl trivial)))
    · refine zr_iconst hX dX1_isSteady_30 (zrl rfl) ?_
      exact zr_bretc hX dX1_isSteady_31 hF (Or.inl rfl) h
set_option maxRecDepth 100000 in
set_option maxHeartbeats 4000000 in
theorem w_R_isSteady_e {X : zX} {G : zG} {o : Nat} {μ : zM} {rv : Option zV} {ν : zM} (hX : zOk X G cX1_isSteady RX1 3 (some .boolean) 5) (hF : zFin X G rv ν) (ho : zsh o = (0, 1)) (h : zP (Sum.elim (k_R_isSteady X G o μ) (fun r : Int => (some (zI r), μ) = (rv, ν))) (e_R_isSteady o μ)) : zW X G 3 0 [some (zR o), none, none] [] μ := by
  refine zr_iconst hX dX1_isSteady_0 (zrl rfl) ?_
  refine zr_istore_n hX dX1_isSteady_1 rfl (Nat.le_of_ble_eq_true rfl) ?_
  exact zW_lf (k_R_isSteady_2 h) (And.intro rfl (And.intro rfl trivial))
set_option maxRecDepth 100000 in
theorem m_R_isSteady {l : Launch} {G : zG} {o : Nat} {μ : zM} (ho : zsh o = (0, 1)) {q : Int} (hq : f_R_isSteady o μ = some q) : zCT l G yX1_isSteady cX1_isSteady 3 (some .boolean) 5 [zR o] μ (some (zI q)) μ := by
  refine zMet (lv := [some (zR o), none, none]) (k := 2) pl_X1 rfl (Nat.le_of_ble_eq_true rfl) (fun X hl hX hF _ _ => ?_)
  refine w_R_isSteady_e hX hF ho (zgo_K (r := q) (step := t_R_isSteady o μ) (fun s h => ?_) rfl hq)
  cases s with
  | inl s => exact w_R_isSteady_2 hX hF ho h
  | inr s => exact w_R_isSteady_12 hX hF ho h
set_option maxRecDepth 100000 in
set_option maxHeartbeats 4000000 in
theorem w_X_lampsWhereSteady_e {X : zX} {G : zG} {o1 : Nat} {μ : zM} {rv : Option zV} {ν : zM} (hX : zOk X G cX5_lampsWhereSteady RX5 2 (some .int) 6) (hF : zFin X G rv ν) (ho1 : zsh o1 = (0, 1)) (h : zP (fun r : (Int × zM) => (some (zI r.1), r.2) = (rv, ν)) (f_X_lampsWhereSteady o1 μ)) : zW X G 2 0 [some (zR 0), some (zR o1)] [] μ := by
  refine zr_aload_n hX dX5_lampsWhereSteady_0 rfl rfl ?_
  refine zP_bind h (fun q1 hq1 h => ?_)
  refine zr_callV hX dX5_lampsWhereSteady_1 (m_R_isSteady ho1 hq1) ho1 rfl rfl (z5 ww_677 ww_678 ww_679 ww_74 ww_680) hy_X1_isSteady rfl (Nat.le_of_ble_eq_true rfl) (Nat.le_of_ble_eq_true rfl) (Nat.le_of_ble_eq_true rfl) ?_
  refine zr_ifne (tgt := 10) hX dX5_lampsWhereSteady_4 rfl h (fun h => ?_) (fun h => ?_)
  · refine zr_aload_n hX dX5_lampsWhereSteady_10 rfl rfl ?_
    refine zr_getr hX dX5_lampsWhereSteady_11 (k := 5) (q := 16) rfl rfl ww_204 rfl ?_
    refine zr_aload_n hX dX5_lampsWhereSteady_14 rfl rfl ?_
    refine zP_bind h (fun q2 hq2 h => ?_)
    refine zr_callV hX dX5_lampsWhereSteady_15 (m_L_reckon ho1 hq2) rfl rfl rfl (z5 ww_432 ww_433 ww_434 ww_75 ww_435) hy_X0_reckon rfl (Nat.le_of_ble_eq_true rfl) (Nat.le_of_ble_eq_true rfl) (Nat.le_of_ble_eq_true rfl) ?_
    refine zr_aload_n hX dX5_lampsWhereSteady_18 rfl rfl ?_
    refine zr_getr hX dX5_lampsWhereSteady_19 (k := 5) (q := 16) rfl rfl ww_204 rfl ?_
    refine zr_getiN hX dX5_lampsWhereSteady_22 (k := 1) rfl rfl nf_X5_217 ?_
    exact zr_iret hX dX5_lampsWhereSteady_25 hF h
  · refine zr_bipush hX dX5_lampsWhereSteady_7 rfl ?_
    exact zr_iret hX dX5_lampsWhereSteady_9 hF h
set_option maxRecDepth 100000 in
theorem m_X_lampsWhereSteady {l : Launch} {G : zG} {o1 : Nat} {μ : zM} (ho1 : zsh o1 = (0, 1)) {q : Int × zM} (hq : f_X_lampsWhereSteady o1 μ = some q) : zCT l G yX5_lampsWhereSteady cX5_lampsWhereSteady 2 (some .int) 6 [zR 0, zR o1] μ (some (zI q.1)) q.2 := by
  refine zMet (lv := [some (zR 0), some (zR o1)]) (k := 0) pl_X5 rfl (Nat.le_of_ble_eq_true rfl) (fun X hl hX hF _ _ => ?_)
  exact w_X_lampsWhereSteady_e hX hF ho1 (zP_of hq rfl)
set_option maxRecDepth 100000 in
set_option maxHeartbeats 4000000 in
theorem w_R_pop_e {X : zX} {G : zG} {o : Nat} {v1 : Int} {μ : zM} {rv : Option zV} {ν : zM} (hX : zOk X G cX1_pop RX1 2 none 4) (hF : zFin X G rv ν) (ho : zsh o = (0, 1)) (h : zP (fun r : zM => ((none : Option zV), r) = (rv, ν)) (f_R_pop o v1 μ)) : zW X G 2 0 [some (zR o), some (zI v1)] [] μ := by
  refine zr_aload_n hX dX1_pop_0 rfl rfl ?_
  refine zr_iload_n hX dX1_pop_1 rfl rfl ?_
  refine zr_aload_n hX dX1_pop_2 rfl rfl ?_
  refine zr_iload_n hX dX1_pop_3 rfl rfl ?_
  refine zP_bind h (fun q1 hq1 h => ?_)
  refine zr_callV hX dX1_pop_4 (m_R_heightOf ho hq1) ho rfl rfl (z5 ww_358 ww_359 ww_360 ww_74 ww_361) hy_X1_heightOf rfl (Nat.le_of_ble_eq_true rfl) (Nat.le_of_ble_eq_true rfl) (Nat.le_of_ble_eq_true rfl) ?_
  refine zr_iconst hX dX1_pop_7 (zrl rfl) ?_
  refine zr_isub hX dX1_pop_8 ?_
  refine zP_bind h (fun q2 hq2 h => ?_)
  refine zr_callV hX dX1_pop_9 (m_R_remove ho hq2) ho rfl rfl (z5 ww_686 ww_579 ww_580 ww_74 ww_581) hy_X1_remove rfl (Nat.le_of_ble_eq_true rfl) (Nat.le_of_ble_eq_true rfl) (Nat.le_of_ble_eq_true rfl) ?_
  exact zr_vret hX dX1_pop_12 hF h
set_option maxRecDepth 100000 in
theorem m_R_pop {l : Launch} {G : zG} {o : Nat} {v1 : Int} {μ : zM} (ho : zsh o = (0, 1)) {q : zM} (hq : f_R_pop o v1 μ = some q) : zCT l G yX1_pop cX1_pop 2 none 4 [zR o, zI v1] μ (none) q := by
  refine zMet (lv := [some (zR o), some (zI v1)]) (k := 0) pl_X1 rfl (Nat.le_of_ble_eq_true rfl) (fun X hl hX hF _ _ => ?_)
  exact w_R_pop_e hX hF ho (zP_of hq rfl)
def k_X_best (X : zX) (G : zG) (v1 : Int) (v2 : Int) : (Int × Int × Int × zM) → Prop := fun s => zW X G 7 55 [some (zR 0), some (zI v1), some (zI v2), some (zI s.1), some (zI s.2.1), some (zI s.2.2.1), none] [] s.2.2.2
theorem k_X_best_55 {X : zX} {G : zG} {v1 : Int} {v2 : Int} {F : (Int × zM) → Prop} {v3 v4 v5 : Int} {κ : zM} (h : zP (Sum.elim (k_X_best X G v1 v2) F) (some (.inl ((v3, v4, v5, κ))))) : zW X G 7 55 [some (zR 0), some (zI v1), some (zI v2), some (zI v3), some (zI v4), some (zI v5), none] [] κ := h
set_option maxRecDepth 100000 in
set_option maxHeartbeats 4000000 in
theorem w_X_best_55 {X : zX} {G : zG} {v1 : Int} {v2 : Int} {μ : zM} {rv : Option zV} {ν : zM} (hX : zOk X G cX5_best RX5 7 (some .int) 7) (hF : zFin X G rv ν) {v3 v4 v5 : Int} (h : zP (Sum.elim (k_X_best X G v1 v2) (fun r : (Int × zM) => (some (zI r.1), r.2) = (rv, ν))) (b_X_best_55 v1 v2 v3 v4 v5 μ)) : zW X G 7 55 [some (zR 0), some (zI v1), some (zI v2), some (zI v3), some (zI v4), some (zI v5), none] [] μ := by
  refine zr_iload hX dX5_best_55 rfl ?_
  refine zr_aload_n hX dX5_best_57 rfl rfl ?_
  refine zr_getr hX dX5_best_58 (k := 4) (q := 13) rfl rfl ww_203 rfl ?_
  refine zr_callV hX dX5_best_61 (m_R_towerCount rfl) rfl rfl rfl (z5 ww_341 ww_342 ww_343 ww_74 ww_344) hy_X1_towerCount rfl (Nat.le_of_ble_eq_true rfl) (Nat.le_of_ble_eq_true rfl) (Nat.le_of_ble_eq_true rfl) ?_
  refine zr_icmpge (tgt := 133) hX dX5_best_64 rfl h (fun h => ?_) (fun h => ?_)
  · refine zr_iload_n hX dX5_best_133 rfl rfl ?_
    refine zr_bipush hX dX5_best_134 rfl ?_
    refine zr_icmpeq (tgt := 145) hX dX5_best_136 rfl h (fun h => ?_) (fun h => ?_)
    · refine zr_iload_n hX dX5_best_145 rfl rfl ?_
      exact zr_iret hX dX5_best_146 hF h
    · refine zr_aload_n hX dX5_best_139 rfl rfl ?_
      refine zr_iload hX dX5_best_140 rfl ?_
      refine zr_puti hX dX5_best_142 (k := 9) rfl rfl ww_208 rfl (by decide +kernel) ?_
      refine zr_iload_n hX dX5_best_145 rfl rfl ?_
      exact zr_iret hX dX5_best_146 hF h
  · refine zr_aload_n hX dX5_best_67 rfl rfl ?_
    refine zr_getr hX dX5_best_68 (k := 4) (q := 13) rfl rfl ww_203 rfl ?_
    refine zr_iload hX dX5_best_71 rfl ?_
    refine zr_iload_n hX dX5_best_73 rfl rfl ?_
    refine zr_iload_n hX dX5_best_74 rfl rfl ?_
    refine zP_bind h (fun q2 hq2 h => ?_)
    refine zr_callV hX dX5_best_75 (m_R_push rfl hq2) rfl rfl rfl (z5 ww_365 ww_366 ww_367 ww_74 ww_368) hy_X1_push rfl (Nat.le_of_ble_eq_true rfl) (Nat.le_of_ble_eq_true rfl) (Nat.le_of_ble_eq_true rfl) ?_
    refine zr_ifeq (tgt := 127) hX dX5_best_78 rfl h (fun h => ?_) (fun h => ?_)
    · refine zr_iinc hX dX5_best_127 rfl (Nat.le_of_ble_eq_true rfl) ?_
      refine zr_goto hX dX5_best_130 (tgt := 55) rfl ?_
      exact zW_lf (k_X_best_55 h) (And.intro rfl (And.intro rfl (And.intro rfl (And.intro rfl (And.intro rfl (And.intro rfl trivial))))))
    · refine zr_aload_n hX dX5_best_81 rfl rfl ?_
      refine zr_aload_n hX dX5_best_82 rfl rfl ?_
      refine zr_getr hX dX5_best_83 (k := 4) (q := 13) rfl rfl ww_203 rfl ?_
      refine zP_bind h (fun q3 hq3 h => ?_)
      refine zr_callV hX dX5_best_86 (m_X_lampsWhereSteady rfl hq3) rfl rfl rfl (z5 ww_673 ww_675 ww_14 ww_70 ww_676) hy_X5_lampsWhereSteady rfl (Nat.le_of_ble_eq_true rfl) (Nat.le_of_ble_eq_true rfl) (Nat.le_of_ble_eq_true rfl) ?_
      refine zr_istore hX dX5_best_89 (Nat.le_of_ble_eq_true rfl) ?_
      refine zr_iload hX dX5_best_91 rfl ?_
      refine zr_bipush hX dX5_best_93 rfl ?_
      refine zr_icmpeq (tgt := 118) hX dX5_best_95 rfl h (fun h => ?_) (fun h => ?_)
      · refine zr_aload_n hX dX5_best_118 rfl rfl ?_
        refine zr_getr hX dX5_best_119 (k := 4) (q := 13) rfl rfl ww_203 rfl ?_
        refine zr_iload hX dX5_best_122 rfl ?_
        refine zP_bind h (fun q4 hq4 h => ?_)
        refine zr_callV hX dX5_best_124 (m_R_pop rfl hq4) rfl rfl rfl (z5 ww_682 ww_683 ww_684 ww_74 ww_685) hy_X1_pop rfl (Nat.le_of_ble_eq_true rfl) (Nat.le_of_ble_eq_true rfl) (Nat.le_of_ble_eq_true rfl) ?_
        refine zr_iinc hX dX5_best_127 rfl (Nat.le_of_ble_eq_true rfl) ?_
        refine zr_goto hX dX5_best_130 (tgt := 55) rfl ?_
        exact zW_lf (k_X_best_55 h) (And.intro rfl (And.intro rfl (And.intro rfl (And.intro rfl (And.intro rfl (And.intro rfl trivial))))))
      · refine zr_iload_n hX dX5_best_98 rfl rfl ?_
        refine zr_bipush hX dX5_best_99 rfl ?_
        refine zr_icmpeq (tgt := 111) hX dX5_best_101 rfl h (fun h => ?_) (fun h => ?_)
        · refine zr_iload hX dX5_best_111 rfl ?_
          refine zr_istore_n hX dX5_best_113 rfl (Nat.le_of_ble_eq_true rfl) ?_
          refine zr_iload hX dX5_best_114 rfl ?_
          refine zr_istore hX dX5_best_116 (Nat.le_of_ble_eq_true rfl) ?_
          refine zr_aload_n hX dX5_best_118 rfl rfl ?_
          refine zr_getr hX dX5_best_119 (k := 4) (q := 13) rfl rfl ww_203 rfl ?_
          refine zr_iload hX dX5_best_122 rfl ?_
          refine zP_bind h (fun q5 hq5 h => ?_)
          refine zr_callV hX dX5_best_124 (m_R_pop rfl hq5) rfl rfl rfl (z5 ww_682 ww_683 ww_684 ww_74 ww_685) hy_X1_pop rfl (Nat.le_of_ble_eq_true rfl) (Nat.le_of_ble_eq_true rfl) (Nat.le_of_ble_eq_true rfl) ?_
          refine zr_iinc hX dX5_best_127 rfl (Nat.le_of_ble_eq_true rfl) ?_
          refine zr_goto hX dX5_best_130 (tgt := 55) rfl ?_
          exact zW_lf (k_X_best_55 h) (And.intro rfl (And.intro rfl (And.intro rfl (And.intro rfl (And.intro rfl (And.intro rfl trivial))))))
        · refine zr_iload hX dX5_best_104 rfl ?_
          refine zr_iload hX dX5_best_106 rfl ?_
          refine zr_icmpge (tgt := 118) hX dX5_best_108 rfl h (fun h => ?_) (fun h => ?_)
          · refine zr_aload_n hX dX5_best_118 rfl rfl ?_
            refine zr_getr hX dX5_best_119 (k := 4) (q := 13) rfl rfl ww_203 rfl ?_
            refine zr_iload hX dX5_best_122 rfl ?_
            refine zP_bind h (fun q6 hq6 h => ?_)
            refine zr_callV hX dX5_best_124 (m_R_pop rfl hq6) rfl rfl rfl (z5 ww_682 ww_683 ww_684 ww_74 ww_685) hy_X1_pop rfl (Nat.le_of_ble_eq_true rfl) (Nat.le_of_ble_eq_true rfl) (Nat.le_of_ble_eq_true rfl) ?_
            refine zr_iinc hX dX5_best_127 rfl (Nat.le_of_ble_eq_true rfl) ?_
            refine zr_goto hX dX5_best_130 (tgt := 55) rfl ?_
            exact zW_lf (k_X_best_55 h) (And.intro rfl (And.intro rfl (And.intro rfl (And.intro rfl (And.intro rfl (And.intro rfl trivial))))))
          · refine zr_iload hX dX5_best_111 rfl ?_
            refine zr_istore_n hX dX5_best_113 rfl (Nat.le_of_ble_eq_true rfl) ?_
            refine zr_iload hX dX5_best_114 rfl ?_
            refine zr_istore hX dX5_best_116 (Nat.le_of_ble_eq_true rfl) ?_
            refine zr_aload_n hX dX5_best_118 rfl rfl ?_
            refine zr_getr hX dX5_best_119 (k := 4) (q := 13) rfl rfl ww_203 rfl ?_
            refine zr_iload hX dX5_best_122 rfl ?_
            refine zP_bind h (fun q7 hq7 h => ?_)
            refine zr_callV hX dX5_best_124 (m_R_pop rfl hq7) rfl rfl rfl (z5 ww_682 ww_683 ww_684 ww_74 ww_685) hy_X1_pop rfl (Nat.le_of_ble_eq_true rfl) (Nat.le_of_ble_eq_true rfl) (Nat.le_of_ble_eq_true rfl) ?_
            refine zr_iinc hX dX5_best_127 rfl (Nat.le_of_ble_eq_true rfl) ?_
            refine zr_goto hX dX5_best_130 (tgt := 55) rfl ?_
            exact zW_lf (k_X_best_55 h) (And.intro rfl (And.intro rfl (And.intro rfl (And.intro rfl (And.intro rfl (And.intro rfl trivial))))))
set_option maxRecDepth 100000 in
set_option maxHeartbeats 4000000 in
theorem w_X_best_e {X : zX} {G : zG} {v1 : Int} {v2 : Int} {μ : zM} {rv : Option zV} {ν : zM} (hX : zOk X G cX5_best RX5 7 (some .int) 7) (hF : zFin X G rv ν) (h : zP (Sum.elim (k_X_best X G v1 v2) (fun r : (Int × zM) => (some (zI r.1), r.2) = (rv, ν))) (e_X_best v1 v2 μ)) : zW X G 7 0 [some (zR 0), some (zI v1), some (zI v2), none, none, none, none] [] μ := by
  refine zr_iload_n hX dX5_best_0 rfl rfl ?_
  refine zr_callS hX dX5_best_1 (m_X_isKind) rfl (z4 ww_523 ww_524 ww_70 ww_525) hy_X5_isKind rfl (Nat.le_of_ble_eq_true rfl) (Nat.le_of_ble_eq_true rfl) (Nat.le_of_ble_eq_true rfl) ?_
  refine zr_ifeq (tgt := 14) hX dX5_best_4 rfl h (fun h => ?_) (fun h => ?_)
  · refine zr_iconst hX dX5_best_14 (zrl rfl) ?_
    exact zr_iret hX dX5_best_15 hF h
  · refine zr_iload_n hX dX5_best_7 rfl rfl ?_
    refine zr_callS hX dX5_best_8 (m_X_isBorne) rfl (z4 ww_362 ww_363 ww_70 ww_364) hy_X5_isBorne rfl (Nat.le_of_ble_eq_true rfl) (Nat.le_of_ble_eq_true rfl) (Nat.le_of_ble_eq_true rfl) ?_
    refine zr_ifne (tgt := 16) hX dX5_best_11 rfl h (fun h => ?_) (fun h => ?_)
    · refine zr_aload_n hX dX5_best_16 rfl rfl ?_
      refine zr_getr hX dX5_best_17 (k := 2) (q := 7) rfl rfl ww_201 rfl ?_
      refine zr_getrN hX dX5_best_20 (k := 0) (q := 8) rfl rfl nf_X5_125 rfl ?_
      refine zr_callV hX dX5_best_23 (m_R_towerCount rfl) rfl rfl rfl (z5 ww_341 ww_342 ww_343 ww_74 ww_344) hy_X1_towerCount rfl (Nat.le_of_ble_eq_true rfl) (Nat.le_of_ble_eq_true rfl) (Nat.le_of_ble_eq_true rfl) ?_
      refine zr_ifne (tgt := 32) hX dX5_best_26 rfl h (fun h => ?_) (fun h => ?_)
      · refine zr_aload_n hX dX5_best_32 rfl rfl ?_
        refine zr_getr hX dX5_best_33 (k := 4) (q := 13) rfl rfl ww_203 rfl ?_
        refine zr_aload_n hX dX5_best_36 rfl rfl ?_
        refine zr_getr hX dX5_best_37 (k := 2) (q := 7) rfl rfl ww_201 rfl ?_
        refine zr_getrN hX dX5_best_40 (k := 0) (q := 8) rfl rfl nf_X5_125 rfl ?_
        refine zP_bind h (fun q1 hq1 h => ?_)
        refine zr_callV hX dX5_best_43 (m_R_takeFrom rfl rfl hq1) rfl rfl rfl (z5 ww_544 ww_387 ww_388 ww_74 ww_389) hy_X1_takeFrom rfl (Nat.le_of_ble_eq_true rfl) (Nat.le_of_ble_eq_true rfl) (Nat.le_of_ble_eq_true rfl) ?_
        refine zr_bipush hX dX5_best_46 rfl ?_
        refine zr_istore_n hX dX5_best_48 rfl (Nat.le_of_ble_eq_true rfl) ?_
        refine zr_iconst hX dX5_best_49 (zrl rfl) ?_
        refine zr_istore hX dX5_best_50 (Nat.le_of_ble_eq_true rfl) ?_
        refine zr_iconst hX dX5_best_52 (zrl rfl) ?_
        refine zr_istore hX dX5_best_53 (Nat.le_of_ble_eq_true rfl) ?_
        exact zW_lf (k_X_best_55 h) (And.intro rfl (And.intro rfl (And.intro rfl (And.intro rfl (And.intro rfl (And.intro rfl trivial))))))
      · refine zr_bipush hX dX5_best_29 rfl ?_
        exact zr_iret hX dX5_best_31 hF h
    · refine zr_iconst hX dX5_best_14 (zrl rfl) ?_
      exact zr_iret hX dX5_best_15 hF h
set_option maxRecDepth 100000 in
theorem m_X_best {l : Launch} {G : zG} {v1 : Int} {v2 : Int} {μ : zM} {q : Int × zM} (hq : f_X_best v1 v2 μ = some q) : zCT l G yX5_best cX5_best 7 (some .int) 7 [zR 0, zI v1, zI v2] μ (some (zI q.1)) q.2 := by
  refine zMet (lv := [some (zR 0), some (zI v1), some (zI v2), none, none, none, none]) (k := 4) pl_X5 rfl (Nat.le_of_ble_eq_true rfl) (fun X hl hX hF _ _ => ?_)
  refine w_X_best_e hX hF (zgo_K (r := q) (step := t_X_best v1 v2) (fun s h => ?_) rfl hq)
  exact w_X_best_55 hX hF h
def k_X_both (X : zX) (G : zG) (v1 : Int) (v2 : Int) (v3 : Int) : ((Int × Int × Int × Int × zM) ⊕ (Int × Int × Int × Int × Int × zM)) → Prop := fun s => match s with
  | .inl (s) => zW X G 10 67 [some (zR 0), some (zI v1), some (zI v2), some (zI v3), some (zI s.1), some (zI s.2.1), some (zI s.2.2.1), some (zI s.2.2.2.1), none, none] [] s.2.2.2.2
  | .inr (s) => zW X G 10 94 [some (zR 0), some (zI v1), some (zI v2), some (zI v3), some (zI s.1), some (zI s.2.1), some (zI s.2.2.1), some (zI s.2.2.2.1), some (zI s.2.2.2.2.1), none] [] s.2.2.2.2.2
theorem k_X_both_67 {X : zX} {G : zG} {v1 : Int} {v2 : Int} {v3 : Int} {F : (Int × zM) → Prop} {v4 v5 v6 v7 : Int} {κ : zM} (h : zP (Sum.elim (k_X_both X G v1 v2 v3) F) (some (.inl (.inl ((v4, v5, v6, v7, κ)))))) : zW X G 10 67 [some (zR 0), some (zI v1), some (zI v2), some (zI v3), some (zI v4), some (zI v5), some (zI v6), some (zI v7), none, none] [] κ := h
theorem k_X_both_94 {X : zX} {G : zG} {v1 : Int} {v2 : Int} {v3 : Int} {F : (Int × zM) → Prop} {v4 v5 v6 v7 v8 : Int} {κ : zM} (h : zP (Sum.elim (k_X_both X G v1 v2 v3) F) (some (.inl (.inr ((v4, v5, v6, v7, v8, κ)))))) : zW X G 10 94 [some (zR 0), some (zI v1), some (zI v2), some (zI v3), some (zI v4), some (zI v5), some (zI v6), some (zI v7), some (zI v8), none] [] κ := h
set_option maxRecDepth 100000 in
set_option maxHeartbeats 4000000 in
theorem w_X_both_67 {X : zX} {G : zG} {v1 : Int} {v2 : Int} {v3 : Int} {μ : zM} {rv : Option zV} {ν : zM} (hX : zOk X G cX5_both RX5 10 (some .int) 7) (hF : zFin X G rv ν) {v4 v5 v6 v7 : Int} (h : zP (Sum.elim (k_X_both X G v1 v2 v3) (fun r : (Int × zM) => (some (zI r.1), r.2) = (rv, ν))) (b_X_both_67 v1 v2 v3 v4 v5 v6 v7 μ)) : zW X G 10 67 [some (zR 0), some (zI v1), some (zI v2), some (zI v3), some (zI v4), some (zI v5), some (zI v6), some (zI v7), none, none] [] μ := by
  refine zr_iload hX dX5_both_67 rfl ?_
  refine zr_iload hX dX5_both_69 rfl ?_
  refine zr_icmpge (tgt := 190) hX dX5_both_71 rfl h (fun h => ?_) (fun h => ?_)
  · refine zr_iload hX dX5_both_190 rfl ?_
    refine zr_bipush hX dX5_both_192 rfl ?_
    refine zr_icmpeq (tgt := 203) hX dX5_both_194 rfl h (fun h => ?_) (fun h => ?_)
    · refine zr_iload hX dX5_both_203 rfl ?_
      exact zr_iret hX dX5_both_205 hF h
    · refine zr_aload_n hX dX5_both_197 rfl rfl ?_
      refine zr_iload hX dX5_both_198 rfl ?_
      refine zr_puti hX dX5_both_200 (k := 9) rfl rfl ww_208 rfl (by decide +kernel) ?_
      refine zr_iload hX dX5_both_203 rfl ?_
      exact zr_iret hX dX5_both_205 hF h
  · refine zr_aload_n hX dX5_both_74 rfl rfl ?_
    refine zr_getr hX dX5_both_75 (k := 4) (q := 13) rfl rfl ww_203 rfl ?_
    refine zr_iload hX dX5_both_78 rfl ?_
    refine zr_iload_n hX dX5_both_80 rfl rfl ?_
    refine zr_iload_n hX dX5_both_81 rfl rfl ?_
    refine zP_bind h (fun q2 hq2 h => ?_)
    refine zr_callV hX dX5_both_82 (m_R_push rfl hq2) rfl rfl rfl (z5 ww_365 ww_366 ww_367 ww_74 ww_368) hy_X1_push rfl (Nat.le_of_ble_eq_true rfl) (Nat.le_of_ble_eq_true rfl) (Nat.le_of_ble_eq_true rfl) ?_
    refine zr_ifne (tgt := 91) hX dX5_both_85 rfl h (fun h => ?_) (fun h => ?_)
    · refine zr_iconst hX dX5_both_91 (zrl rfl) ?_
      refine zr_istore hX dX5_both_92 (Nat.le_of_ble_eq_true rfl) ?_
      exact zW_lf (k_X_both_94 h) (And.intro rfl (And.intro rfl (And.intro rfl (And.intro rfl (And.intro rfl (And.intro rfl (And.intro rfl (And.intro rfl (And.intro rfl trivial)))))))))
    · refine zr_goto hX dX5_both_88 (tgt := 184) rfl ?_
      refine zr_iinc hX dX5_both_184 rfl (Nat.le_of_ble_eq_true rfl) ?_
      refine zr_goto hX dX5_both_187 (tgt := 67) rfl ?_
      exact zW_lf (k_X_both_67 h) (And.intro rfl (And.intro rfl (And.intro rfl (And.intro rfl (And.intro rfl (And.intro rfl (And.intro rfl (And.intro rfl trivial))))))))
set_option maxRecDepth 100000 in
set_option maxHeartbeats 4000000 in
theorem w_X_both_94 {X : zX} {G : zG} {v1 : Int} {v2 : Int} {v3 : Int} {μ : zM} {rv : Option zV} {ν : zM} (hX : zOk X G cX5_both RX5 10 (some .int) 7) (hF : zFin X G rv ν) {v4 v5 v6 v7 v8 : Int} (h : zP (Sum.elim (k_X_both X G v1 v2 v3) (fun r : (Int × zM) => (some (zI r.1), r.2) = (rv, ν))) (b_X_both_94 v1 v2 v3 v4 v5 v6 v7 v8 μ)) : zW X G 10 94 [some (zR 0), some (zI v1), some (zI v2), some (zI v3), some (zI v4), some (zI v5), some (zI v6), some (zI v7), some (zI v8), none] [] μ := by
  refine zr_iload hX dX5_both_94 rfl ?_
  refine zr_iload hX dX5_both_96 rfl ?_
  refine zr_icmpge (tgt := 175) hX dX5_both_98 rfl h (fun h => ?_) (fun h => ?_)
  · refine zr_aload_n hX dX5_both_175 rfl rfl ?_
    refine zr_getr hX dX5_both_176 (k := 4) (q := 13) rfl rfl ww_203 rfl ?_
    refine zr_iload hX dX5_both_179 rfl ?_
    refine zP_bind h (fun q3 hq3 h => ?_)
    refine zr_callV hX dX5_both_181 (m_R_pop rfl hq3) rfl rfl rfl (z5 ww_682 ww_683 ww_684 ww_74 ww_685) hy_X1_pop rfl (Nat.le_of_ble_eq_true rfl) (Nat.le_of_ble_eq_true rfl) (Nat.le_of_ble_eq_true rfl) ?_
    refine zr_iinc hX dX5_both_184 rfl (Nat.le_of_ble_eq_true rfl) ?_
    refine zr_goto hX dX5_both_187 (tgt := 67) rfl ?_
    exact zW_lf (k_X_both_67 h) (And.intro rfl (And.intro rfl (And.intro rfl (And.intro rfl (And.intro rfl (And.intro rfl (And.intro rfl (And.intro rfl trivial))))))))
  · refine zr_aload_n hX dX5_both_101 rfl rfl ?_
    refine zr_getr hX dX5_both_102 (k := 4) (q := 13) rfl rfl ww_203 rfl ?_
    refine zr_iload hX dX5_both_105 rfl ?_
    refine zr_iload_n hX dX5_both_107 rfl rfl ?_
    refine zr_iload_n hX dX5_both_108 rfl rfl ?_
    refine zP_bind h (fun q4 hq4 h => ?_)
    refine zr_callV hX dX5_both_109 (m_R_push rfl hq4) rfl rfl rfl (z5 ww_365 ww_366 ww_367 ww_74 ww_368) hy_X1_push rfl (Nat.le_of_ble_eq_true rfl) (Nat.le_of_ble_eq_true rfl) (Nat.le_of_ble_eq_true rfl) ?_
    refine zr_ifeq (tgt := 169) hX dX5_both_112 rfl h (fun h => ?_) (fun h => ?_)
    · refine zr_iinc hX dX5_both_169 rfl (Nat.le_of_ble_eq_true rfl) ?_
      refine zr_goto hX dX5_both_172 (tgt := 94) rfl ?_
      exact zW_lf (k_X_both_94 h) (And.intro rfl (And.intro rfl (And.intro rfl (And.intro rfl (And.intro rfl (And.intro rfl (And.intro rfl (And.intro rfl (And.intro rfl trivial)))))))))
    · refine zr_aload_n hX dX5_both_115 rfl rfl ?_
      refine zr_aload_n hX dX5_both_116 rfl rfl ?_
      refine zr_getr hX dX5_both_117 (k := 4) (q := 13) rfl rfl ww_203 rfl ?_
      refine zP_bind h (fun q5 hq5 h => ?_)
      refine zr_callV hX dX5_both_120 (m_X_lampsWhereSteady rfl hq5) rfl rfl rfl (z5 ww_673 ww_675 ww_14 ww_70 ww_676) hy_X5_lampsWhereSteady rfl (Nat.le_of_ble_eq_true rfl) (Nat.le_of_ble_eq_true rfl) (Nat.le_of_ble_eq_true rfl) ?_
      refine zr_istore hX dX5_both_123 (Nat.le_of_ble_eq_true rfl) ?_
      refine zr_iload hX dX5_both_125 rfl ?_
      refine zr_bipush hX dX5_both_127 rfl ?_
      refine zr_icmpeq (tgt := 160) hX dX5_both_129 rfl h (fun h => ?_) (fun h => ?_)
      · refine zr_aload_n hX dX5_both_160 rfl rfl ?_
        refine zr_getr hX dX5_both_161 (k := 4) (q := 13) rfl rfl ww_203 rfl ?_
        refine zr_iload hX dX5_both_164 rfl ?_
        refine zP_bind h (fun q6 hq6 h => ?_)
        refine zr_callV hX dX5_both_166 (m_R_pop rfl hq6) rfl rfl rfl (z5 ww_682 ww_683 ww_684 ww_74 ww_685) hy_X1_pop rfl (Nat.le_of_ble_eq_true rfl) (Nat.le_of_ble_eq_true rfl) (Nat.le_of_ble_eq_true rfl) ?_
        refine zr_iinc hX dX5_both_169 rfl (Nat.le_of_ble_eq_true rfl) ?_
        refine zr_goto hX dX5_both_172 (tgt := 94) rfl ?_
        exact zW_lf (k_X_both_94 h) (And.intro rfl (And.intro rfl (And.intro rfl (And.intro rfl (And.intro rfl (And.intro rfl (And.intro rfl (And.intro rfl (And.intro rfl trivial)))))))))
      · refine zr_iload hX dX5_both_132 rfl ?_
        refine zr_bipush hX dX5_both_134 rfl ?_
        refine zr_icmpeq (tgt := 146) hX dX5_both_136 rfl h (fun h => ?_) (fun h => ?_)
        · refine zr_bipush hX dX5_both_146 rfl ?_
          refine zr_iload hX dX5_both_148 rfl ?_
          refine zr_imul hX dX5_both_150 ?_
          refine zr_iload hX dX5_both_151 rfl ?_
          refine zr_iadd hX dX5_both_153 ?_
          refine zr_istore hX dX5_both_154 (Nat.le_of_ble_eq_true rfl) ?_
          refine zr_iload hX dX5_both_156 rfl ?_
          refine zr_istore hX dX5_both_158 (Nat.le_of_ble_eq_true rfl) ?_
          refine zr_aload_n hX dX5_both_160 rfl rfl ?_
          refine zr_getr hX dX5_both_161 (k := 4) (q := 13) rfl rfl ww_203 rfl ?_
          refine zr_iload hX dX5_both_164 rfl ?_
          refine zP_bind h (fun q7 hq7 h => ?_)
          refine zr_callV hX dX5_both_166 (m_R_pop rfl hq7) rfl rfl rfl (z5 ww_682 ww_683 ww_684 ww_74 ww_685) hy_X1_pop rfl (Nat.le_of_ble_eq_true rfl) (Nat.le_of_ble_eq_true rfl) (Nat.le_of_ble_eq_true rfl) ?_
          refine zr_iinc hX dX5_both_169 rfl (Nat.le_of_ble_eq_true rfl) ?_
          refine zr_goto hX dX5_both_172 (tgt := 94) rfl ?_
          exact zW_lf (k_X_both_94 h) (And.intro rfl (And.intro rfl (And.intro rfl (And.intro rfl (And.intro rfl (And.intro rfl (And.intro rfl (And.intro rfl (And.intro rfl trivial)))))))))
        · refine zr_iload hX dX5_both_139 rfl ?_
          refine zr_iload hX dX5_both_141 rfl ?_
          refine zr_icmpge (tgt := 160) hX dX5_both_143 rfl h (fun h => ?_) (fun h => ?_)
          · refine zr_aload_n hX dX5_both_160 rfl rfl ?_
            refine zr_getr hX dX5_both_161 (k := 4) (q := 13) rfl rfl ww_203 rfl ?_
            refine zr_iload hX dX5_both_164 rfl ?_
            refine zP_bind h (fun q8 hq8 h => ?_)
            refine zr_callV hX dX5_both_166 (m_R_pop rfl hq8) rfl rfl rfl (z5 ww_682 ww_683 ww_684 ww_74 ww_685) hy_X1_pop rfl (Nat.le_of_ble_eq_true rfl) (Nat.le_of_ble_eq_true rfl) (Nat.le_of_ble_eq_true rfl) ?_
            refine zr_iinc hX dX5_both_169 rfl (Nat.le_of_ble_eq_true rfl) ?_
            refine zr_goto hX dX5_both_172 (tgt := 94) rfl ?_
            exact zW_lf (k_X_both_94 h) (And.intro rfl (And.intro rfl (And.intro rfl (And.intro rfl (And.intro rfl (And.intro rfl (And.intro rfl (And.intro rfl (And.intro rfl trivial)))))))))
          · refine zr_bipush hX dX5_both_146 rfl ?_
            refine zr_iload hX dX5_both_148 rfl ?_
            refine zr_imul hX dX5_both_150 ?_
            refine zr_iload hX dX5_both_151 rfl ?_
            refine zr_iadd hX dX5_both_153 ?_
            refine zr_istore hX dX5_both_154 (Nat.le_of_ble_eq_true rfl) ?_
            refine zr_iload hX dX5_both_156 rfl ?_
            refine zr_istore hX dX5_both_158 (Nat.le_of_ble_eq_true rfl) ?_
            refine zr_aload_n hX dX5_both_160 rfl rfl ?_
            refine zr_getr hX dX5_both_161 (k := 4) (q := 13) rfl rfl ww_203 rfl ?_
            refine zr_iload hX dX5_both_164 rfl ?_
            refine zP_bind h (fun q9 hq9 h => ?_)
            refine zr_callV hX dX5_both_166 (m_R_pop rfl hq9) rfl rfl rfl (z5 ww_682 ww_683 ww_684 ww_74 ww_685) hy_X1_pop rfl (Nat.le_of_ble_eq_true rfl) (Nat.le_of_ble_eq_true rfl) (Nat.le_of_ble_eq_true rfl) ?_
            refine zr_iinc hX dX5_both_169 rfl (Nat.le_of_ble_eq_true rfl) ?_
            refine zr_goto hX dX5_both_172 (tgt := 94) rfl ?_
            exact zW_lf (k_X_both_94 h) (And.intro rfl (And.intro rfl (And.intro rfl (And.intro rfl (And.intro rfl (And.intro rfl (And.intro rfl (And.intro rfl (And.intro rfl trivial)))))))))
set_option maxRecDepth 100000 in
set_option maxHeartbeats 4000000 in
theorem w_X_both_e {X : zX} {G : zG} {v1 : Int} {v2 : Int} {v3 : Int} {μ : zM} {rv : Option zV} {ν : zM} (hX : zOk X G cX5_both RX5 10 (some .int) 7) (hF : zFin X G rv ν) (h : zP (Sum.elim (k_X_both X G v1 v2 v3) (fun r : (Int × zM) => (some (zI r.1), r.2) = (rv, ν))) (e_X_both v1 v2 v3 μ)) : zW X G 10 0 [some (zR 0), some (zI v1), some (zI v2), some (zI v3), none, none, none, none, none, none] [] μ := by
  refine zr_iload_n hX dX5_both_0 rfl rfl ?_
  refine zr_callS hX dX5_both_1 (m_X_isKind) rfl (z4 ww_523 ww_524 ww_70 ww_525) hy_X5_isKind rfl (Nat.le_of_ble_eq_true rfl) (Nat.le_of_ble_eq_true rfl) (Nat.le_of_ble_eq_true rfl) ?_
  refine zr_ifeq (tgt := 21) hX dX5_both_4 rfl h (fun h => ?_) (fun h => ?_)
  · refine zr_iconst hX dX5_both_21 (zrl rfl) ?_
    exact zr_iret hX dX5_both_22 hF h
  · refine zr_iload_n hX dX5_both_7 rfl rfl ?_
    refine zr_callS hX dX5_both_8 (m_X_isKind) rfl (z4 ww_523 ww_524 ww_70 ww_525) hy_X5_isKind rfl (Nat.le_of_ble_eq_true rfl) (Nat.le_of_ble_eq_true rfl) (Nat.le_of_ble_eq_true rfl) ?_
    refine zr_ifeq (tgt := 21) hX dX5_both_11 rfl h (fun h => ?_) (fun h => ?_)
    · refine zr_iconst hX dX5_both_21 (zrl rfl) ?_
      exact zr_iret hX dX5_both_22 hF h
    · refine zr_iload_n hX dX5_both_14 rfl rfl ?_
      refine zr_callS hX dX5_both_15 (m_X_isBorne) rfl (z4 ww_362 ww_363 ww_70 ww_364) hy_X5_isBorne rfl (Nat.le_of_ble_eq_true rfl) (Nat.le_of_ble_eq_true rfl) (Nat.le_of_ble_eq_true rfl) ?_
      refine zr_ifne (tgt := 23) hX dX5_both_18 rfl h (fun h => ?_) (fun h => ?_)
      · refine zr_aload_n hX dX5_both_23 rfl rfl ?_
        refine zr_getr hX dX5_both_24 (k := 2) (q := 7) rfl rfl ww_201 rfl ?_
        refine zr_getrN hX dX5_both_27 (k := 0) (q := 8) rfl rfl nf_X5_125 rfl ?_
        refine zr_callV hX dX5_both_30 (m_R_towerCount rfl) rfl rfl rfl (z5 ww_341 ww_342 ww_343 ww_74 ww_344) hy_X1_towerCount rfl (Nat.le_of_ble_eq_true rfl) (Nat.le_of_ble_eq_true rfl) (Nat.le_of_ble_eq_true rfl) ?_
        refine zr_istore hX dX5_both_33 (Nat.le_of_ble_eq_true rfl) ?_
        refine zr_iload hX dX5_both_35 rfl ?_
        refine zr_ifne (tgt := 43) hX dX5_both_37 rfl h (fun h => ?_) (fun h => ?_)
        · refine zr_aload_n hX dX5_both_43 rfl rfl ?_
          refine zr_getr hX dX5_both_44 (k := 4) (q := 13) rfl rfl ww_203 rfl ?_
          refine zr_aload_n hX dX5_both_47 rfl rfl ?_
          refine zr_getr hX dX5_both_48 (k := 2) (q := 7) rfl rfl ww_201 rfl ?_
          refine zr_getrN hX dX5_both_51 (k := 0) (q := 8) rfl rfl nf_X5_125 rfl ?_
          refine zP_bind h (fun q1 hq1 h => ?_)
          refine zr_callV hX dX5_both_54 (m_R_takeFrom rfl rfl hq1) rfl rfl rfl (z5 ww_544 ww_387 ww_388 ww_74 ww_389) hy_X1_takeFrom rfl (Nat.le_of_ble_eq_true rfl) (Nat.le_of_ble_eq_true rfl) (Nat.le_of_ble_eq_true rfl) ?_
          refine zr_bipush hX dX5_both_57 rfl ?_
          refine zr_istore hX dX5_both_59 (Nat.le_of_ble_eq_true rfl) ?_
          refine zr_iconst hX dX5_both_61 (zrl rfl) ?_
          refine zr_istore hX dX5_both_62 (Nat.le_of_ble_eq_true rfl) ?_
          refine zr_iconst hX dX5_both_64 (zrl rfl) ?_
          refine zr_istore hX dX5_both_65 (Nat.le_of_ble_eq_true rfl) ?_
          exact zW_lf (k_X_both_67 h) (And.intro rfl (And.intro rfl (And.intro rfl (And.intro rfl (And.intro rfl (And.intro rfl (And.intro rfl (And.intro rfl trivial))))))))
        · refine zr_bipush hX dX5_both_40 rfl ?_
          exact zr_iret hX dX5_both_42 hF h
      · refine zr_iconst hX dX5_both_21 (zrl rfl) ?_
        exact zr_iret hX dX5_both_22 hF h
set_option maxRecDepth 100000 in
theorem m_X_both {l : Launch} {G : zG} {v1 : Int} {v2 : Int} {v3 : Int} {μ : zM} {q : Int × zM} (hq : f_X_both v1 v2 v3 μ = some q) : zCT l G yX5_both cX5_both 10 (some .int) 7 [zR 0, zI v1, zI v2, zI v3] μ (some (zI q.1)) q.2 := by
  refine zMet (lv := [some (zR 0), some (zI v1), some (zI v2), some (zI v3), none, none, none, none, none, none]) (k := 6) pl_X5 rfl (Nat.le_of_ble_eq_true rfl) (fun X hl hX hF _ _ => ?_)
  refine w_X_both_e hX hF (zgo_K (r := q) (step := t_X_both v1 v2 v3) (fun s h => ?_) rfl hq)
  cases s with
  | inl s => exact w_X_both_67 hX hF h
  | inr s => exact w_X_both_94 hX hF h
def k_X_fewest (X : zX) (G : zG) : (Int × Int × Int × Int × zM) → Prop := fun s => zW X G 6 20 [some (zR 0), some (zI s.1), some (zI s.2.1), some (zI s.2.2.1), some (zI s.2.2.2.1), none] [] s.2.2.2.2
theorem k_X_fewest_20 {X : zX} {G : zG} {F : (Int × zM) → Prop} {v1 v2 v3 v4 : Int} {κ : zM} (h : zP (Sum.elim (k_X_fewest X G) F) (some (.inl ((v1, v2, v3, v4, κ))))) : zW X G 6 20 [some (zR 0), some (zI v1), some (zI v2), some (zI v3), some (zI v4), none] [] κ := h
set_option maxRecDepth 100000 in
set_option maxHeartbeats 4000000 in
theorem w_X_fewest_81 {X : zX} {G : zG} {μ : zM} {rv : Option zV} {ν : zM} (hX : zOk X G cX5_fewest RX5 6 (some .int) 6) (hF : zFin X G rv ν) {v1 v2 : Int} (h : zP (Sum.elim (k_X_fewest X G) (fun r : (Int × zM) => (some (zI r.1), r.2) = (rv, ν))) (j_X_fewest_81 v1 v2 μ)) : zW X G 6 81 [some (zR 0), some (zI v1), some (zI v2), none, none, none] [] μ := by
  refine zr_iload_n hX dX5_fewest_81 rfl rfl ?_
  refine zr_iconst hX dX5_fewest_82 (zrl rfl) ?_
  refine zr_icmple (tgt := 89) hX dX5_fewest_83 rfl h (fun h => ?_) (fun h => ?_)
  · refine zr_aload_n hX dX5_fewest_89 rfl rfl ?_
    refine zr_iload_n hX dX5_fewest_90 rfl rfl ?_
    refine zr_puti hX dX5_fewest_91 (k := 9) rfl rfl ww_208 rfl (by decide +kernel) ?_
    refine zr_iload_n hX dX5_fewest_94 rfl rfl ?_
    exact zr_iret hX dX5_fewest_95 hF h
  · refine zr_bipush hX dX5_fewest_86 rfl ?_
    exact zr_iret hX dX5_fewest_88 hF h
set_option maxRecDepth 100000 in
set_option maxHeartbeats 4000000 in
theorem w_X_fewest_20 {X : zX} {G : zG} {μ : zM} {rv : Option zV} {ν : zM} (hX : zOk X G cX5_fewest RX5 6 (some .int) 6) (hF : zFin X G rv ν) {v1 v2 v3 v4 : Int} (h : zP (Sum.elim (k_X_fewest X G) (fun r : (Int × zM) => (some (zI r.1), r.2) = (rv, ν))) (b_X_fewest_20 v1 v2 v3 v4 μ)) : zW X G 6 20 [some (zR 0), some (zI v1), some (zI v2), some (zI v3), some (zI v4), none] [] μ := by
  refine zr_iload hX dX5_fewest_20 rfl ?_
  refine zr_iload_n hX dX5_fewest_22 rfl rfl ?_
  refine zr_icmpge (tgt := 81) hX dX5_fewest_23 rfl h (fun h => ?_) (fun h => ?_)
  · exact zW_lf (w_X_fewest_81 hX hF h) (And.intro rfl (And.intro rfl (And.intro rfl trivial)))
  · refine zr_iload_n hX dX5_fewest_26 rfl rfl ?_
    refine zr_ifle (tgt := 81) hX dX5_fewest_27 rfl h (fun h => ?_) (fun h => ?_)
    · exact zW_lf (w_X_fewest_81 hX hF h) (And.intro rfl (And.intro rfl (And.intro rfl trivial)))
    · refine zr_iload hX dX5_fewest_30 rfl ?_
      refine zr_callS hX dX5_fewest_32 (m_J_bitCount) rfl (z4 ww_543 ww_506 ww_79 ww_507) hy_J6_bitCount_0f7a4 rfl (Nat.le_of_ble_eq_true rfl) (Nat.le_of_ble_eq_true rfl) (Nat.le_of_ble_eq_true rfl) ?_
      refine zr_istore hX dX5_fewest_35 (Nat.le_of_ble_eq_true rfl) ?_
      refine zr_iload hX dX5_fewest_37 rfl ?_
      refine zr_iload_n hX dX5_fewest_39 rfl rfl ?_
      refine zr_icmpge (tgt := 75) hX dX5_fewest_40 rfl h (fun h => ?_) (fun h => ?_)
      · refine zr_iinc hX dX5_fewest_75 rfl (Nat.le_of_ble_eq_true rfl) ?_
        refine zr_goto hX dX5_fewest_78 (tgt := 20) rfl ?_
        exact zW_lf (k_X_fewest_20 h) (And.intro rfl (And.intro rfl (And.intro rfl (And.intro rfl (And.intro rfl trivial)))))
      · refine zr_aload_n hX dX5_fewest_43 rfl rfl ?_
        refine zr_getr hX dX5_fewest_44 (k := 4) (q := 13) rfl rfl ww_203 rfl ?_
        refine zr_aload_n hX dX5_fewest_47 rfl rfl ?_
        refine zr_getr hX dX5_fewest_48 (k := 2) (q := 7) rfl rfl ww_201 rfl ?_
        refine zr_getrN hX dX5_fewest_51 (k := 0) (q := 8) rfl rfl nf_X5_125 rfl ?_
        refine zr_iload hX dX5_fewest_54 rfl ?_
        refine zP_bind h (fun q1 hq1 h => ?_)
        refine zr_callV hX dX5_fewest_56 (m_R_takeWithout rfl rfl hq1) rfl rfl rfl (z5 ww_695 ww_391 ww_392 ww_74 ww_393) hy_X1_takeWithout rfl (Nat.le_of_ble_eq_true rfl) (Nat.le_of_ble_eq_true rfl) (Nat.le_of_ble_eq_true rfl) ?_
        refine zr_aload_n hX dX5_fewest_59 rfl rfl ?_
        refine zr_getr hX dX5_fewest_60 (k := 4) (q := 13) rfl rfl ww_203 rfl ?_
        refine zP_bind h (fun q2 hq2 h => ?_)
        refine zr_callV hX dX5_fewest_63 (m_R_isSteady rfl hq2) rfl rfl rfl (z5 ww_677 ww_678 ww_679 ww_74 ww_680) hy_X1_isSteady rfl (Nat.le_of_ble_eq_true rfl) (Nat.le_of_ble_eq_true rfl) (Nat.le_of_ble_eq_true rfl) ?_
        refine zr_ifeq (tgt := 75) hX dX5_fewest_66 rfl h (fun h => ?_) (fun h => ?_)
        · refine zr_iinc hX dX5_fewest_75 rfl (Nat.le_of_ble_eq_true rfl) ?_
          refine zr_goto hX dX5_fewest_78 (tgt := 20) rfl ?_
          exact zW_lf (k_X_fewest_20 h) (And.intro rfl (And.intro rfl (And.intro rfl (And.intro rfl (And.intro rfl trivial)))))
        · refine zr_iload hX dX5_fewest_69 rfl ?_
          refine zr_istore_n hX dX5_fewest_71 rfl (Nat.le_of_ble_eq_true rfl) ?_
          refine zr_iload hX dX5_fewest_72 rfl ?_
          refine zr_istore_n hX dX5_fewest_74 rfl (Nat.le_of_ble_eq_true rfl) ?_
          refine zr_iinc hX dX5_fewest_75 rfl (Nat.le_of_ble_eq_true rfl) ?_
          refine zr_goto hX dX5_fewest_78 (tgt := 20) rfl ?_
          exact zW_lf (k_X_fewest_20 h) (And.intro rfl (And.intro rfl (And.intro rfl (And.intro rfl (And.intro rfl trivial)))))
set_option maxRecDepth 100000 in
set_option maxHeartbeats 4000000 in
theorem w_X_fewest_e {X : zX} {G : zG} {μ : zM} {rv : Option zV} {ν : zM} (hX : zOk X G cX5_fewest RX5 6 (some .int) 6) (hF : zFin X G rv ν) (h : zP (Sum.elim (k_X_fewest X G) (fun r : (Int × zM) => (some (zI r.1), r.2) = (rv, ν))) (e_X_fewest μ)) : zW X G 6 0 [some (zR 0), none, none, none, none, none] [] μ := by
  refine zr_iconst hX dX5_fewest_0 (zrl rfl) ?_
  refine zr_istore_n hX dX5_fewest_1 rfl (Nat.le_of_ble_eq_true rfl) ?_
  refine zr_iconst hX dX5_fewest_2 (zrl rfl) ?_
  refine zr_istore_n hX dX5_fewest_3 rfl (Nat.le_of_ble_eq_true rfl) ?_
  refine zr_iconst hX dX5_fewest_4 (zrl rfl) ?_
  refine zr_aload_n hX dX5_fewest_5 rfl rfl ?_
  refine zr_getr hX dX5_fewest_6 (k := 2) (q := 7) rfl rfl ww_201 rfl ?_
  refine zr_getrN hX dX5_fewest_9 (k := 0) (q := 8) rfl rfl nf_X5_125 rfl ?_
  refine zr_callV hX dX5_fewest_12 (m_R_houseCount rfl) rfl rfl rfl (z5 ww_659 ww_437 ww_438 ww_74 ww_439) hy_X1_houseCount rfl (Nat.le_of_ble_eq_true rfl) (Nat.le_of_ble_eq_true rfl) (Nat.le_of_ble_eq_true rfl) ?_
  refine zr_ishl hX dX5_fewest_15 ?_
  refine zr_istore_n hX dX5_fewest_16 rfl (Nat.le_of_ble_eq_true rfl) ?_
  refine zr_iconst hX dX5_fewest_17 (zrl rfl) ?_
  refine zr_istore hX dX5_fewest_18 (Nat.le_of_ble_eq_true rfl) ?_
  exact zW_lf (k_X_fewest_20 h) (And.intro rfl (And.intro rfl (And.intro rfl (And.intro rfl (And.intro rfl trivial)))))
set_option maxRecDepth 100000 in
theorem m_X_fewest {l : Launch} {G : zG} {μ : zM} {q : Int × zM} (hq : f_X_fewest μ = some q) : zCT l G yX5_fewest cX5_fewest 6 (some .int) 6 [zR 0] μ (some (zI q.1)) q.2 := by
  refine zMet (lv := [some (zR 0), none, none, none, none, none]) (k := 5) pl_X5 rfl (Nat.le_of_ble_eq_true rfl) (fun X hl hX hF _ _ => ?_)
  refine w_X_fewest_e hX hF (zgo_K (r := q) (step := t_X_fewest) (fun s h => ?_) rfl hq)
  exact w_X_fewest_20 hX hF h
