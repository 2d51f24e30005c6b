/-! keeping a story, going on with it -/
section KP
variable {μ : zM} {T : zT} {n : Int} {o o1 : Nat}
theorem Y_takeFrom (hR : IsR μ (o1 + 1) T) (hV : VT T) (ho : o + 4 < o1 ∨ o1 + 4 < o) : ∃ ν, f_Y_takeFrom o o1 μ = some ν ∧ IsR ν (o + 1) T ∧ ν o 2 = μ o1 2 ∧ (∀ q, q < 1200 → ν (o + 4) q = μ (o1 + 4) q) ∧ zOut μ ν o (o + 4) := by
  obtain ⟨ν, e1, e2, e3⟩ := R_takeFrom (o := o + 1) hR hV (by omega)
  have e4 : ν o1 2 = μ o1 2 := by rw [e3 o1 (by omega)]
  refine ⟨zcp (zst ν o 2 (ν o1 2)) (o1 + 4) 0 (o + 4) 0 1200, ?_, ?_, ?_, fun q hq => ?_, fun p hp => ?_⟩
  · unfold f_Y_takeFrom
    rw [e1, z_some_bind, if_pos (by omega)]; rfl
  · have h1 : ∀ p, o + 1 ≤ p → p ≤ o + 3 → zcp (zst ν o 2 (ν o1 2)) (o1 + 4) 0 (o + 4) 0 1200 p = ν p := fun p a b => by
      funext q; unfold zcp; rw [if_neg (by omega), zst_p (by omega)]
    rw [← IsRf_R, h1 _ (by omega) (by omega), h1 _ (by omega) (by omega), h1 _ (by omega) (by omega)]; exact e2
  · unfold zcp; rw [if_neg (by omega), zst_at, e4]
  · unfold zcp
    rw [if_pos (by omega), zst_p (by omega), e3 _ (by omega)]; congr 1; omega
  · funext q; unfold zcp
    rw [if_neg (by omega), zst_p (by omega), e3 p (by omega)]
theorem zRY_copy {y r h c a w y' r' h' c' a' w' : Nat → Int} {d : Int} {T : zT} (H : zRY y r h c a w d) (hV : VT T) (hR : IsRf r h c T) (hR' : IsRf r' h' c' T) (hy : y' 2 = y 2) (ha : ∀ q, q < 1200 → a' q = a q) (hw : ∀ q, q < 2706 → w' q = w q) : zRY y' r' h' c' a' w' d := by
  obtain ⟨h1, h2, h3, U, hVU, hRU, hWU, hD⟩ := H
  have e1 : r 0 = nT U := hRU.1
  have e2 : r 0 = nT T := hR.1
  have hlen : U.length = T.length := by unfold nT at e1 e2; omega
  have hWT : IsV w T := by
    have hh : ∀ x : Int, 0 ≤ x → x < nT T → hT U x = hT T x := fun x a b => by
      have hn := nT_le hV
      rw [← hRU.2.2.1 x a (by omega), ← hR.2.2.1 x a (by omega)]
    refine ⟨by rw [hWU.1, ← e1, e2], fun x a b => by rw [hWU.2.1 x a (by omega), hh x a b], fun x y a b c d => ?_⟩
    have hn := nT_le hV
    have h6 := hT_le hV x
    obtain ⟨w1, w2⟩ := hWU.2.2 x y a (by omega) c (by rw [hh x a b]; exact d)
    have c1 := hRU.2.2.2 x y a (by omega) c (by omega)
    have c2 := hR.2.2.2 x y a (by omega) c (by omega)
    rw [hh x a b, if_pos d] at c1
    rw [if_pos d] at c2
    have i1 := cT_in hVU a c (by rw [hh x a b]; exact d)
    have i2 := cT_in hV a c d
    rw [w1, w2]
    omega
  refine ⟨by rw [hy]; exact h1, h2, h3, T, hV, hR', IsV_congr hV (fun q hq => hw q (by omega)) hWT, fun i hi => ?_⟩
  obtain ⟨D, g1, g2, g3, g4⟩ := hD i hi
  exact ⟨D, g1, by omega, IsA_congr g3 (fun q hq => ha _ (by omega)), IsV_congr g1 (fun q hq => hw _ (by omega)) g4⟩
theorem A_keep (h : Rel μ) : zAg (f_X_keep n μ) (f_M_keep n) := by
  obtain ⟨T, hV, hR, hW⟩ := Rel_T h
  have hd := h.2.2.2.1.1
  unfold f_X_keep
  rw [X_keptAt, z_some_bind]
  by_cases c : 0 ≤ n ∧ n < 3
  · rw [if_pos c]
    show zAg (if f_R_towerCount 8 μ = 0 then some (-4, μ) else (f_Y_takeFrom (27 + 5 * n.toNat) 7 μ).bind fun q3 => some (q3 7 2, q3)) _
    unfold f_R_towerCount
    rw [hR.1]
    by_cases c0 : nT T = 0
    · rw [if_pos c0]
      refine zAg_same h ?_
      unfold f_M_keep f_M_isNone
      rw [M_in, z_if1 (by omega), hW.1, z_if1 c0]
    · rw [if_neg c0]
      obtain ⟨ν, e1, e2, e3, e4, e5⟩ := Y_takeFrom (o := 27 + 5 * n.toNat) (o1 := 7) (μ := μ) hR hV (by omega)
      rw [e1, z_some_bind]
      obtain ⟨κ, f1, f2, f3⟩ := M_copyAll (μ := ν) (i := 0) (j := (2706 * (n + 1)).toNat) (n := 2706) (by omega) (by omega) (by omega)
      have q43 : ν 43 = μ 43 := e5 43 (by omega)
      have k42 : κ 42 = μ 42 := by rw [f2 42 (by omega), e5 42 (by omega)]
      have q7 : ν 7 2 = μ 42 1 := by rw [e5 7 (by omega), hd]
      have r7 : ∀ p, p ≠ 43 → p ≠ 44 → zst κ 44 n.toNat (μ 42 1) p = ν p := fun p a b => by rw [zst_p b, f2 p a]
      have k43 : ∀ c : Nat, zst κ 44 n.toNat (μ 42 1) 43 c = if 2706 * (n.toNat + 1) ≤ c ∧ c < 2706 * (n.toNat + 1) + 2706 then μ 43 (c - 2706 * (n.toNat + 1)) else μ 43 c := fun c => by
        rw [zst_p (by omega), f3, q43]
        by_cases f : 2706 * (n.toNat + 1) ≤ c ∧ c < 2706 * (n.toNat + 1) + 2706
        · rw [if_pos f, if_pos (by omega)]; exact congrArg (μ 43) (by omega)
        · rw [if_neg f, if_neg (by omega)]
      refine ⟨_, ν, rfl, zst κ 44 n.toNat (μ 42 1), ?_, ?_⟩
      · unfold f_M_keep f_M_isNone
        rw [show (((2706 * (n + 1)).toNat : Nat) : Int) = 2706 * (n + 1) by omega] at f1
        have f1' : f_M_copyAll 0 (2706 * (n + 1)) 2706 ν = some κ := f1
        rw [M_in, z_if1 (by omega), q43, hW.1, z_if0 c0, z32_id (z := n + 1) (by omega) (by omega), z32_id (z := 2706 * (n + 1)) (by omega) (by omega), f1', z_some_bind, if_pos (by omega), k42, zst_o (by omega), k42, q7]
      · obtain ⟨q1, q2, q3, q4, q5⟩ := h
        refine ⟨zR1_of q1 (by rw [r7 0 (by omega) (by omega), e5 0 (by omega)]) (by rw [r7 26 (by omega) (by omega), e5 26 (by omega)]) (fun k hk => by rw [r7 42 (by omega) (by omega), e5 42 (by omega)]) (by rw [r7 50 (by omega) (by omega), e5 50 (by omega)]), zR2_of q2 (fun o h1 h2 => by rw [r7 o (by omega) (by omega), e5 o (by omega)]) (by rw [r7 45 (by omega) (by omega), e5 45 (by omega)]) (by rw [r7 46 (by omega) (by omega), e5 46 (by omega)]), zR3_of q3 (fun o h1 h2 => by rw [r7 o (by omega) (by omega), e5 o (by omega)]) (by rw [r7 47 (by omega) (by omega), e5 47 (by omega)]) (by rw [r7 48 (by omega) (by omega), e5 48 (by omega)]), ?_, fun k hk => ?_⟩
        · unfold zR4
          rw [r7 7 (by omega) (by omega), e5 7 (by omega), r7 8 (by omega) (by omega), e5 8 (by omega), r7 9 (by omega) (by omega), e5 9 (by omega), r7 10 (by omega) (by omega), e5 10 (by omega), r7 11 (by omega) (by omega), e5 11 (by omega), r7 42 (by omega) (by omega), e5 42 (by omega)]
          exact zRY_congr q4 (fun q hq => by rw [k43, if_neg (by omega)])
        · by_cases d : k = n.toNat
          · right
            subst d
            rw [zst_at]
            refine zRY_copy q4 hV (r := μ 8) (h := μ 9) (c := μ 10) hR ?_ ?_ (fun q hq => ?_) (fun q hq => ?_)
            · rw [r7 _ (by omega) (by omega), r7 _ (by omega) (by omega), r7 _ (by omega) (by omega), show 28 + 5 * n.toNat = 27 + 5 * n.toNat + 1 by omega, show 29 + 5 * n.toNat = 27 + 5 * n.toNat + 1 + 1 by omega, show 30 + 5 * n.toNat = 27 + 5 * n.toNat + 1 + 2 by omega]
              exact e2
            · rw [r7 _ (by omega) (by omega)]; exact e3
            · rw [r7 _ (by omega) (by omega), show 31 + 5 * n.toNat = 27 + 5 * n.toNat + 4 by omega]; exact e4 q hq
            · show zst κ 44 n.toNat (μ 42 1) 43 (2706 * (n.toNat + 1) + q) = μ 43 q
              rw [k43, if_pos (by omega)]; exact congrArg (μ 43) (by omega)
          · have := q5 k hk
            unfold zRK at this ⊢
            rw [zst_o (Or.inr d), f2 44 (by omega), e5 44 (by omega), r7 (27 + 5 * k) (by omega) (by omega), e5 (27 + 5 * k) (by omega), r7 (28 + 5 * k) (by omega) (by omega), e5 (28 + 5 * k) (by omega), r7 (29 + 5 * k) (by omega) (by omega), e5 (29 + 5 * k) (by omega), r7 (30 + 5 * k) (by omega) (by omega), e5 (30 + 5 * k) (by omega), r7 (31 + 5 * k) (by omega) (by omega), e5 (31 + 5 * k) (by omega)]
            rcases this with g | g
            · exact Or.inl g
            · exact Or.inr (zRY_congr g (fun q hq => by rw [k43, if_neg (by omega)]))
  · rw [if_neg c]
    refine zAg_same h ?_
    unfold f_M_keep
    rw [M_in, z_if0 (by omega)]
theorem A_on (h : Rel μ) : zAg (f_X_on n μ) (f_M_on n) := by
  unfold f_X_on
  rw [X_keptAt, z_some_bind]
  by_cases c : 0 ≤ n ∧ n < 3
  · rw [if_pos c]
    show zAg (if f_Y_isThere (27 + 5 * n.toNat) μ = 0 then (f_X_found 1 μ).bind fun q4 => some (q4.1, q4.2) else (f_Y_takeFrom 7 (27 + 5 * n.toNat) μ).bind fun q3 => some (q3 7 2, q3)) _
    have hk := Rel_kept h n.toNat (by omega)
    unfold f_Y_isThere
    by_cases c0 : μ (27 + 5 * n.toNat) 2 < 0
    · rw [z_ifn1 c0]
      refine zAg_found h (by omega) (by omega) (fun ν hν => ?_)
      unfold f_M_on
      rw [M_in, z_if1 (by omega), if_pos (by omega), hν 44 (by omega) (by omega), if_pos (by omega)]
    · rw [z_ifn0 c0]
      rcases h.2.2.2.2 n.toNat (by omega) with g | g
      · omega
      · have g0 := g
        obtain ⟨y1, y2, y3, T, hV, hRf, hW, _⟩ := g
        have hR : IsR μ (27 + 5 * n.toNat + 1) T := by
          rw [← IsRf_R, show 27 + 5 * n.toNat + 1 + 1 = 29 + 5 * n.toNat by omega, show 27 + 5 * n.toNat + 1 + 2 = 30 + 5 * n.toNat by omega, show 27 + 5 * n.toNat + 1 = 28 + 5 * n.toNat by omega]
          exact hRf
        obtain ⟨ν, e1, e2, e3, e4, e5⟩ := Y_takeFrom (o := 7) (o1 := 27 + 5 * n.toNat) (μ := μ) hR hV (by omega)
        rw [e1, z_some_bind]
        obtain ⟨κ, f1, f2, f3⟩ := M_copyAll (μ := ν) (i := (2706 * (n + 1)).toNat) (j := 0) (n := 2706) (by omega) (by omega) (by omega)
        have q43 : ν 43 = μ 43 := e5 43 (by omega)
        have q44 : ν 44 = μ 44 := e5 44 (by omega)
        have k44 : κ 44 = μ 44 := by rw [f2 44 (by omega), q44]
        refine ⟨_, ν, rfl, zst κ 42 1 (μ 44 n.toNat), ?_, ?_⟩
        · unfold f_M_on
          rw [show (((2706 * (n + 1)).toNat : Nat) : Int) = 2706 * (n + 1) by omega] at f1
          have f1' : f_M_copyAll (2706 * (n + 1)) 0 2706 ν = some κ := f1
          rw [M_in, z_if1 (by omega), if_pos (by omega), q44, if_neg (by omega), z32_id (z := n + 1) (by omega) (by omega), z32_id (z := 2706 * (n + 1)) (by omega) (by omega), f1', z_some_bind, if_pos (by omega), k44, zst_at, e3, hk]
        · have r7 : ∀ p, p ≠ 43 → p ≠ 42 → zst κ 42 1 (μ 44 n.toNat) p = ν p := fun p a b => by rw [zst_p b, f2 p a]
          refine Rel_now h ⟨fun o ho => by rw [r7 o (by omega) (by omega), e5 o (by omega)], fun q hq => by rw [zst_o (Or.inr hq), f2 42 (by omega), e5 42 (by omega)], fun c hc hc2 => by rw [zst_p (by omega), f3, if_neg (by omega), q43]⟩ ?_
          unfold zR4
          rw [zst_at]
          refine zRY_copy g0 hV (r := μ (28 + 5 * n.toNat)) (h := μ (29 + 5 * n.toNat)) (c := μ (30 + 5 * n.toNat)) hRf ?_ ?_ (fun q hq => ?_) (fun q hq => ?_)
          · rw [r7 _ (by omega) (by omega), r7 _ (by omega) (by omega), r7 _ (by omega) (by omega)]
            exact e2
          · rw [r7 _ (by omega) (by omega)]; exact e3
          · rw [r7 _ (by omega) (by omega), show 31 + 5 * n.toNat = 27 + 5 * n.toNat + 4 by omega]; exact e4 q hq
          · show zst κ 42 1 (μ 44 n.toNat) 43 q = μ 43 (2706 * (n.toNat + 1) + q)
            rw [zst_p (by omega), f3, if_pos (by omega), q43]; congr 1; omega
  · rw [if_neg c]
    refine zAg_same h ?_
    unfold f_M_on
    rw [M_in, z_if0 (by omega)]
end KP
