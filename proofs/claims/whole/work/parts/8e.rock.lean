/-! fault, rock -/
section RK
variable {μ : zM} {T : zT} {t : Int}
theorem Rel_hi {κ : zM} (h : Rel μ) (g : ∀ o, o ≠ 43 → (o < 13 ∨ 15 < o) → κ o = μ o) (g43 : ∀ c, c < 10824 → κ 43 c = μ 43 c) : Rel κ := by
  obtain ⟨q1, q2, q3, q4, q5⟩ := h
  refine ⟨zR1_of q1 (g 0 (by omega) (by omega)) (g 26 (by omega) (by omega)) (fun k _ => by rw [g 42 (by omega) (by omega)]) (g 50 (by omega) (by omega)), zR2_of q2 (fun o a b => g o (by omega) (by omega)) (g 45 (by omega) (by omega)) (g 46 (by omega) (by omega)), zR3_of q3 (fun o a b => g o (by omega) (by omega)) (g 47 (by omega) (by omega)) (g 48 (by omega) (by omega)), ?_, zR5_43 q5 (fun o a b => g o (by omega) (by omega)) (fun c _ b => g43 c b) (g 44 (by omega) (by omega))⟩
  unfold zR4 at q4 ⊢
  rw [g 7 (by omega) (by omega), g 8 (by omega) (by omega), g 9 (by omega) (by omega), g 10 (by omega) (by omega), g 11 (by omega) (by omega), g 42 (by omega) (by omega)]
  exact zRY_congr q4 (fun c hc => g43 c (by omega))
/-- both readers, one after the other -/
theorem Rel_read (h : Rel μ) (h1 : 0 ≤ t) (h2 : t < ((4 : Nat) : Int)) (hz : ¬ μ (4 + 1) t.toNat < 0) : ∃ (r : Int × zT) (ν : zM), f_X_readAside t μ = some (r.1, ν) ∧ IsR ν 13 r.2 ∧ VT r.2 ∧ zOut μ ν 13 15 ∧ ∀ ν' : zM, ν' 47 = μ 47 → ν' 48 = μ 48 → ∃ κ, f_M_faultOf t ν' = some (r.1, κ) ∧ IsV (zAt κ 10824) r.2 ∧ zO43 ν' κ 10824 10890 := by
  obtain ⟨⟨a1, a2, a3, a4⟩, a5⟩ := h.2.2.1
  have hs := zSS_of h.2.2.1.1
  obtain ⟨b1, b2, b3⟩ := a3 t.toNat (by omega)
  have b1' : μ (4 + 1) t.toNat = μ 48 t.toNat := b1
  have b3' : μ (4 + 1) t.toNat ≤ 60 := b3
  obtain ⟨ν, e1, e2, e3, e4⟩ := X_readAside (t := t) (n := μ (4 + 1) t.toNat) hs (fun j hj => a5 t.toNat j (by omega) hj) h1 h2 rfl (by omega) b3'
  refine ⟨_, ν, e1, e2, e3, e4, fun ν' g1 g2 => ?_⟩
  obtain ⟨κ, f1, f2, f3⟩ := M_faultOf (μ := ν') (t := t) (n := μ (4 + 1) t.toNat) h1 (by omega) (by rw [g2]; exact b1'.symm) (by omega) b3'
  have e : rdT (fun j => ν' 47 (60 * t.toNat + j)) (μ (4 + 1) t.toNat) 60 [] 0 = rdT (fun j => μ 6 (60 * t.toNat + j)) (μ (4 + 1) t.toNat) 60 [] 0 := rdT_congr (fun j hj => by rw [g1]; exact (a4 t.toNat j (by omega) hj).symm) 60 [] 0
  rw [e] at f1 f2
  exact ⟨κ, f1, f2, f3⟩
theorem A_fault (h : Rel μ) : zAg (f_X_fault t μ) (f_M_fault t) := by
  unfold f_X_fault
  rw [S_knows zSC_4]
  by_cases c : 0 ≤ t ∧ t < ((4 : Nat) : Int)
  · have b1 : μ (4 + 1) t.toNat = μ 48 t.toNat := (h.2.2.1.1.2.2.1 t.toNat (by omega)).1
    rw [z_if1 c, S_isThere zSC_4 c.1 c.2, z_some_bind]
    by_cases d : μ (4 + 1) t.toNat < 0
    · rw [z_ifn1 d]
      refine zAg_found h (by omega) (by omega) (fun ν hν => ?_)
      unfold f_M_fault f_M_isText
      rw [M_in, z_if1 (by omega), if_pos (by omega), hν 48 (by omega) (by omega), if_pos (by omega)]
    · rw [z_ifn0 d]
      obtain ⟨r, ν, e1, e2, e3, e4, e5⟩ := Rel_read h c.1 c.2 d
      obtain ⟨κ, f1, f2, f3⟩ := e5 ν (e4 47 (by omega)) (e4 48 (by omega))
      refine ⟨r.1, ν, by rw [e1]; rfl, κ, ?_, Rel_hi h (fun o h1 h2 => by rw [f3.1 o h1, e4 o (by omega)]) (fun c hc => by rw [f3.2 c (by omega), e4 43 (by omega)])⟩
      unfold f_M_fault f_M_isText
      rw [M_in, z_if1 (by omega), if_pos (by omega), e4 48 (by omega), if_neg (by omega), f1]; rfl
  · rw [z_if0 c]
    refine zAg_same h ?_
    unfold f_M_fault f_M_isText
    rw [M_in, z_if0 (by omega)]
/-- no rock is kept any more -/
theorem X_forgetKept : ∃ ι, f_X_forgetKept μ = some ι ∧ (∀ k, k < 3 → ι (27 + 5 * k) 2 = -1) ∧ ∀ o, (o < 27 ∨ 41 < o) → ι o = μ o := by
  suffices hq : zQ t_X_forgetKept (e_X_forgetKept μ) (fun ι => (∀ k, k < 3 → ι (27 + 5 * k) 2 = -1) ∧ ∀ o, (o < 27 ∨ 41 < o) → ι o = μ o) by
    obtain ⟨q, g1, g2⟩ := zQ_go hq
    exact ⟨q, g1, g2⟩
  refine zQ_for (fun k q => ∃ ι, q = ((k : Int), ι) ∧ (∀ j, j < k → ι (27 + 5 * j) 2 = -1) ∧ ∀ o, (o < 27 ∨ 41 < o) → ι o = μ o) 3 (s0 := (0, μ)) rfl ⟨_, rfl, fun j hj => by omega, fun o _ => rfl⟩ ?_ ?_
  · rintro k _ hk ⟨ι, rfl, q4, q5⟩
    show ∃ u, b_X_forgetKept_2 (k : Int) ι = some (.inl u) ∧ _
    unfold b_X_forgetKept_2
    rw [if_pos (by omega), X_keptAt, z_some_bind, if_pos (show 0 ≤ (k : Int) ∧ (k : Int) < 3 by omega)]
    show ∃ u : Int × zM, (f_Y_forget (27 + 5 * ((k : Nat) : Int).toNat) ι).bind (fun q3 => (some (Sum.inl (z32 ((k : Int) + 1), q3)) : Option ((Int × zM) ⊕ zM))) = some (Sum.inl u) ∧ _
    unfold f_Y_forget
    rw [z_some_bind, z32_id (z := (k : Int) + 1) (by omega) (by omega), show ((k : Nat) : Int).toNat = k by omega]
    refine ⟨_, rfl, _, rfl, fun j hj => ?_, fun o a => ?_⟩
    · by_cases e : j = k
      · subst e; exact zst_at
      · rw [zst_p (by omega)]; exact q4 j (by omega)
    · rw [zst_p (by omega)]; exact q5 o a
  · rintro _ ⟨ι, rfl, q4, q5⟩
    show zQ _ (b_X_forgetKept_2 ((3 : Nat) : Int) ι) _
    unfold b_X_forgetKept_2
    rw [if_neg (by omega)]
    exact zQ_ret ⟨q4, q5⟩
theorem A_rock (h : Rel μ) : zAg (f_X_rock t μ) (f_M_rock t) := by
  by_cases c : 0 ≤ t ∧ t < ((4 : Nat) : Int)
  · have b1 : μ (4 + 1) t.toNat = μ 48 t.toNat := (h.2.2.1.1.2.2.1 t.toNat (by omega)).1
    by_cases d : μ (4 + 1) t.toNat < 0
    · obtain ⟨ν, e1, κ, e2, e3⟩ := Rel_found h (f := 1) (by omega) (by omega)
      refine ⟨-3, ν, ?_, κ, zE_go ?_, e3⟩
      · unfold f_X_rock
        rw [S_knows zSC_4, z_if1 c, S_isThere zSC_4 c.1 c.2, z_some_bind, z_ifn1 d, e1]
        rfl
      · have e48 : ν 48 = μ 48 := by
          unfold f_X_found at e1
          rw [if_neg (by omega), if_pos (by omega), if_pos (by omega), if_pos (by omega)] at e1
          have := congrArg (fun q => q.map (fun q => q.2 48)) e1
          simp only [Option.map_some] at this
          rw [← Option.some.inj this, zst_p (by omega), zst_p (by omega)]
        unfold e_M_rock f_M_isText
        rw [M_in, z_if1 (by omega), if_pos (by omega), e48, if_pos (by omega), e2]
        exact zE_ret
    · obtain ⟨r, ν, e1, e2, e3, e4, e5⟩ := Rel_read h c.1 c.2 d
      by_cases g : r.1 = -9
      · -- it's read: the component starts with it
        obtain ⟨ν1, s1, s2, s3⟩ := R_takeFrom (o := 8) (μ := ν) e2 e3 (by omega)
        have hx : ∃ ν2, f_X_rock t μ = some (nT r.2, ν2) ∧ IsR ν2 8 r.2 ∧ ν2 7 2 = 0 ∧ (∀ k, k < 3 → ν2 (27 + 5 * k) 2 = -1) ∧ ∀ o, (o < 7 ∨ 10 < o) → (o < 13 ∨ 15 < o) → (o < 27 ∨ 41 < o) → ν2 o = μ o := by
          obtain ⟨ι, i1, i2, i3⟩ := X_forgetKept (μ := zst ν1 7 2 0)
          have p13 : IsR ι 13 r.2 := by
            have := IsR_out (o := 13) s3 (by omega) e2
            rw [← IsRf_R, i3 13 (by omega), i3 (13 + 1) (by omega), i3 (13 + 2) (by omega), zst_p (by omega), zst_p (by omega), zst_p (by omega)]; exact this
          refine ⟨ι, ?_, ?_, ?_, i2, fun o a1 a2 a3 => ?_⟩
          · unfold f_X_rock f_Y_startWith
            rw [S_knows zSC_4, z_if1 c, S_isThere zSC_4 c.1 c.2, z_some_bind, z_ifn0 d, e1, z_some_bind, if_pos g, s1]
            show (f_X_forgetKept (zst ν1 7 2 0)).bind (fun q4 => some (f_R_towerCount 13 q4, q4)) = _
            rw [i1, z_some_bind]
            unfold f_R_towerCount
            rw [p13.1]
          · rw [← IsRf_R, i3 8 (by omega), i3 (8 + 1) (by omega), i3 (8 + 2) (by omega), zst_p (by omega), zst_p (by omega), zst_p (by omega)]; exact s2
          · rw [i3 7 (by omega), zst_at]
          · rw [i3 o a3, zst_p (by omega), s3 o (by omega), e4 o (by omega)]
        obtain ⟨ν2, x1, x2, x3, x4, x5⟩ := hx
        obtain ⟨κ, f1, f2, f3⟩ := e5 ν2 (x5 47 (by omega) (by omega) (by omega)) (x5 48 (by omega) (by omega) (by omega))
        obtain ⟨κ1, y1, y2, y3⟩ := M_copyAll (μ := κ) (i := 10824) (j := 0) (n := 66) (by omega) (by omega) (by omega)
        have y1' : f_M_copyAll 10824 0 66 κ = some κ1 := y1
        have hW1 : IsV (κ1 43) r.2 := IsV_congr e3 (fun c hc => by rw [y3, if_pos (by omega), Nat.sub_zero]; rfl) f2
        have hm : ∃ κ2, f_M_rock t ν2 = some (nT r.2, κ2) ∧ κ2 43 = κ1 43 ∧ κ2 42 1 = 0 ∧ (∀ k, k ≠ 1 → κ2 42 k = ν2 42 k) ∧ (∀ k, k < 3 → κ2 44 k = -1) ∧ ∀ o, o ≠ 42 → o ≠ 43 → o ≠ 44 → κ2 o = ν2 o := by
          suffices hq : zQ (t_M_rock t) (e_M_rock t ν2) (fun q => ∃ κ2, q = (nT r.2, κ2) ∧ κ2 43 = κ1 43 ∧ κ2 42 1 = 0 ∧ (∀ k, k ≠ 1 → κ2 42 k = ν2 42 k) ∧ (∀ k, k < 3 → κ2 44 k = -1) ∧ ∀ o, o ≠ 42 → o ≠ 43 → o ≠ 44 → κ2 o = ν2 o) by
            obtain ⟨q, g1, κ2, g2, g3⟩ := zQ_go hq
            exact ⟨κ2, by rw [← g2]; exact g1, g3⟩
          refine zQ_for (fun k q => ∃ ι, q = ((k : Int), ι) ∧ ι 43 = κ1 43 ∧ ι 42 1 = 0 ∧ (∀ k, k ≠ 1 → ι 42 k = ν2 42 k) ∧ (∀ j, j < k → ι 44 j = -1) ∧ ∀ o, o ≠ 42 → o ≠ 43 → o ≠ 44 → ι o = ν2 o) 3 (s0 := (0, zst κ1 42 1 0)) ?_ ⟨_, rfl, zst_p (by omega), zst_at, fun k hk => by rw [zst_o (Or.inr hk), y2 42 (by omega), f3.1 42 (by omega)], fun j hj => by omega, fun o a1 a2 a3 => by rw [zst_p a1, y2 o a2, f3.1 o a2]⟩ ?_ ?_
          · unfold e_M_rock f_M_isText
            rw [M_in, z_if1 (by omega), if_pos (by omega), x5 48 (by omega) (by omega) (by omega), if_neg (by omega), f1, z_some_bind, if_pos g, y1']
            rfl
          · rintro k _ hk ⟨ι, rfl, q1, q2, q3, q4, q5⟩
            show ∃ u, b_M_rock_54 t (k : Int) ι = some (.inl u) ∧ _
            unfold b_M_rock_54
            rw [if_pos (by omega), if_pos (by omega), z32_id (z := (k : Int) + 1) (by omega) (by omega), show ((k : Nat) : Int).toNat = k by omega]
            refine ⟨_, rfl, _, rfl, by rw [zst_p (by omega)]; exact q1, by rw [zst_p (by omega)]; exact q2, fun j hj => by rw [zst_p (by omega)]; exact q3 j hj, fun j hj => ?_, fun o a1 a2 a3 => by rw [zst_p a3]; exact q5 o a1 a2 a3⟩
            by_cases e : j = k
            · subst e; exact zst_at
            · rw [zst_o (Or.inr e)]; exact q4 j (by omega)
          · rintro _ ⟨ι, rfl, q1, q2, q3, q4, q5⟩
            show zQ _ (b_M_rock_54 t ((3 : Nat) : Int) ι) _
            unfold b_M_rock_54
            rw [if_neg (by omega), q1, hW1.1]
            exact zQ_ret ⟨ι, rfl, q1, q2, q3, q4, q5⟩
        obtain ⟨κ2, m1, m2, m3, m4, m5, m6⟩ := hm
        have n42 : ∀ k, k ≠ 1 → κ2 42 k = μ 42 k := fun k hk => by rw [m4 k hk, x5 42 (by omega) (by omega) (by omega)]
        have no : ∀ o, (o < 7 ∨ 10 < o) → (o < 13 ∨ 15 < o) → (o < 27 ∨ 41 < o) → o ≠ 42 → o ≠ 43 → o ≠ 44 → κ2 o = μ o := fun o a1 a2 a3 a4 a5 a6 => by rw [m6 o a4 a5 a6, x5 o a1 a2 a3]
        refine ⟨_, ν2, x1, κ2, m1, zR1_of h.1 (no 0 (by omega) (by omega) (by omega) (by omega) (by omega) (by omega)) (no 26 (by omega) (by omega) (by omega) (by omega) (by omega) (by omega)) n42 (no 50 (by omega) (by omega) (by omega) (by omega) (by omega) (by omega)), zR2_of h.2.1 (fun o a b => no o (by omega) (by omega) (by omega) (by omega) (by omega) (by omega)) (no 45 (by omega) (by omega) (by omega) (by omega) (by omega) (by omega)) (no 46 (by omega) (by omega) (by omega) (by omega) (by omega) (by omega)), zR3_of h.2.2.1 (fun o a b => no o (by omega) (by omega) (by omega) (by omega) (by omega) (by omega)) (no 47 (by omega) (by omega) (by omega) (by omega) (by omega) (by omega)) (no 48 (by omega) (by omega) (by omega) (by omega) (by omega) (by omega)), ⟨?_, ?_, ?_, r.2, e3, ?_, ?_, fun i hi => ?_⟩, fun k hk => Or.inl ⟨m5 k hk, ?_⟩⟩
        · rw [m3, m6 7 (by omega) (by omega) (by omega)]; exact x3
        · rw [m3]; omega
        · rw [m3]; omega
        · rw [m6 8 (by omega) (by omega) (by omega), m6 9 (by omega) (by omega) (by omega), m6 10 (by omega) (by omega) (by omega)]; exact x2
        · rw [m2]; exact hW1
        · rw [m3] at hi; omega
        · rw [m6 (27 + 5 * k) (by omega) (by omega) (by omega)]; exact x4 k hk
      · obtain ⟨κ, f1, f2, f3⟩ := e5 ν (e4 47 (by omega)) (e4 48 (by omega))
        refine ⟨-4, ν, ?_, κ, zE_go ?_, Rel_hi h (fun o h1 h2 => by rw [f3.1 o h1, e4 o (by omega)]) (fun c hc => by rw [f3.2 c (by omega), e4 43 (by omega)])⟩
        · unfold f_X_rock
          rw [S_knows zSC_4, z_if1 c, S_isThere zSC_4 c.1 c.2, z_some_bind, z_ifn0 d, e1, z_some_bind, if_neg g]
        · unfold e_M_rock f_M_isText
          rw [M_in, z_if1 (by omega), if_pos (by omega), e4 48 (by omega), if_neg (by omega), f1, z_some_bind, if_neg g]
          exact zE_ret
  · have e : f_X_rock t μ = some (-1, μ) := by unfold f_X_rock; rw [S_knows zSC_4, z_if0 c]
    rw [e]
    refine zAg_same h (zE_go ?_)
    unfold e_M_rock f_M_isText
    rw [M_in, z_if0 (by omega)]
    exact zE_ret
end RK
