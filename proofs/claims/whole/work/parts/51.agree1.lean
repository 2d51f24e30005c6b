/-! rows and texts: both sides agree -/
theorem Rel_sh {μ ν : zM} (h : Rel μ) (hE : ∀ o, (o < 1 ∨ 6 < o) → (o < 45 ∨ 49 < o) → ν o = μ o) (h2 : zR2 ν) (h3 : zR3 ν) : Rel ν := by
  obtain ⟨q1, q2, q3, q4, q5⟩ := h
  refine ⟨?_, h2, h3, ?_, ?_⟩
  · unfold zR1 at q1 ⊢
    rw [hE 0 (by omega) (by omega), hE 26 (by omega) (by omega), hE 42 (by omega) (by omega), hE 50 (by omega) (by omega)]
    exact q1
  · exact zR4_of q4 (fun o _ _ => hE o (by omega) (by omega)) (hE 43 (by omega) (by omega)) (by rw [hE 42 (by omega) (by omega)])
  · exact zR5_of q5 (fun o _ _ => hE o (by omega) (by omega)) (hE 43 (by omega) (by omega)) (hE 44 (by omega) (by omega))
theorem zst_comm {μ : zM} {o k p q : Nat} {v w : Int} (h : o ≠ p) : zst (zst μ o k v) p q w = zst (zst μ p q w) o k v := by
  funext a b
  unfold zst
  by_cases c1 : a = p ∧ b = q
  · rw [if_pos c1, if_neg (fun h2 => h (h2.1.symm.trans c1.1)), if_pos c1]
  · rw [if_neg c1, if_neg c1]
theorem zR2_of {μ ν : zM} (h : zR2 μ) (h1 : ∀ o, 1 ≤ o → o ≤ 3 → ν o = μ o) (h2 : ν 45 = μ 45) (h3 : ν 46 = μ 46) : zR2 ν := by
  unfold zR2 at h ⊢
  rw [h1 1 (by omega) (by omega), h1 2 (by omega) (by omega), h1 3 (by omega) (by omega), h2, h3]
  exact h
theorem zR3_of {μ ν : zM} (h : zR3 μ) (h1 : ∀ o, 4 ≤ o → o ≤ 6 → ν o = μ o) (h2 : ν 47 = μ 47) (h3 : ν 48 = μ 48) : zR3 ν := by
  unfold zR3 at h ⊢
  rw [h1 4 (by omega) (by omega), h1 5 (by omega) (by omega), h1 6 (by omega) (by omega), h2, h3]
  exact h
theorem Rel_cell {μ : zM} {r i : Nat} {v : Int} (h : Rel μ) (hr : r < 6) (hi : (i : Int) < μ 2 r) : Rel (zst (zst μ 3 (40 * r + i) v) 45 (40 * r + i) v) := by
  refine Rel_sh h (fun o h1 h2 => by rw [zst_p (by omega), zst_p (by omega)]) ?_ (zR3_of h.2.2.1 (fun o h1 h2 => by rw [zst_p (by omega), zst_p (by omega)]) (by rw [zst_p (by omega), zst_p (by omega)]) (by rw [zst_p (by omega), zst_p (by omega)]))
  obtain ⟨a1, a2, a3, a4⟩ := h.2.1
  refine ⟨by rw [zst_p (by omega), zst_p (by omega)]; exact a1, by rw [zst_p (by omega), zst_p (by omega)]; exact a2, fun q hq => by rw [zst_p (by omega), zst_p (by omega), zst_p (by omega), zst_p (by omega)]; exact a3 q hq, fun q j hq hj => ?_⟩
  rw [zst_p (by omega), zst_p (by omega)] at hj
  have b1 := a3 q hq
  have b2 := a3 r hr
  by_cases c : 40 * q + j = 40 * r + i
  · rw [c, zst_o (by omega), zst_at, zst_at]
  · rw [zst_o (by omega), zst_o (Or.inr c), zst_o (Or.inr c), zst_o (by omega)]
    exact a4 q j hq hj
theorem Rel_byte {μ : zM} {r i : Nat} {v : Int} (h : Rel μ) (hr : r < 4) (hi : (i : Int) < μ 5 r) (hv : -128 ≤ v ∧ v < 128) : Rel (zst (zst μ 6 (60 * r + i) v) 47 (60 * r + i) v) := by
  refine Rel_sh h (fun o h1 h2 => by rw [zst_p (by omega), zst_p (by omega)]) (zR2_of h.2.1 (fun o h1 h2 => by rw [zst_p (by omega), zst_p (by omega)]) (by rw [zst_p (by omega), zst_p (by omega)]) (by rw [zst_p (by omega), zst_p (by omega)])) ?_
  obtain ⟨⟨a1, a2, a3, a4⟩, a5⟩ := h.2.2.1
  refine ⟨⟨by rw [zst_p (by omega), zst_p (by omega)]; exact a1, by rw [zst_p (by omega), zst_p (by omega)]; exact a2, fun q hq => by rw [zst_p (by omega), zst_p (by omega), zst_p (by omega), zst_p (by omega)]; exact a3 q hq, fun q j hq hj => ?_⟩, fun q j hq hj => ?_⟩
  · rw [zst_p (by omega), zst_p (by omega)] at hj
    have b1 := a3 q hq
    have b2 := a3 r hr
    by_cases c : 60 * q + j = 60 * r + i
    · rw [c, zst_o (by omega), zst_at, zst_at]
    · rw [zst_o (by omega), zst_o (Or.inr c), zst_o (Or.inr c), zst_o (by omega)]
      exact a4 q j hq hj
  · rw [zst_p (by omega), zst_p (by omega)] at hj
    by_cases c : 60 * q + j = 60 * r + i
    · rw [c, zst_o (by omega), zst_at]; exact hv
    · rw [zst_o (by omega), zst_o (Or.inr c)]
      exact a5 q j hq hj
/-- a row comes: sizes alike, places within it alike -/
theorem Rel_rows {μ ν : zM} {r : Nat} {n : Int} (h : Rel μ) (hr : r < 6) (h1 : -1 ≤ n) (h2 : n ≤ 40) (hE : ∀ o, o ≠ 2 → o ≠ 3 → o ≠ 45 → o ≠ 46 → ν o = μ o) (e1 : ν 2 = zst μ 2 r n 2) (e2 : ν 46 = zst μ 46 r n 46) (e3 : ∀ q : Nat, ν 3 q = if 40 * (r : Int) ≤ q ∧ (q : Int) < 40 * r + n then 0 else μ 3 q) (e4 : ∀ q : Nat, ((q : Int) < 40 * (r : Int) ∨ 40 * (r : Int) + 40 ≤ q) → ν 45 q = μ 45 q) (e5 : ∀ i : Nat, (i : Int) < n → ν 45 (40 * r + i) = 0) : Rel ν := by
  refine Rel_sh h (fun o h1 h2 => hE o (by omega) (by omega) (by omega) (by omega)) ?_ (zR3_of h.2.2.1 (fun o h1 h2 => hE o (by omega) (by omega) (by omega) (by omega)) (hE _ (by omega) (by omega) (by omega) (by omega)) (hE _ (by omega) (by omega) (by omega) (by omega)))
  obtain ⟨a1, a2, a3, a4⟩ := h.2.1
  refine ⟨by rw [hE 1 (by omega) (by omega) (by omega) (by omega)]; exact a1, by rw [hE 1 (by omega) (by omega) (by omega) (by omega)]; exact a2, fun q hq => ?_, fun q j hq hj => ?_⟩
  · rw [e1, e2]
    by_cases c : q = r
    · subst c; rw [zst_at, zst_at]; omega
    · rw [zst_o (Or.inr c), zst_o (Or.inr c)]; exact a3 q hq
  · rw [e1] at hj
    by_cases c : q = r
    · subst c
      rw [zst_at] at hj
      rw [e5 j hj, e3, if_pos (by omega)]
    · rw [zst_o (Or.inr c)] at hj
      have := a3 q hq
      rw [e3, if_neg (by omega), e4 _ (by omega)]
      exact a4 q j hq hj
theorem Rel_texts {μ ν : zM} {r : Nat} {n : Int} (h : Rel μ) (hr : r < 4) (h1 : -1 ≤ n) (h2 : n ≤ 60) (hE : ∀ o, o ≠ 5 → o ≠ 6 → o ≠ 47 → o ≠ 48 → ν o = μ o) (e1 : ν 5 = zst μ 5 r n 5) (e2 : ν 48 = zst μ 48 r n 48) (e3 : ∀ q : Nat, ν 6 q = if 60 * (r : Int) ≤ q ∧ (q : Int) < 60 * r + n then 32 else μ 6 q) (e4 : ∀ q : Nat, ((q : Int) < 60 * (r : Int) ∨ 60 * (r : Int) + 60 ≤ q) → ν 47 q = μ 47 q) (e5 : ∀ i : Nat, (i : Int) < n → ν 47 (60 * r + i) = 32) : Rel ν := by
  refine Rel_sh h (fun o h1 h2 => hE o (by omega) (by omega) (by omega) (by omega)) (zR2_of h.2.1 (fun o h1 h2 => hE o (by omega) (by omega) (by omega) (by omega)) (hE _ (by omega) (by omega) (by omega) (by omega)) (hE _ (by omega) (by omega) (by omega) (by omega))) ?_
  obtain ⟨⟨a1, a2, a3, a4⟩, a5⟩ := h.2.2.1
  refine ⟨⟨by rw [hE 4 (by omega) (by omega) (by omega) (by omega)]; exact a1, by rw [hE 4 (by omega) (by omega) (by omega) (by omega)]; exact a2, fun q hq => ?_, fun q j hq hj => ?_⟩, fun q j hq hj => ?_⟩
  · rw [e1, e2]
    by_cases c : q = r
    · subst c; rw [zst_at, zst_at]; omega
    · rw [zst_o (Or.inr c), zst_o (Or.inr c)]; exact a3 q hq
  · rw [e1] at hj
    by_cases c : q = r
    · subst c
      rw [zst_at] at hj
      rw [e5 j hj, e3, if_pos (by omega)]
    · rw [zst_o (Or.inr c)] at hj
      have := a3 q hq
      rw [e3, if_neg (by omega), e4 _ (by omega)]
      exact a4 q j hq hj
  · rw [e1] at hj
    by_cases c : q = r
    · subst c
      rw [zst_at] at hj
      rw [e3, if_pos (by omega)]; omega
    · rw [zst_o (Or.inr c)] at hj
      have := a3 q hq
      rw [e3, if_neg (by omega)]
      exact a5 q j hq hj
section AG1
variable {μ : zM} {r i v n : Int}
theorem M_row (h1 : 0 ≤ r) (h2 : r < 6) (h3 : 0 ≤ n) (h4 : n ≤ 40) : ∃ q, f_M_row r n μ = some q ∧ q.1 = n ∧ (∀ p, p ≠ 45 → p ≠ 46 → q.2 p = μ p) ∧ q.2 46 = zst μ 46 r.toNat n 46 ∧ ∀ c : Nat, q.2 45 c = if 40 * r ≤ c ∧ (c : Int) < 40 * r + 40 then 0 else μ 45 c := by
  refine zQ_go (zQ_for (fun m q => ∃ ν, q = ((m : Int), ν) ∧ (∀ p, p ≠ 45 → p ≠ 46 → ν p = μ p) ∧ ν 46 = zst μ 46 r.toNat n 46 ∧ ∀ c : Nat, ν 45 c = if 40 * r ≤ c ∧ (c : Int) < 40 * r + m then 0 else μ 45 c) 40 (s0 := (0, zst μ 46 r.toNat n)) ?_ ?_ ?_ ?_)
  · unfold e_M_row f_M_isRow
    rw [M_in, z_if1 (by omega), if_neg (by omega), if_neg (by omega), if_pos ⟨h1, h2⟩]
  · refine ⟨_, rfl, fun p a b => zst_p b, rfl, fun q => ?_⟩
    rw [if_neg (by omega), zst_p (by omega)]
  · rintro m _ hm ⟨ν, rfl, w1, w2, w3⟩
    show ∃ t, b_M_row_34 r n (m : Int) ν = some (.inl t) ∧ _
    unfold b_M_row_34
    rw [if_pos (by omega), z32_id (z := 40 * r) (by omega) (by omega), z32_id (by omega) (by omega), if_pos (by omega), z32_id (by omega) (by omega)]
    refine ⟨_, rfl, _, rfl, fun p a b => by rw [zst_p a]; exact w1 p a b, by rw [zst_p (by omega)]; exact w2, fun q => ?_⟩
    by_cases c : q = (40 * r + m).toNat
    · subst c; rw [zst_at, if_pos (by omega)]
    · rw [zst_o (Or.inr c), w3]
      by_cases c2 : 40 * r ≤ q ∧ (q : Int) < 40 * r + m
      · rw [if_pos c2, if_pos (by omega)]
      · rw [if_neg c2, if_neg (by omega)]
  · rintro _ ⟨ν, rfl, w1, w2, w3⟩
    show zQ _ (b_M_row_34 r n ((40 : Nat) : Int) ν) _
    unfold b_M_row_34
    rw [if_neg (by omega)]
    exact zQ_ret ⟨rfl, w1, w2, w3⟩
theorem M_text (h1 : 0 ≤ r) (h2 : r < 4) (h3 : 0 ≤ n) (h4 : n ≤ 60) : ∃ q, f_M_text r n μ = some q ∧ q.1 = n ∧ (∀ p, p ≠ 47 → p ≠ 48 → q.2 p = μ p) ∧ q.2 48 = zst μ 48 r.toNat n 48 ∧ ∀ c : Nat, q.2 47 c = if 60 * r ≤ c ∧ (c : Int) < 60 * r + 60 then 32 else μ 47 c := by
  refine zQ_go (zQ_for (fun m q => ∃ ν, q = ((m : Int), ν) ∧ (∀ p, p ≠ 47 → p ≠ 48 → ν p = μ p) ∧ ν 48 = zst μ 48 r.toNat n 48 ∧ ∀ c : Nat, ν 47 c = if 60 * r ≤ c ∧ (c : Int) < 60 * r + m then 32 else μ 47 c) 60 (s0 := (0, zst μ 48 r.toNat n)) ?_ ?_ ?_ ?_)
  · unfold e_M_text f_M_isText
    rw [M_in, z_if1 (by omega), if_neg (by omega), if_neg (by omega), if_pos ⟨h1, h2⟩]
  · refine ⟨_, rfl, fun p a b => zst_p b, rfl, fun q => ?_⟩
    rw [if_neg (by omega), zst_p (by omega)]
  · rintro m _ hm ⟨ν, rfl, w1, w2, w3⟩
    show ∃ t, b_M_text_34 r n (m : Int) ν = some (.inl t) ∧ _
    unfold b_M_text_34
    rw [if_pos (by omega), z32_id (z := 60 * r) (by omega) (by omega), z32_id (by omega) (by omega), if_pos (by omega), z32_id (by omega) (by omega)]
    refine ⟨_, rfl, _, rfl, fun p a b => by rw [zst_p a]; exact w1 p a b, by rw [zst_p (by omega)]; exact w2, fun q => ?_⟩
    by_cases c : q = (60 * r + m).toNat
    · subst c; rw [zst_at, if_pos (by omega)]
    · rw [zst_o (Or.inr c), w3]
      by_cases c2 : 60 * r ≤ q ∧ (q : Int) < 60 * r + m
      · rw [if_pos c2, if_pos (by omega)]
      · rw [if_neg c2, if_neg (by omega)]
  · rintro _ ⟨ν, rfl, w1, w2, w3⟩
    show zQ _ (b_M_text_34 r n ((60 : Nat) : Int) ν) _
    unfold b_M_text_34
    rw [if_neg (by omega)]
    exact zQ_ret ⟨rfl, w1, w2, w3⟩
theorem A_row (h : Rel μ) : zAg (f_X_row r n μ) (f_M_row r n) := by
  unfold f_X_row
  rw [S_knows zSC_1]
  by_cases c : 0 ≤ r ∧ r < ((6 : Nat) : Int)
  · rw [z_if1 c]
    by_cases c2 : 40 < n
    · rw [if_pos c2]
      refine zAg_same h (zE_go ?_)
      unfold e_M_row f_M_isRow
      rw [M_in, z_if1 (by omega), if_pos c2]
      exact zE_ret
    · rw [if_neg c2]
      by_cases c3 : n < 0
      · rw [if_pos c3]
        obtain ⟨ν, e1, κ, e2, e3⟩ := Rel_found h (f := 5) (by omega) (by omega)
        refine ⟨-3, ν, by rw [e1]; rfl, κ, zE_go ?_, e3⟩
        unfold e_M_row f_M_isRow
        rw [M_in, z_if1 (by omega), if_neg c2, if_pos c3, e2]
        exact zE_ret
      · rw [if_neg c3]
        obtain ⟨ν, e1, e2, e3, e4⟩ := S_make zSC_1 (zSS_of h.2.1) c.1 c.2 (n := n) (by omega) (by omega)
        obtain ⟨⟨a, κ⟩, g1, g2, g3, g4, g5⟩ := M_row (μ := ν) c.1 c.2 (n := n) (by omega) (by omega)
        dsimp only at g2 g3 g4 g5
        subst g2
        refine ⟨a, ν, by rw [e1]; rfl, κ, g1, ?_⟩
        refine Rel_rows (r := r.toNat) (n := a) h (by omega) (by omega) (by omega) (fun o h1 h2 h3 h4 => by rw [g3 o h3 h4]; exact e2 o h1 h2) (by rw [g3 2 (by omega) (by omega)]; exact e3) ?_ ?_ ?_ ?_
        · rw [g4]; funext q; unfold zst; rw [e2 46 (by omega) (by omega)]
        · intro q; rw [g3 3 (by omega) (by omega), e4]
          by_cases d : ((40 : Nat) : Int) * r ≤ q ∧ (q : Int) < ((40 : Nat) : Int) * r + a
          · rw [if_pos d, if_pos (by omega)]
          · rw [if_neg d, if_neg (by omega)]
        · intro q hq; rw [g5, if_neg (by omega), e2 45 (by omega) (by omega)]
        · intro i hi; rw [g5, if_pos (by omega)]
  · rw [z_if0 c]
    refine zAg_same h (zE_go ?_)
    unfold e_M_row f_M_isRow
    rw [M_in, z_if0 (by omega)]
    exact zE_ret
theorem A_text (h : Rel μ) : zAg (f_X_text r n μ) (f_M_text r n) := by
  unfold f_X_text
  rw [S_knows zSC_4]
  by_cases c : 0 ≤ r ∧ r < ((4 : Nat) : Int)
  · rw [z_if1 c]
    by_cases c2 : 60 < n
    · rw [if_pos c2]
      refine zAg_same h (zE_go ?_)
      unfold e_M_text f_M_isText
      rw [M_in, z_if1 (by omega), if_pos c2]
      exact zE_ret
    · rw [if_neg c2]
      by_cases c3 : n < 0
      · rw [if_pos c3]
        obtain ⟨ν, e1, κ, e2, e3⟩ := Rel_found h (f := 5) (by omega) (by omega)
        refine ⟨-3, ν, by rw [e1]; rfl, κ, zE_go ?_, e3⟩
        unfold e_M_text f_M_isText
        rw [M_in, z_if1 (by omega), if_neg c2, if_pos c3, e2]
        exact zE_ret
      · rw [if_neg c3]
        obtain ⟨ν, e1, e2, e3, e4⟩ := S_make zSC_4 (zSS_of h.2.2.1.1) c.1 c.2 (n := n) (by omega) (by omega)
        obtain ⟨⟨a, κ⟩, g1, g2, g3, g4, g5⟩ := M_text (μ := ν) c.1 c.2 (n := n) (by omega) (by omega)
        dsimp only at g2 g3 g4 g5
        subst g2
        refine ⟨a, ν, by rw [e1]; rfl, κ, g1, ?_⟩
        refine Rel_texts (r := r.toNat) (n := a) h (by omega) (by omega) (by omega) (fun o h1 h2 h3 h4 => by rw [g3 o h3 h4]; exact e2 o h1 h2) (by rw [g3 5 (by omega) (by omega)]; exact e3) ?_ ?_ ?_ ?_
        · rw [g4]; funext q; unfold zst; rw [e2 48 (by omega) (by omega)]
        · intro q; rw [g3 6 (by omega) (by omega), e4]
          by_cases d : ((60 : Nat) : Int) * r ≤ q ∧ (q : Int) < ((60 : Nat) : Int) * r + a
          · rw [if_pos d, if_pos (by omega)]
          · rw [if_neg d, if_neg (by omega)]
        · intro q hq; rw [g5, if_neg (by omega), e2 47 (by omega) (by omega)]
        · intro i hi; rw [g5, if_pos (by omega)]
  · rw [z_if0 c]
    refine zAg_same h (zE_go ?_)
    unfold e_M_text f_M_isText
    rw [M_in, z_if0 (by omega)]
    exact zE_ret
end AG1
