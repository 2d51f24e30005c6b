/-! THE RELATION of the two sides -/
def IsRf (r h c : Nat → Int) (T : zT) : Prop := r 0 = nT T ∧ r 1 = tot T ∧ (∀ x : Int, 0 ≤ x → x < 5 → h x.toNat = hT T x) ∧ ∀ x y : Int, 0 ≤ x → x < 5 → 0 ≤ y → y < 6 → c (x * 6 + y).toNat = if y < hT T x then 10 * cT T x y + bT T x y + 1 else 0
theorem IsRf_R {μ : zM} {o : Nat} {T : zT} : IsRf (μ o) (μ (o + 1)) (μ (o + 2)) T ↔ IsR μ o T := Iff.rfl
def IsA (a : Nat → Int) (i : Nat) (D : zT) : Prop := ∀ x y : Int, 0 ≤ x → x < 5 → 0 ≤ y → y < 6 → a (30 * (i : Int) + (x * 6 + y)).toNat = if y < hT D x then 10 * cT D x y + bT D x y + 1 else 0
def zRA (a f m n : Nat → Int) : Prop := a 8 = m 8 ∧ a 9 = m 10 ∧ a 10 = m 11 ∧ a 11 = m 12 ∧ ∀ k, k < 6 → f k = n k
def zRS (cap k : Nat) (fill : Int) (s z v zz vv : Nat → Int) : Prop := s 0 = cap ∧ s 1 = fill ∧ (∀ r, r < k → z r = zz r ∧ -1 ≤ z r ∧ z r ≤ cap) ∧ ∀ r i : Nat, r < k → (i : Int) < z r → v (cap * r + i) = vv (cap * r + i)
def zRB (z v : Nat → Int) : Prop := ∀ r i : Nat, r < 4 → (i : Int) < z r → -128 ≤ v (60 * r + i) ∧ v (60 * r + i) < 128
def zRY (y r h c a w : Nat → Int) (d : Int) : Prop := y 2 = d ∧ 0 ≤ d ∧ d ≤ 40 ∧ ∃ T, VT T ∧ IsRf r h c T ∧ IsV w T ∧ ∀ i : Nat, (i : Int) < d → ∃ D, VT D ∧ D.length = T.length ∧ IsA a i D ∧ IsV (fun k => w (66 * (i + 1) + k)) D
def zRK (μ : zM) (k : Nat) : Prop := (μ 44 k = -1 ∧ μ (27 + 5 * k) 2 = -1) ∨ zRY (μ (27 + 5 * k)) (μ (28 + 5 * k)) (μ (29 + 5 * k)) (μ (30 + 5 * k)) (μ (31 + 5 * k)) (fun c => μ 43 (2706 * (k + 1) + c)) (μ 44 k)
def zR1 (μ : zM) : Prop := zRA (μ 0) (μ 26) (μ 42) (μ 50)
def zR2 (μ : zM) : Prop := zRS 40 6 0 (μ 1) (μ 2) (μ 3) (μ 46) (μ 45)
def zR3 (μ : zM) : Prop := zRS 60 4 32 (μ 4) (μ 5) (μ 6) (μ 48) (μ 47) ∧ zRB (μ 5) (μ 6)
def zR4 (μ : zM) : Prop := zRY (μ 7) (μ 8) (μ 9) (μ 10) (μ 11) (μ 43) (μ 42 1)
def zR5 (μ : zM) : Prop := ∀ k, k < 3 → zRK μ k
def Rel (μ : zM) : Prop := zR1 μ ∧ zR2 μ ∧ zR3 μ ∧ zR4 μ ∧ zR5 μ
def zAg (x : Option (Int × zM)) (y : zM → Option (Int × zM)) : Prop := ∃ a ν, x = some (a, ν) ∧ ∃ κ, y ν = some (a, κ) ∧ Rel κ
theorem zst_p {μ : zM} {o k p : Nat} {v : Int} (h : p ≠ o) : zst μ o k v p = μ p := funext fun _ => zst_o (Or.inl h)
theorem zR5_of {μ ν : zM} (h : zR5 μ) (h1 : ∀ o, 27 ≤ o → o ≤ 41 → ν o = μ o) (h2 : ν 43 = μ 43) (h3 : ν 44 = μ 44) : zR5 ν := by
  intro k hk
  have := h k hk
  unfold zRK at this ⊢
  rw [h1 (27 + 5 * k) (by omega) (by omega), h1 (28 + 5 * k) (by omega) (by omega), h1 (29 + 5 * k) (by omega) (by omega), h1 (30 + 5 * k) (by omega) (by omega), h1 (31 + 5 * k) (by omega) (by omega), h2, h3]
  exact this
theorem zR4_of {μ ν : zM} (h : zR4 μ) (h1 : ∀ o, 7 ≤ o → o ≤ 11 → ν o = μ o) (h2 : ν 43 = μ 43) (h3 : ν 42 1 = μ 42 1) : zR4 ν := by
  unfold zR4 at h ⊢
  rw [h1 7 (by omega) (by omega), h1 8 (by omega) (by omega), h1 9 (by omega) (by omega), h1 10 (by omega) (by omega), h1 11 (by omega) (by omega), h2, h3]
  exact h
theorem Rel_found {μ : zM} {f : Int} (h : Rel μ) (h1 : 0 ≤ f) (h2 : f < 6) : ∃ ν, f_X_found f μ = some (-3, ν) ∧ ∃ κ, f_M_found f ν = some (-3, κ) ∧ Rel κ := by
  obtain ⟨q1, q2, q3, q4, q5⟩ := h
  refine ⟨zst (zst μ 0 8 f) 26 f.toNat (z32 (μ 26 f.toNat + 1)), ?_, zst (zst (zst (zst μ 0 8 f) 26 f.toNat (z32 (μ 26 f.toNat + 1))) 42 8 f) 50 f.toNat (z32 (μ 50 f.toNat + 1)), ?_, ?_⟩
  · unfold f_X_found
    rw [if_neg (by omega), if_pos h2, if_pos ⟨h1, h2⟩, if_pos ⟨h1, h2⟩, zst_o (by omega)]
  · unfold f_M_found
    rw [if_pos ⟨h1, h2⟩, if_pos ⟨h1, h2⟩, zst_o (μ := zst (zst μ 0 8 f) 26 f.toNat (z32 (μ 26 f.toNat + 1))) (by omega), zst_o (μ := zst μ 0 8 f) (by omega), zst_o (by omega)]
  · refine ⟨?_, ?_, ?_, ?_, ?_⟩
    · obtain ⟨a1, a2, a3, a4, a5⟩ := q1
      unfold zR1 zRA
      refine ⟨?_, ?_, ?_, ?_, ?_⟩
      · rw [zst_o (by omega), zst_o (by omega), zst_o (by omega), zst_at, zst_o (by omega), zst_at]
      · rw [zst_o (by omega), zst_o (by omega), zst_o (by omega), zst_o (by omega), zst_o (by omega), zst_o (by omega), zst_o (by omega), zst_o (by omega)]; exact a2
      · rw [zst_o (by omega), zst_o (by omega), zst_o (by omega), zst_o (by omega), zst_o (by omega), zst_o (by omega), zst_o (by omega), zst_o (by omega)]; exact a3
      · rw [zst_o (by omega), zst_o (by omega), zst_o (by omega), zst_o (by omega), zst_o (by omega), zst_o (by omega), zst_o (by omega), zst_o (by omega)]; exact a4
      · intro k hk
        rw [zst_o (by omega), zst_o (by omega)]
        by_cases c : k = f.toNat
        · subst c; rw [zst_at, zst_at, a5 _ hk]
        · rw [zst_o (Or.inr c), zst_o (Or.inr c), zst_o (by omega), zst_o (by omega), zst_o (by omega), zst_o (by omega)]; exact a5 k hk
    · unfold zR2 at q2 ⊢
      simp only [zst_p, ne_eq, Nat.reduceEqDiff, not_false_eq_true]
      exact q2
    · unfold zR3 at q3 ⊢
      simp only [zst_p, ne_eq, Nat.reduceEqDiff, not_false_eq_true]
      exact q3
    · exact zR4_of q4 (fun o h1 h2 => by rw [zst_p (by omega), zst_p (by omega), zst_p (by omega), zst_p (by omega)]) (by rw [zst_p (by omega), zst_p (by omega), zst_p (by omega), zst_p (by omega)]) (by rw [zst_o (by omega), zst_o (by omega), zst_o (by omega), zst_o (by omega)])
    · exact zR5_of q5 (fun o h1 h2 => by rw [zst_p (by omega), zst_p (by omega), zst_p (by omega), zst_p (by omega)]) (by rw [zst_p (by omega), zst_p (by omega), zst_p (by omega), zst_p (by omega)]) (by rw [zst_p (by omega), zst_p (by omega), zst_p (by omega), zst_p (by omega)])
theorem zAg_found {μ : zM} {f : Int} {y : zM → Option (Int × zM)} (h : Rel μ) (h1 : 0 ≤ f) (h2 : f < 6) (hy : ∀ ν, (∀ o, o ≠ 0 → o ≠ 26 → ν o = μ o) → y ν = (f_M_found f ν).bind fun q => some (q.1, q.2)) : zAg ((f_X_found f μ).bind fun q => some (q.1, q.2)) y := by
  obtain ⟨ν, e1, κ, e2, e3⟩ := Rel_found h h1 h2
  have e4 : ν = zst (zst μ 0 8 f) 26 f.toNat (z32 (μ 26 f.toNat + 1)) := by
    unfold f_X_found at e1
    rw [if_neg (by omega), if_pos h2, if_pos ⟨h1, h2⟩, if_pos ⟨h1, h2⟩, zst_o (by omega)] at e1
    have := congrArg (fun q => q.map (fun q => q.2)) e1
    simpa using this.symm
  refine ⟨-3, ν, by rw [e1]; rfl, κ, ?_, e3⟩
  rw [hy ν (fun o a b => by rw [e4, zst_p b, zst_p a]), e2]; rfl
/-- telling: the answer's asked -/
theorem Rel_tells {μ : zM} {v : Int} (h : Rel μ) : Rel (zst (zst μ 0 9 v) 42 10 v) := by
  obtain ⟨q1, q2, q3, q4, q5⟩ := h
  refine ⟨?_, ?_, ?_, ?_, ?_⟩
  · obtain ⟨a1, a2, a3, a4, a5⟩ := q1
    unfold zR1 zRA
    refine ⟨?_, ?_, ?_, ?_, ?_⟩
    · rw [zst_o (by omega), zst_o (by omega), zst_o (by omega), zst_o (by omega)]; exact a1
    · rw [zst_o (by omega), zst_at, zst_at]
    · rw [zst_o (by omega), zst_o (by omega), zst_o (by omega), zst_o (by omega)]; exact a3
    · rw [zst_o (by omega), zst_o (by omega), zst_o (by omega), zst_o (by omega)]; exact a4
    · intro k hk
      rw [zst_o (by omega), zst_o (by omega), zst_o (by omega), zst_o (by omega)]; exact a5 k hk
  · unfold zR2 at q2 ⊢
    simp only [zst_p, ne_eq, Nat.reduceEqDiff, not_false_eq_true]
    exact q2
  · unfold zR3 at q3 ⊢
    simp only [zst_p, ne_eq, Nat.reduceEqDiff, not_false_eq_true]
    exact q3
  · exact zR4_of q4 (fun o h1 h2 => by rw [zst_p (by omega), zst_p (by omega)]) (by rw [zst_p (by omega), zst_p (by omega)]) (by rw [zst_o (by omega), zst_o (by omega)])
  · exact zR5_of q5 (fun o h1 h2 => by rw [zst_p (by omega), zst_p (by omega)]) (by rw [zst_p (by omega), zst_p (by omega)]) (by rw [zst_p (by omega), zst_p (by omega)])
theorem zAg_same {μ : zM} {a : Int} {y : zM → Option (Int × zM)} (h : Rel μ) (hy : y μ = some (a, μ)) : zAg (some (a, μ)) y := ⟨a, μ, rfl, μ, hy, h⟩
