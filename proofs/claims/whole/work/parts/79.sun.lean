/-! seen from the sun: nothing in the way -/
theorem zff_iff (p : Nat → Bool) (g : Nat → Int) (d : Int) (hg : ∀ k, p k = true → g k ≠ d) : ∀ m i : Nat, zff p g d m i = d ↔ ∀ k, i ≤ k → k < i + m → p k = false
  | 0, i => ⟨fun _ k a b => absurd b (by omega), fun _ => rfl⟩
  | m + 1, i => by
    have ih := zff_iff p g d hg m (i + 1)
    show (if p i then g i else zff p g d m (i + 1)) = d ↔ _
    by_cases c : p i = true
    · rw [if_pos c]
      constructor
      · intro h; exact absurd h (hg i c)
      · intro h; have := h i (by omega) (by omega); rw [c] at this; exact absurd this (by simp)
    · rw [if_neg c, ih]
      constructor
      · intro h k a b
        by_cases e : k = i
        · subst e; simpa using c
        · exact h k (by omega) (by omega)
      · intro h k a b; exact h k (by omega) (by omega)
theorem shT_iff {T : zT} (hV : VT T) (t s h : Int) : shT T t s h = -9 ↔ ∀ k : Nat, k < 5 → blkT T (t + (1 + (k : Int)) * eT h) (s + (1 + (k : Int)) * uT h) = false := by
  unfold shT
  rw [zff_iff]
  · exact ⟨fun g k hk => g k (by omega) (by omega), fun g k _ hk => g k (by omega)⟩
  · intro k hk
    unfold blkT at hk
    have hk2 := (of_decide_eq_true hk).1
    have := numT_in hV hk2.1 hk2.2
    omega
