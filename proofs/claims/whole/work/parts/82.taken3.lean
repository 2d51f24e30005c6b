theorem onW_56 {x y t s h : Int} (hx : 0 ≤ x ∧ x < 5) (hy : 0 ≤ y) (ht : 0 ≤ t ∧ t < 5) (hs : s < 6) : onW x y t s h 6 = onW x y t s h 5 := by
  have en : onW x y t s h 6 = (onW x y t s h 5 && !decide (t = x + (1 + ((5 : Nat) : Int)) * eT h ∧ s = y + (1 + ((5 : Nat) : Int)) * uT h)) := rfl
  have e0 : eT h = 0 → uT h = 1 := fun z => by
    unfold eT at z
    have : h = 2 := by
      by_cases a : h < 2
      · rw [if_pos a] at z; omega
      · rw [if_neg a] at z
        by_cases b : 2 < h
        · rw [if_pos b] at z; omega
        · omega
    rw [this]; rfl
  have he := eT_in h
  have : decide (t = x + (1 + ((5 : Nat) : Int)) * eT h ∧ s = y + (1 + ((5 : Nat) : Int)) * uT h) = false := decide_eq_false (fun z => by
    have e1 : eT h = -1 ∨ eT h = 0 ∨ eT h = 1 := by omega
    rcases e1 with e1 | e1 | e1
    · rw [e1] at z; omega
    · have := e0 e1; rw [e1, this] at z; omega
    · rw [e1] at z; omega)
  rw [en, this, Bool.not_false, Bool.and_true]
