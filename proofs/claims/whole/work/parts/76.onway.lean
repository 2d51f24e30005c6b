/-! does a place lie on the sun's way? -/
def onW (x y t s h : Int) (n : Nat) : Bool := zall (fun k => !decide (t = x + (1 + (k : Int)) * eT h ∧ s = y + (1 + (k : Int)) * uT h)) n
theorem M_isOnWay {x y t s h : Int} (h1 : 0 ≤ x ∧ x < 5) (h2 : 0 ≤ y ∧ y < 6) : f_M_isOnWay x y t s h = some (if onW x y t s h 6 = true then 0 else 1) := by
  have he := eT_in h
  have hb : ∀ k : Nat, k < 6 → -6 ≤ (1 + (k : Int)) * eT h ∧ (1 + (k : Int)) * eT h ≤ 6 ∧ -6 ≤ (1 + (k : Int)) * uT h ∧ (1 + (k : Int)) * uT h ≤ 6 := fun k hk => by
    have e1 : eT h = -1 ∨ eT h = 0 ∨ eT h = 1 := by omega
    have e2 : uT h = 0 ∨ uT h = 1 := by omega
    rcases e1 with e1 | e1 | e1 <;> rcases e2 with e2 | e2 <;> rw [e1, e2] <;> omega
  refine zE_go (zE_for (fun k => ((if onW x y t s h k = true then 0 else 1), 1 + (k : Int))) 6 rfl (fun k hk => ?_) ?_)
  · obtain ⟨b1, b2, b3, b4⟩ := hb k hk
    show b_M_isOnWay_6 x y t s h (if onW x y t s h k = true then 0 else 1) (1 + (k : Int)) = _
    unfold b_M_isOnWay_6
    have en : onW x y t s h (k + 1) = (onW x y t s h k && !decide (t = x + (1 + (k : Int)) * eT h ∧ s = y + (1 + (k : Int)) * uT h)) := rfl
    rw [if_pos (by omega), M_eastIn, M_upIn, z32_id (z := (1 + (k : Int)) * eT h) (by omega) (by omega), z32_id (z := (1 + (k : Int)) * uT h) (by omega) (by omega), z32_id (z := x + (1 + (k : Int)) * eT h) (by omega) (by omega), z32_id (z := y + (1 + (k : Int)) * uT h) (by omega) (by omega), z32_id (z := 1 + (k : Int) + 1) (by omega) (by omega), en, show 1 + ((k + 1 : Nat) : Int) = 1 + (k : Int) + 1 by omega]
    by_cases c : onW x y t s h k = true
    · rw [z_ifn1 c, c]
      by_cases d : t = x + (1 + (k : Int)) * eT h
      · rw [if_pos d]
        by_cases e : s = y + (1 + (k : Int)) * uT h
        · rw [if_pos e, if_neg (by simp [← d, ← e])]
        · rw [if_neg e, if_pos (by simp [e])]
      · rw [if_neg d, if_pos (by simp [d])]
    · rw [z_ifn0 c, if_neg (by simp [c])]
  · show zE _ (b_M_isOnWay_6 x y t s h (if onW x y t s h 6 = true then 0 else 1) (1 + ((6 : Nat) : Int))) _
    unfold b_M_isOnWay_6
    rw [if_neg (by omega), if_pos (by split <;> omega)]
    exact zE_ret
