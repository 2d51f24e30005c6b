/-! a glass house made plain takes the sun from those it stands before -/
theorem blkT_chg {T : zT} {t s b x y : Int} (h1 : 0 ≤ s) (h2 : s < hT T t) (hb : 0 ≤ b) : blkT (chgT T t s 0 b) x y = (blkT T x y || decide (x = t ∧ y = s)) := by
  have h3 := hT_pos (show 0 < hT T t by omega)
  have hh : hT (chgT T t s 0 b) x = hT T x := chgT_h h3.1 h3.2
  unfold blkT
  rw [hh]
  by_cases c : 0 ≤ y ∧ y < hT T x
  · have h4 := hT_pos (show 0 < hT T x by omega)
    obtain ⟨c1, _⟩ := chgT_c (T := T) (k := 0) (b := b) h1 h2 h4.1 c.1 (by omega) hb
    rw [c1]
    by_cases d : x = t ∧ y = s
    · rw [if_pos d]
      have : decide (x = t ∧ y = s) = true := decide_eq_true d
      rw [this, Bool.or_true]
      exact decide_eq_true ⟨c, by omega⟩
    · rw [if_neg d]
      have : decide (x = t ∧ y = s) = false := decide_eq_false d
      rw [this, Bool.or_false]
  · have e1 : decide (x = t ∧ y = s) = false := decide_eq_false (fun d => c (by rw [d.1, d.2]; exact ⟨h1, h2⟩))
    have e2 : ∀ P : Prop, ∀ _ : Decidable ((0 ≤ y ∧ y < hT T x) ∧ P), decide ((0 ≤ y ∧ y < hT T x) ∧ P) = false := fun P _ => decide_eq_false (fun z => c z.1)
    rw [e1, Bool.or_false, e2, e2]
