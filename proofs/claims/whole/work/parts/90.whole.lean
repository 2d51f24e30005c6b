/-! the whole law, over plain functions -/
def zm00 : zM := zmM (zmX (fun _ _ => 0))
theorem zm00_2 : ∀ r, r < 6 → zm00 2 r = -1 ∧ zm00 46 r = -1 := by decide
theorem zm00_5 : ∀ r, r < 4 → zm00 5 r = -1 ∧ zm00 48 r = -1 := by decide
theorem zm00_44 : ∀ k, k < 3 → zm00 44 k = -1 ∧ zm00 (27 + 5 * k) 2 = -1 := by decide
theorem nT_nil : nT [] = 0 := rfl
theorem tot_nil : tot [] = 0 := rfl
theorem Rel_start : Rel zm00 := by
  refine ⟨⟨rfl, rfl, rfl, rfl, fun k _ => rfl⟩, ⟨rfl, rfl, fun r hr => ?_, fun r i hr hi => ?_⟩, ⟨⟨rfl, rfl, fun r hr => ?_, fun r i hr hi => ?_⟩, fun r i hr hi => ?_⟩, ⟨rfl, ?_, ?_, [], VT_nil, ⟨rfl, rfl, fun x hx hx2 => ?_, fun x y hx hx2 hy hy2 => ?_⟩, ⟨rfl, fun x hx hx2 => ?_, fun x y hx hx2 hy hy2 => ?_⟩, fun i hi => ?_⟩, fun k hk => Or.inl (zm00_44 k hk)⟩
  · have := zm00_2 r hr
    rw [this.1, this.2]; exact ⟨rfl, by omega, by omega⟩
  · have := zm00_2 r hr
    rw [this.1] at hi; omega
  · have := zm00_5 r hr
    rw [this.1, this.2]; exact ⟨rfl, by omega, by omega⟩
  · have := zm00_5 r hr
    rw [this.1] at hi; omega
  · have := zm00_5 r hr
    rw [this.1] at hi; omega
  · show (0 : Int) ≤ 0; omega
  · show (0 : Int) ≤ 40; omega
  · rw [hT_out (Or.inr (by rw [nT_nil]; exact hx))]; rfl
  · rw [hT_out (Or.inr (by rw [nT_nil]; exact hx)), if_neg (by omega)]; rfl
  · rw [nT_nil] at hx2; omega
  · rw [nT_nil] at hx2; omega
  · have : (i : Int) < 0 := hi
    omega
theorem law_pure (sc : Nat → Int) (L : Nat) (hr : ∀ j, zrI (sc j)) (hL : L ≤ 3072) : zE (t_W_law sc (L : Int)) (some (.inl ((0 : Int), zm00))) 1 := by
  refine zE_inv (fun k s => ∃ μ, s = (6 * (k : Int), μ) ∧ Rel μ) (L / 6) ⟨zm00, rfl, Rel_start⟩ ?_ ?_
  · rintro k _ hk ⟨μ, rfl, h⟩
    obtain ⟨κ, e1, e2⟩ := law_step (sc := sc) (N := (L : Int)) (v := 6 * (k : Int)) hr h (by omega) (by omega) (by omega)
    exact ⟨_, e1, κ, by rw [show 6 * ((k + 1 : Nat) : Int) = 6 * (k : Int) + 6 by omega], e2⟩
  · rintro _ ⟨μ, rfl, h⟩
    show zE _ (b_W_law sc (L : Int) (6 * ((L / 6 : Nat) : Int)) μ) 1
    unfold b_W_law
    rw [z32_id (z := (L : Int) - 6) (by omega) (by omega), if_pos (by omega)]
    exact zE_ret
