def zm00 : zM := zmM (zmX (fun _ _ => 0))
theorem law_pure (sc : Nat → Int) (L : Nat) (hr : ∀ j, zrI (sc j)) (hL : L ≤ 3072) : zE (t_W_law sc (L : Int)) (some (.inl ((0 : Int), zm00))) 1 := sorry
