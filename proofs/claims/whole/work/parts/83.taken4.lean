theorem ho_sum (T : zT) (x y : Int) : zpop (hoT T x y) = zsum 5 (fun h => if shT T x y h = -9 then 1 else 0) := by
  unfold hoT
  rw [zpop_set 5 _ (by omega)]
  exact zsum_congr (fun k _ => by
    by_cases c : shT T x y k = -9
    · rw [if_pos c, if_pos (decide_eq_true c)]
    · rw [if_neg c, if_neg (by rw [decide_eq_false c]; simp)])
theorem ho_taken {T : zT} (hV : VT T) {t s b x y : Int} (h1 : 0 ≤ s) (h2 : s < hT T t) (hb : 0 ≤ b ∧ b < 10) (hx : 0 ≤ x ∧ x < 5) (hy : 0 ≤ y) : zpop (hoT T x y) = zpop (hoT (chgT T t s 0 b) x y) + csH T t s x y 5 := by
  have h3 := hT_pos (show 0 < hT T t by omega)
  have h4 := nT_le hV
  have h5 := hT_le hV t
  rw [ho_sum, ho_sum]
  unfold csH
  rw [← zsum_add]
  refine zsum_congr (fun h _ => ?_)
  have e := shT_chg (x := x) (y := y) (h := h) hV h1 h2 hb
  have e6 := onW_56 (x := x) (y := y) (t := t) (s := s) (h := h) hx hy (by omega) (by omega)
  by_cases c : shT T x y h = -9
  · rw [if_pos c, if_pos c]
    by_cases d : onW x y t s h 6 = true
    · rw [if_pos d, if_pos (e.mpr ⟨c, by rw [← e6]; exact d⟩)]; rfl
    · rw [if_neg d, if_neg (fun z => d (by rw [e6]; exact (e.mp z).2))]; rfl
  · rw [if_neg c, if_neg c, if_neg (fun z => c (e.mp z).1)]; rfl
