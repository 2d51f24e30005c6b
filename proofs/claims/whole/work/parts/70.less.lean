/-! one house more left out is one house gone -/
section LE
variable {T : zT} {p : Nat → Bool} {i : Nat}
theorem flT_congr {q : Nat → Bool} {j m : Nat} (h : ∀ s : Nat, s < m → p (numT T j s).toNat = q (numT T j s).toNat) : flT T p j m = flT T q j m := by
  induction m with
  | zero => rfl
  | succ m ih => rw [flT_s, flT_s, ih (fun s hs => h s (by omega)), h m (by omega)]
theorem flT_len (hp : ∀ a, p a = true → i < a) {j : Nat} {s : Int} (hs : numT T j s = i) : ∀ m : Nat, ((m : Int) ≤ s + 1 → (flT T p j m).length = m) ∧ (s + 1 ≤ m → s + 1 ≤ (flT T p j m).length)
  | 0 => ⟨fun _ => rfl, fun h => by show s + 1 ≤ ((0 : Nat) : Int); omega⟩
  | m + 1 => by
    obtain ⟨h1, h2⟩ := flT_len hp hs m
    have e : (m : Int) ≤ s → p (numT T j m).toNat = false := fun hm => by
      cases hh : p (numT T j m).toNat with
      | false => rfl
      | true =>
        have a := hp _ hh
        rw [numT_s] at hs
        rw [numT_s (s := (m : Int))] at a
        omega
    constructor
    · intro hm
      rw [flT_s, if_neg (by rw [e (by omega)]; simp), List.length_append, h1 (by omega)]; rfl
    · intro hm
      rw [flT_s, List.length_append]
      by_cases c : s + 1 ≤ (m : Int)
      · have := h2 c; omega
      · rw [if_neg (by rw [e (by omega)]; simp), h1 (by omega)]
        show s + 1 ≤ ((m + 1 : Nat) : Int)
        omega
theorem flT_add (hp : ∀ a, p a = true → i < a) {j : Nat} {s : Int} (h0 : 0 ≤ s) (hs : numT T j s = i) : ∀ m : Nat, flT T (fun a => p a || decide (a = i)) j m = (flT T p j m).eraseIdx s.toNat
  | 0 => by unfold flT; simp
  | m + 1 => by
    obtain ⟨h1, h2⟩ := flT_len hp hs m
    rw [flT_s, flT_add hp h0 hs m, flT_s]
    have en : numT T j m = numT T j 0 + m := numT_s
    have en2 : numT T j s = numT T j 0 + s := numT_s
    have e0 : 0 ≤ numT T j 0 := by unfold numT; have := zsum_nn (n := ((j : Nat) : Int).toNat) (f := fun j => hT T j) (fun j _ => hT_nn T j); omega
    by_cases c : (m : Int) = s
    · have ep : p (numT T j m).toNat = false := by
        cases hh : p (numT T j m).toNat with
        | false => rfl
        | true => have a := hp _ hh; omega
      have hl := h1 (by omega)
      rw [if_pos (by simp; right; omega), if_neg (by rw [ep]; simp), List.append_nil, List.eraseIdx_of_length_le (by omega), List.eraseIdx_append_of_length_le (by omega), hl, show s.toNat - m = 0 by omega]
      simp
    · have ed : (p (numT T j m).toNat || decide ((numT T j m).toNat = i)) = p (numT T j m).toNat := by
        have : decide ((numT T j m).toNat = i) = false := by simp; omega
        rw [this, Bool.or_false]
      rw [ed]
      by_cases d : (m : Int) < s
      · have hl := h1 (by omega)
        rw [List.eraseIdx_of_length_le (by omega), List.eraseIdx_of_length_le (by rw [List.length_append]; split <;> simp <;> omega)]
      · have hl := h2 (by omega)
        rw [List.eraseIdx_append_of_lt_length (by omega)]
theorem wiT_getD {q : Nat → Bool} {j : Nat} (h : (j : Int) < nT T) : (wiT T q).getD j [] = flT T q j (hT T j).toNat := by
  unfold wiT tkT
  rw [List.getD_eq_getElem?_getD, List.getElem?_map, List.getElem?_range (by omega)]; rfl
theorem wiT_add (hV : VT T) (hi : (i : Int) < tot T) (hp : ∀ a, p a = true → i < a) : wiT T (fun a => p a || decide (a = i)) = gonT (wiT T p) (twT T i) (syT T i) := by
  obtain ⟨a1, a2, a3, a4, a5⟩ := num_tw hV (i := i) (by omega) hi
  have hl : ∀ q : Nat → Bool, (wiT T q).length = (nT T).toNat := fun q => by unfold wiT; exact tkT_len _ _ _
  apply List.ext_getElem?
  intro j
  unfold gonT
  rw [List.getElem?_set, hl]
  by_cases c : j < (nT T).toNat
  · have e1 : (wiT T (fun a => p a || decide (a = i)))[j]? = some (flT T (fun a => p a || decide (a = i)) j (hT T j).toNat) := by
      unfold wiT tkT
      rw [List.getElem?_map, List.getElem?_range c]; rfl
    have e2 : (wiT T p)[j]? = some (flT T p j (hT T j).toNat) := by
      unfold wiT tkT
      rw [List.getElem?_map, List.getElem?_range c]; rfl
    rw [e1]
    by_cases d : (twT T i).toNat = j
    · rw [if_pos d, if_pos (by omega), ← d, wiT_getD (by omega)]
      have := flT_add (T := T) (p := p) (i := i) hp (j := (twT T i).toNat) a3 (by rw [show (((twT T i).toNat : Nat) : Int) = twT T i by omega]; exact a5) (hT T ((twT T i).toNat : Nat)).toNat
      rw [this]
    · rw [if_neg d, e2]
      congr 1
      refine flT_congr (fun s hs => ?_)
      have hb := tw_num hV (t := j) (s := s) (by omega) (by omega)
      have hn := numT_in hV (t := j) (s := s) (by omega) (by omega)
      have : decide ((numT T j s).toNat = i) = false := by
        simp
        intro z
        have : numT T j s = i := by omega
        rw [this] at hb
        omega
      rw [this, Bool.or_false]
  · rw [List.getElem?_eq_none (by rw [hl]; omega)]
    by_cases d : (twT T i).toNat = j
    · omega
    · rw [if_neg d, List.getElem?_eq_none (by rw [hl]; omega)]
theorem wiT_one (hV : VT T) (hi : (i : Int) < tot T) : wiT T (fun a => decide (a = i)) = gonT T (twT T i) (syT T i) := by
  have := wiT_add (p := fun _ => false) hV hi (fun a h => absurd h (by simp))
  rw [wiT_none] at this
  rw [← this]
  congr 1
end LE
