/-! counts -/
section CT
variable {μ : zM} {T : zT} {t s k n v : Int}
theorem ctT_s (T : zT) (p : Int → Int → Bool) (n m : Nat) : ctT T p n (m + 1) = ctT T p n m + if p n m then 1 else 0 := by
  unfold ctT; rw [zsum_s]; omega
theorem R_countOf {o : Nat} (hR : IsR μ o T) (hV : VT T) (p : Int → Bool) (hp : ∀ a, f_X_isOf a v = some (if p a then 1 else 0)) : f_R_countOf o v μ = some (allT T (fun t s => p (cT T t s))) := by
  have hn := nT_le hV
  have hn0 := nT_nn T
  refine zE_go (zE_two (fun t => .inl (ctT T (fun t s => p (cT T t s)) t 0, (t : Int))) (fun t s => .inr (ctT T (fun t s => p (cT T t s)) t s, (t : Int), (s : Int))) (nT T).toNat (fun t => (hT T t).toNat) rfl (fun t h1 => ?_) (fun t s h1 h2 => ?_) (fun t h1 => ?_) ?_)
  · show b_R_countOf_4 o v _ (t : Int) μ = _
    unfold b_R_countOf_4
    rw [hR.1, if_pos (by omega)]
    rfl
  · have h3 := hT_le hV t
    have hc := ctT_in hV (fun t s => p (cT T t s)) t s
    show b_R_countOf_15 o v _ (t : Int) (s : Int) μ = _
    unfold b_R_countOf_15
    rw [R_heightOf hR hV, z_some_bind, if_pos (by omega), R_kindAt hR hV (by omega) (by omega), z_some_bind, hp, z_some_bind, z32_id (z := (s : Int) + 1) (by omega) (by omega), z32_id (z := ctT T (fun t s => p (cT T t s)) t s + 1) (by omega) (by omega), ctT_s]
    by_cases c : p (cT T t s) = true
    · rw [z_if1 c, if_pos c]; rfl
    · rw [z_if0 c, if_neg c, Int.add_zero]; rfl
  · show b_R_countOf_15 o v _ (t : Int) ((hT T t).toNat : Int) μ = _
    have h3 := hT_nn T t
    unfold b_R_countOf_15
    rw [R_heightOf hR hV, z_some_bind, if_neg (by omega), z32_id (by omega) (by omega), ctT_next]
    rfl
  · show zE _ (b_R_countOf_4 o v _ ((nT T).toNat : Int) μ) _
    unfold b_R_countOf_4
    rw [hR.1, if_neg (by omega)]
    exact zE_ret
theorem M_kindsMany (hW : IsV (μ 43) T) (hV : VT T) (p : Int → Bool) (hp : ∀ a, (if v = 0 then f_M_isLeaning a else f_M_isGlass a) = if p a then 1 else 0) : f_M_kindsMany v μ = some (allT T (fun t s => p (cT T t s))) := by
  have hn := nT_le hV
  have hn0 := nT_nn T
  refine zE_go (zE_two (fun t => .inl (ctT T (fun t s => p (cT T t s)) t 0, (t : Int))) (fun t s => .inr (ctT T (fun t s => p (cT T t s)) t s, (t : Int), (s : Int))) (nT T).toNat (fun t => (hT T t).toNat) rfl (fun t h1 => ?_) (fun t s h1 h2 => ?_) (fun t h1 => ?_) ?_)
  · show b_M_kindsMany_4 v _ (t : Int) μ = _
    unfold b_M_kindsMany_4
    rw [hW.1, if_pos (by omega)]
    rfl
  · have h3 := hT_le hV t
    have hc := ctT_in hV (fun t s => p (cT T t s)) t s
    have hp2 := hp (cT T t s)
    show b_M_kindsMany_17 v _ (t : Int) (s : Int) μ = _
    unfold b_M_kindsMany_17
    rw [z32_id (z := 1 + (t : Int)) (by omega) (by omega), if_pos (by omega), hW.2.1 t (by omega) (by omega), if_pos (by omega), M_kindAt hW hV (by omega) (by omega), z_some_bind, z_some_bind, z32_id (z := (s : Int) + 1) (by omega) (by omega), z32_id (z := ctT T (fun t s => p (cT T t s)) t s + 1) (by omega) (by omega), Int.add_zero, z32_id (z := ctT T (fun t s => p (cT T t s)) t s) (by omega) (by omega), ctT_s]
    by_cases d : v = 0
    · rw [if_pos d] at hp2 ⊢
      rw [hp2]
      by_cases c : p (cT T t s) = true
      · rw [z_if1 c, if_pos c]; rfl
      · rw [z_if0 c, if_neg c, Int.add_zero]; rfl
    · rw [if_neg d] at hp2 ⊢
      rw [hp2]
      by_cases c : p (cT T t s) = true
      · rw [z_if1 c, if_pos c]; rfl
      · rw [z_if0 c, if_neg c, Int.add_zero]; rfl
  · show b_M_kindsMany_17 v _ (t : Int) ((hT T t).toNat : Int) μ = _
    have h3 := hT_nn T t
    unfold b_M_kindsMany_17
    rw [z32_id (z := 1 + (t : Int)) (by omega) (by omega), if_pos (by omega), hW.2.1 t (by omega) (by omega), if_neg (by omega), z32_id (by omega) (by omega), ctT_next]
    rfl
  · show zE _ (b_M_kindsMany_4 v _ ((nT T).toNat : Int) μ) _
    unfold b_M_kindsMany_4
    rw [hW.1, if_neg (by omega)]
    exact zE_ret
theorem M_highest (hW : IsV (μ 43) T) (hV : VT T) : f_M_highest μ = some (mxT T (nT T).toNat) := by
  have h4 := nT_le hV
  have h5 := nT_nn T
  refine zE_go (zE_for (fun k => (mxT T k, (k : Int))) (nT T).toNat rfl (fun k hk => ?_) ?_)
  · show b_M_highest_4 (mxT T k) (k : Int) μ = _
    unfold b_M_highest_4
    rw [hW.1, if_pos (by omega), z32_id (z := 1 + (k : Int)) (by omega) (by omega), if_pos (by omega), if_pos (show 0 ≤ 1 + (k : Int) ∧ 1 + (k : Int) < 10956 by omega), hW.2.1 k (by omega) (by omega), z32_id (by omega) (by omega)]
    have e : mxT T (k + 1) = max (mxT T k) (hT T k) := rfl
    rw [e]
    by_cases c : mxT T k < hT T k
    · rw [if_pos c, show max (mxT T k) (hT T k) = hT T k by omega]; rfl
    · rw [if_neg c, show max (mxT T k) (hT T k) = mxT T k by omega]; rfl
  · show zE _ (b_M_highest_4 _ _ μ) _
    unfold b_M_highest_4
    rw [hW.1, if_neg (by omega)]
    exact zE_ret
theorem S_thereCount {o cap m : Nat} (hc : zSC o cap m) : f_S_thereCount o μ = some (zsum m (fun r => if μ (o + 1) r < 0 then 0 else 1)) := by
  have hm : m ≤ 6 := by rcases hc.2 with h | h <;> omega
  refine zE_go (zE_for (fun k => (zsum k (fun r => if μ (o + 1) r < 0 then 0 else 1), (k : Int))) m rfl (fun k hk => ?_) ?_)
  · have hb : 0 ≤ zsum k (fun r => if μ (o + 1) r < 0 then 0 else 1) ∧ zsum k (fun r => if μ (o + 1) r < 0 then (0 : Int) else 1) ≤ 1 * k := ⟨zsum_nn (fun j _ => by split <;> omega), zsum_le (fun j _ => by split <;> omega)⟩
    show b_S_thereCount_4 o _ (k : Int) μ = _
    unfold b_S_thereCount_4
    rw [hc.1, if_pos (by omega), S_isThere hc (by omega) (by omega), z_some_bind, z32_id (z := (k : Int) + 1) (by omega) (by omega), z32_id (by omega) (by omega), zsum_s, show ((k : Nat) : Int).toNat = k by omega]
    by_cases c : μ (o + 1) k < 0
    · rw [z_ifn1 c, if_pos c, Int.add_zero]; rfl
    · rw [z_ifn0 c, if_neg c]; rfl
  · show zE _ (b_S_thereCount_4 o _ _ μ) _
    unfold b_S_thereCount_4
    rw [hc.1, if_neg (by omega)]
    exact zE_ret
theorem M_thereOf {o m : Nat} (hm : m ≤ 6) (hz : (m : Int) ≤ zsz o) : f_M_thereOf o m μ = some (zsum m (fun r => if μ o r < 0 then 0 else 1)) := by
  refine zE_go (zE_for (fun k => (zsum k (fun r => if μ o r < 0 then 0 else 1), (k : Int))) m rfl (fun k hk => ?_) ?_)
  · have hb : 0 ≤ zsum k (fun r => if μ o r < 0 then 0 else 1) ∧ zsum k (fun r => if μ o r < 0 then (0 : Int) else 1) ≤ 1 * k := ⟨zsum_nn (fun j _ => by split <;> omega), zsum_le (fun j _ => by split <;> omega)⟩
    show b_M_thereOf_4 o m _ (k : Int) μ = _
    unfold b_M_thereOf_4
    rw [if_pos (by omega), if_pos (by omega), z32_id (z := (k : Int) + 1) (by omega) (by omega), Int.add_zero, z32_id (z := zsum k (fun r => if μ o r < 0 then 0 else 1)) (by omega) (by omega), z32_id (by omega) (by omega), zsum_s, show ((k : Nat) : Int).toNat = k by omega]
    by_cases c : μ o k < 0
    · rw [if_pos c, if_pos c, Int.add_zero]; rfl
    · rw [if_neg c, if_neg c]; rfl
  · show zE _ (b_M_thereOf_4 o m _ _ μ) _
    unfold b_M_thereOf_4
    rw [if_neg (by omega)]
    exact zE_ret
theorem Rel_kept (h : Rel μ) (k : Nat) (hk : k < 3) : μ (27 + 5 * k) 2 = μ 44 k := by
  rcases h.2.2.2.2 k hk with c | c
  · rw [c.1, c.2]
  · exact c.1
theorem X_keptAt : f_X_keptAt n = some (if 0 ≤ n ∧ n < 3 then some (27 + 5 * n.toNat) else none) := by
  unfold f_X_keptAt
  by_cases c : n < 0
  · rw [if_pos c, if_neg (by omega)]
  · rw [if_neg c]
    by_cases d : n < 3
    · rw [if_pos d, if_pos (by omega), if_pos (by omega)]
    · rw [if_neg d, if_neg (by omega)]
theorem X_deedsKeptIn {k : Nat} (hk : k < 3) : f_X_deedsKeptIn (k : Int) μ = some (μ (27 + 5 * k) 2) := by
  unfold f_X_deedsKeptIn
  rw [X_keptAt, z_some_bind, if_pos (by omega)]
  show some (μ (27 + 5 * ((k : Nat) : Int).toNat) 2) = _
  rw [show ((k : Nat) : Int).toNat = k by omega]
theorem Rel_kept_lo (h : Rel μ) (k : Nat) (hk : k < 3) : -1 ≤ μ (27 + 5 * k) 2 := by
  rw [Rel_kept h k hk]
  rcases h.2.2.2.2 k hk with c | c
  · rw [c.1]; omega
  · have := c.2.1; omega
theorem X_keptCount (h : Rel μ) : f_X_keptCount μ = some (zsum 3 (fun r => if μ (27 + 5 * r) 2 < 0 then 0 else 1)) := by
  refine zE_go (zE_for (fun k => (zsum k (fun r => if μ (27 + 5 * r) 2 < 0 then 0 else 1), (k : Int))) 3 rfl (fun k hk => ?_) ?_)
  · have hb : 0 ≤ zsum k (fun r => if μ (27 + 5 * r) 2 < 0 then 0 else 1) ∧ zsum k (fun r => if μ (27 + 5 * r) 2 < 0 then (0 : Int) else 1) ≤ 1 * k := ⟨zsum_nn (fun j _ => by split <;> omega), zsum_le (fun j _ => by split <;> omega)⟩
    have hl := Rel_kept_lo h k hk
    show b_X_keptCount_4 _ (k : Int) μ = _
    unfold b_X_keptCount_4
    rw [if_pos (by omega), X_deedsKeptIn hk, z_some_bind, z32_id (z := (k : Int) + 1) (by omega) (by omega), z32_id (by omega) (by omega), zsum_s]
    by_cases c : μ (27 + 5 * k) 2 < 0
    · rw [if_pos (show μ (27 + 5 * k) 2 = -1 by omega), if_pos c, Int.add_zero]; rfl
    · rw [if_neg (show ¬ μ (27 + 5 * k) 2 = -1 by omega), if_neg c]; rfl
  · show zE _ (b_X_keptCount_4 _ ((3 : Nat) : Int) μ) _
    unfold b_X_keptCount_4
    rw [if_neg (by omega)]
    exact zE_ret
theorem A_count (h : Rel μ) : ∃ a, f_X_count n μ = some a ∧ f_M_count n μ = some a := by
  obtain ⟨T, hV, hR, hW⟩ := Rel_T h
  have hd := h.2.2.2.1.1
  unfold f_X_count f_M_count
  by_cases c : n < 0 ∨ 8 < n
  · refine ⟨-1, ?_, ?_⟩
    · by_cases d : n < 0
      · rw [if_pos d]
      · rw [if_neg d, if_pos (by omega)]
    · rw [if_neg (by omega), if_neg (by omega), if_neg (by omega), if_neg (by omega), if_neg (by omega), if_neg (by omega), if_neg (by omega), if_neg (by omega), if_neg (by omega)]
  · rw [if_neg (by omega), if_neg (by omega)]
    have : n = 0 ∨ n = 1 ∨ n = 2 ∨ n = 3 ∨ n = 4 ∨ n = 5 ∨ n = 6 ∨ n = 7 ∨ n = 8 := by omega
    rcases this with rfl | rfl | rfl | rfl | rfl | rfl | rfl | rfl | rfl
    · exact ⟨nT T, by show some (μ 8 0) = _; rw [hR.1], by show some (μ 43 0) = _; rw [hW.1]⟩
    · refine ⟨tot T, by show some (μ 8 1) = _; rw [hR.2.1], ?_⟩
      show (f_M_houses μ).bind _ = _
      rw [M_houses hW hV]; rfl
    · exact ⟨μ 42 1, by show some (μ 7 2) = _; rw [hd], rfl⟩
    · refine ⟨mxT T (nT T).toNat, ?_, ?_⟩
      · show (f_R_mostStoreys 8 μ).bind _ = _
        rw [R_mostStoreys hR hV]; rfl
      · show (f_M_highest μ).bind _ = _
        rw [M_highest hW hV]; rfl
    · refine ⟨allT T (fun t s => decide (cT T t s = 1 ∨ cT T t s = 4)), ?_, ?_⟩
      · show (f_R_countOf 8 1 μ).bind _ = _
        rw [R_countOf hR hV (fun a => decide (a = 1 ∨ a = 4)) (fun a => by rw [X_isOf_1]; simp)]; rfl
      · show (f_M_kindsMany 1 μ).bind _ = _
        rw [M_kindsMany hW hV (fun a => decide (a = 1 ∨ a = 4)) (fun a => by rw [if_neg (by omega), M_isGlass]; simp)]; rfl
    · refine ⟨allT T (fun t s => decide (cT T t s = 2 ∨ cT T t s = 5)), ?_, ?_⟩
      · show (f_R_countOf 8 2 μ).bind _ = _
        rw [R_countOf hR hV (fun a => decide (a = 2 ∨ a = 5)) (fun a => by rw [X_isOf_2]; simp)]; rfl
      · show (f_M_kindsMany 0 μ).bind _ = _
        rw [M_kindsMany hW hV (fun a => decide (a = 2 ∨ a = 5)) (fun a => by rw [if_pos rfl, M_isLeaning]; simp)]; rfl
    · refine ⟨zsum 6 (fun r => if μ 2 r < 0 then 0 else 1), ?_, ?_⟩
      · show (f_S_thereCount 1 μ).bind _ = _
        rw [S_thereCount zSC_1]; rfl
      · show (f_M_thereOf 46 ((6 : Nat) : Int) μ).bind _ = _
        rw [M_thereOf (by omega) (by decide), zsum_congr (g := fun r => if μ 2 r < 0 then 0 else 1) (fun r hr => by rw [(h.2.1.2.2.1 r hr).1])]; rfl
    · refine ⟨zsum 4 (fun r => if μ 5 r < 0 then 0 else 1), ?_, ?_⟩
      · show (f_S_thereCount 4 μ).bind _ = _
        rw [S_thereCount zSC_4]; rfl
      · show (f_M_thereOf 48 ((4 : Nat) : Int) μ).bind _ = _
        rw [M_thereOf (by omega) (by decide), zsum_congr (g := fun r => if μ 5 r < 0 then 0 else 1) (fun r hr => by rw [(h.2.2.1.1.2.2.1 r hr).1])]; rfl
    · refine ⟨zsum 3 (fun r => if μ (27 + 5 * r) 2 < 0 then 0 else 1), ?_, ?_⟩
      · show (f_X_keptCount μ).bind _ = _
        rw [X_keptCount h]; rfl
      · show (f_M_thereOf 44 ((3 : Nat) : Int) μ).bind _ = _
        rw [M_thereOf (by omega) (by decide), zsum_congr (g := fun r => if μ (27 + 5 * r) 2 < 0 then 0 else 1) (fun r hr => by rw [Rel_kept h r hr])]; rfl
end CT
