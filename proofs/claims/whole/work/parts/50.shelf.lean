/-! shelves -/
theorem z_if1 {α : Type} {c : Prop} [Decidable c] {a b : α} (h : c) : (if (if c then (1 : Int) else 0) = 0 then a else b) = b := by rw [if_pos h]; rfl
theorem z_if0 {α : Type} {c : Prop} [Decidable c] {a b : α} (h : ¬ c) : (if (if c then (1 : Int) else 0) = 0 then a else b) = a := by rw [if_neg h]; rfl
theorem z_ifn1 {α : Type} {c : Prop} [Decidable c] {a b : α} (h : c) : (if (if c then (0 : Int) else 1) = 0 then a else b) = a := by rw [if_pos h]; rfl
theorem z_ifn0 {α : Type} {c : Prop} [Decidable c] {a b : α} (h : ¬ c) : (if (if c then (0 : Int) else 1) = 0 then a else b) = b := by rw [if_neg h]; rfl
def zSC (o cap k : Nat) : Prop := zsz (o + 1) = k ∧ ((cap = 40 ∧ k = 6) ∨ (cap = 60 ∧ k = 4))
theorem zSC_1 : zSC 1 40 6 := ⟨rfl, Or.inl ⟨rfl, rfl⟩⟩
theorem zSC_4 : zSC 4 60 4 := ⟨rfl, Or.inr ⟨rfl, rfl⟩⟩
def zSS (μ : zM) (o cap k : Nat) (fill : Int) : Prop := μ o 0 = cap ∧ μ o 1 = fill ∧ ∀ r, r < k → -1 ≤ μ (o + 1) r ∧ μ (o + 1) r ≤ cap
theorem zSS_of {μ : zM} {o cap k : Nat} {fill : Int} {zz vv : Nat → Int} (h : zRS cap k fill (μ o) (μ (o + 1)) (μ (o + 2)) zz vv) : zSS μ o cap k fill := ⟨h.1, h.2.1, fun r hr => (h.2.2.1 r hr).2⟩
section SS1
variable {μ : zM} {o cap k : Nat} {fill r i v n : Int}
theorem S_knows (hc : zSC o cap k) : f_S_knows o r = if 0 ≤ r ∧ r < k then 1 else 0 := by
  unfold f_S_knows
  rw [hc.1]
  repeat' split
  all_goals first | rfl | (exfalso; omega)
theorem S_sizeOf (hc : zSC o cap k) (h1 : 0 ≤ r) (h2 : r < k) : f_S_sizeOf o r μ = some (μ (o + 1) r.toNat) := by
  unfold f_S_sizeOf
  rw [S_knows hc, z_if1 ⟨h1, h2⟩, hc.1, if_pos ⟨h1, h2⟩]
theorem S_isThere (hc : zSC o cap k) (h1 : 0 ≤ r) (h2 : r < k) : f_S_isThere o r μ = some (if μ (o + 1) r.toNat < 0 then 0 else 1) := by
  unfold f_S_isThere
  rw [S_sizeOf hc h1 h2, z_some_bind]
  split <;> rfl
theorem S_has (hc : zSC o cap k) (h1 : 0 ≤ r) (h2 : r < k) : f_S_has o r i μ = some (if 0 ≤ i ∧ i < μ (o + 1) r.toNat then 1 else 0) := by
  unfold f_S_has
  by_cases c : i < 0
  · rw [if_pos c, if_neg (by omega)]
  · rw [if_neg c, S_sizeOf hc h1 h2, z_some_bind]
    by_cases c2 : i < μ (o + 1) r.toNat
    · rw [if_pos c2, if_pos ⟨by omega, c2⟩]
    · rw [if_neg c2, if_neg (fun h => c2 h.2)]
theorem S_idx (hc : zSC o cap k) (h1 : 0 ≤ r) (h2 : r < k) (h3 : 0 ≤ i) (h4 : i < cap) : z32 (z32 (r * (cap : Int)) + i) = (cap : Int) * r + i ∧ 0 ≤ (cap : Int) * r + i ∧ (cap : Int) * r + i < 240 := by
  obtain ⟨e, ⟨rfl, rfl⟩ | ⟨rfl, rfl⟩⟩ := hc
  · rw [z32_id (z := r * ((40 : Nat) : Int)) (by omega) (by omega), z32_id (by omega) (by omega)]; omega
  · rw [z32_id (z := r * ((60 : Nat) : Int)) (by omega) (by omega), z32_id (by omega) (by omega)]; omega
theorem S_get (hc : zSC o cap k) (hs : zSS μ o cap k fill) (h1 : 0 ≤ r) (h2 : r < k) (h3 : 0 ≤ i) (h4 : i < μ (o + 1) r.toNat) : f_S_get o r i μ = some (μ (o + 2) ((cap : Int) * r + i).toNat) := by
  have hr := hs.2.2 r.toNat (by omega)
  obtain ⟨e1, e2, e3⟩ := S_idx hc h1 h2 h3 (i := i) (by omega)
  unfold f_S_get
  rw [S_has hc h1 h2, z_some_bind, z_if1 ⟨h3, h4⟩, hs.1, e1, if_pos ⟨e2, e3⟩]
theorem S_set (hc : zSC o cap k) (hs : zSS μ o cap k fill) (h1 : 0 ≤ r) (h2 : r < k) (h3 : 0 ≤ i) (h4 : i < μ (o + 1) r.toNat) : f_S_set o r i v μ = some (zst μ (o + 2) ((cap : Int) * r + i).toNat v) := by
  have hr := hs.2.2 r.toNat (by omega)
  obtain ⟨e1, e2, e3⟩ := S_idx hc h1 h2 h3 (i := i) (by omega)
  unfold f_S_set
  rw [S_has hc h1 h2, z_some_bind, z_if1 ⟨h3, h4⟩, hs.1, e1, if_pos ⟨e2, e3⟩]
theorem S_hasSpan (hc : zSC o cap k) (hs : zSS μ o cap k fill) (h1 : 0 ≤ r) (h2 : r < k) (hi : zrI i) : f_S_hasSpan o r i n μ = some (if 0 ≤ i ∧ 0 ≤ n ∧ i + n ≤ μ (o + 1) r.toNat then 1 else 0) := by
  have hr := hs.2.2 r.toNat (by omega)
  have hcap : cap ≤ 60 := by rcases hc.2 with h | h <;> omega
  unfold f_S_hasSpan
  rw [S_sizeOf hc h1 h2, z_some_bind]
  by_cases c1 : i < 0
  · rw [if_pos c1, if_neg (by omega)]
  · rw [if_neg c1]
    by_cases c2 : n < 0
    · rw [if_pos c2, if_neg (by omega)]
    · rw [if_neg c2]
      by_cases c3 : μ (o + 1) r.toNat < i
      · rw [if_pos c3, if_neg (by omega)]
      · rw [if_neg c3, z32_id (by omega) (by omega)]
        by_cases c4 : μ (o + 1) r.toNat - i < n
        · rw [if_pos c4, if_neg (by omega)]
        · rw [if_neg c4, if_pos (by omega)]
theorem S_make (hc : zSC o cap k) (hs : zSS μ o cap k fill) (h1 : 0 ≤ r) (h2 : r < k) (h3 : 0 ≤ n) (h4 : n ≤ cap) : ∃ ν, f_S_make o r n μ = some ν ∧ (∀ p, p ≠ o + 1 → p ≠ o + 2 → ν p = μ p) ∧ ν (o + 1) = zst μ (o + 1) r.toNat n (o + 1) ∧ ∀ q : Nat, ν (o + 2) q = if (cap : Int) * r ≤ q ∧ (q : Int) < (cap : Int) * r + n then fill else μ (o + 2) q := by
  have hcap : cap ≤ 60 ∧ k ≤ 6 := by rcases hc.2 with h | h <;> omega
  refine zQ_go (zQ_for (fun m q => ∃ ν, q = ((m : Int), ν) ∧ (∀ p, p ≠ o + 1 → p ≠ o + 2 → ν p = μ p) ∧ ν (o + 1) = zst μ (o + 1) r.toNat n (o + 1) ∧ ∀ q : Nat, ν (o + 2) q = if (cap : Int) * r ≤ q ∧ (q : Int) < (cap : Int) * r + m then fill else μ (o + 2) q) n.toNat (s0 := (0, zst μ (o + 1) r.toNat n)) ?_ ?_ ?_ ?_)
  · unfold e_S_make
    rw [S_knows hc, z_if1 ⟨h1, h2⟩, if_neg (by omega), hs.1, if_neg (by omega), hc.1, if_pos ⟨h1, h2⟩]
  · refine ⟨_, rfl, fun p a b => zst_p a, rfl, fun q => ?_⟩
    rw [if_neg (by omega), zst_p (by omega)]
  · rintro m _ hm ⟨ν, rfl, w1, w2, w3⟩
    have hs2 : zSS ν o cap k fill := by
      refine ⟨by rw [w1 o (by omega) (by omega)]; exact hs.1, by rw [w1 o (by omega) (by omega)]; exact hs.2.1, fun q hq => ?_⟩
      rw [w2]
      by_cases c : q = r.toNat
      · subst c; rw [zst_at]; omega
      · rw [zst_o (Or.inr c)]; exact hs.2.2 q hq
    obtain ⟨e1, e2, e3⟩ := S_idx hc h1 h2 (i := (m : Int)) (by omega) (by omega)
    show ∃ t, b_S_make_30 o r n (m : Int) ν = some (.inl t) ∧ _
    unfold b_S_make_30
    rw [if_pos (by omega), S_set hc hs2 h1 h2 (by omega) (by rw [w2, zst_at]; omega), z_some_bind, hs2.2.1, z32_id (by omega) (by omega)]
    refine ⟨_, rfl, _, rfl, fun p a b => by rw [zst_p b]; exact w1 p a b, by rw [zst_p (by omega)]; exact w2, fun q => ?_⟩
    by_cases c : q = ((cap : Int) * r + m).toNat
    · subst c; rw [zst_at, if_pos (by omega)]
    · rw [zst_o (Or.inr c), w3]
      by_cases c2 : (cap : Int) * r ≤ q ∧ (q : Int) < (cap : Int) * r + m
      · rw [if_pos c2, if_pos (by omega)]
      · rw [if_neg c2, if_neg (by omega)]
  · rintro _ ⟨ν, rfl, w1, w2, w3⟩
    show zQ _ (b_S_make_30 o r n (n.toNat : Int) ν) _
    unfold b_S_make_30
    rw [if_neg (by omega)]
    refine zQ_ret ⟨w1, w2, fun q => ?_⟩
    rw [w3, show (n.toNat : Int) = n by omega]
theorem S_drop (hc : zSC o cap k) (h1 : 0 ≤ r) (h2 : r < k) : f_S_drop o r μ = some (zst μ (o + 1) r.toNat (-1)) := by
  unfold f_S_drop
  rw [S_knows hc, z_if1 ⟨h1, h2⟩, hc.1, if_pos ⟨h1, h2⟩]
theorem S_sumOf (hc : zSC o cap k) (hs : zSS μ o cap k fill) (h1 : 0 ≤ r) (h2 : r < k) : f_S_sumOf o r μ = some ((List.range (μ (o + 1) r.toNat).toNat).foldl (fun a (i : Nat) => z64 (a + μ (o + 2) ((cap : Int) * r + i).toNat)) 0) := by
  have hr := hs.2.2 r.toNat (by omega)
  have hcap : cap ≤ 60 := by rcases hc.2 with h | h <;> omega
  refine zE_go (zE_for (fun m => ((List.range m).foldl (fun a (i : Nat) => z64 (a + μ (o + 2) ((cap : Int) * r + i).toNat)) 0, (m : Int))) (μ (o + 1) r.toNat).toNat rfl (fun m hm => ?_) ?_)
  · show b_S_sumOf_5 o r _ (m : Int) μ = _
    unfold b_S_sumOf_5
    rw [S_sizeOf hc h1 h2, z_some_bind, if_pos (by omega), S_get hc hs h1 h2 (by omega) (by omega), z_some_bind, z32_id (by omega) (by omega), List.range_succ, List.foldl_append]
    rfl
  · show zE _ (b_S_sumOf_5 o r _ ((μ (o + 1) r.toNat).toNat : Int) μ) _
    unfold b_S_sumOf_5
    rw [S_sizeOf hc h1 h2, z_some_bind, if_neg (by omega)]
    exact zE_ret
end SS1
