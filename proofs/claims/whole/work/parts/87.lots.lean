/-! lots: each side builds by itself, on the same pure rock with its deeds -/
def upD (D : Nat → zT) (d : Int) (T : zT) : Nat → zT := fun i => if (i : Int) = d then T else D i
def dH (T : zT) (D : Nat → zT) (d : Int) : Prop := 0 ≤ d ∧ d ≤ 40 ∧ VT T ∧ ∀ i : Nat, (i : Int) < d → VT (D i) ∧ (D i).length = T.length
def xH (μ : zM) (T : zT) (D : Nat → zT) (d : Int) : Prop := μ 7 2 = d ∧ IsR μ 8 T ∧ ∀ i : Nat, (i : Int) < d → IsA (μ 11) i (D i)
def mH (μ : zM) (T : zT) (D : Nat → zT) (d : Int) : Prop := μ 42 1 = d ∧ IsV (μ 43) T ∧ ∀ i : Nat, (i : Int) < d → IsV (fun k => μ 43 (66 * (i + 1) + k)) (D i)
def zMf (μ κ : zM) : Prop := (∀ p, p ≠ 42 → p ≠ 43 → κ p = μ p) ∧ (∀ k, k ≠ 1 → κ 42 k = μ 42 k) ∧ ∀ c, 2706 ≤ c → κ 43 c = μ 43 c
theorem zMf_rf {μ : zM} : zMf μ μ := ⟨fun _ _ _ => rfl, fun _ _ => rfl, fun _ _ => rfl⟩
theorem zMf_tr {μ ν κ : zM} (h : zMf μ ν) (g : zMf ν κ) : zMf μ κ := ⟨fun p a b => by rw [g.1 p a b, h.1 p a b], fun k a => by rw [g.2.1 k a, h.2.1 k a], fun c a => by rw [g.2.2 c a, h.2.2 c a]⟩
section LO
variable {μ : zM} {T : zT} {D : Nat → zT} {d t k b n v : Int}
theorem zR4_half (h : zR4 μ) : ∃ T D, dH T D (μ 42 1) ∧ xH μ T D (μ 42 1) ∧ mH μ T D (μ 42 1) := by
  obtain ⟨a1, a2, a3, T, hV, hR, hW, hD⟩ := h
  refine ⟨T, fun i => if g : (i : Int) < μ 42 1 then (hD i g).choose else [], ⟨a2, a3, hV, fun i hi => ?_⟩, ⟨a1, hR, fun i hi => ?_⟩, ⟨rfl, hW, fun i hi => ?_⟩⟩
  · have := (hD i hi).choose_spec
    dsimp only
    rw [dif_pos hi]; exact ⟨this.1, this.2.1⟩
  · have := (hD i hi).choose_spec
    dsimp only
    rw [dif_pos hi]; exact this.2.2.1
  · have := (hD i hi).choose_spec
    dsimp only
    rw [dif_pos hi]; exact this.2.2.2
theorem zR4_whole (h1 : dH T D d) (h2 : xH μ T D d) (h3 : mH μ T D d) : zR4 μ := by
  obtain ⟨a1, a2, a3, a4⟩ := h1
  obtain ⟨b1, b2, b3⟩ := h2
  obtain ⟨c1, c2, c3⟩ := h3
  unfold zR4 zRY
  rw [c1]
  exact ⟨b1, a1, a2, T, a3, b2, c2, fun i hi => ⟨D i, (a4 i hi).1, (a4 i hi).2, b3 i hi, c3 i hi⟩⟩
theorem dH_add (h : dH T D d) (h0 : d < 40) (h1 : 0 ≤ t) (h2 : t < nT T) (c : hT T t < 6 ∧ tot T < 12) (hk : 0 ≤ k ∧ k < 6) (hb : 0 ≤ b ∧ b < 10) : dH (addT T t k b) (upD D d T) (d + 1) := by
  obtain ⟨a1, a2, a3, a4⟩ := h
  have hl : (addT T t k b).length = T.length := by have := addT_n (T := T) (t := t) (k := k) (b := b); unfold nT at this; omega
  refine ⟨by omega, by omega, addT_V a3 h1 h2 c.1 c.2 hk hb, fun i hi => ?_⟩
  unfold upD
  by_cases e : (i : Int) = d
  · rw [if_pos e]; exact ⟨a3, hl.symm⟩
  · rw [if_neg e, hl]; exact a4 i (by omega)
theorem X_build1 (h : dH T D d) (hx : xH μ T D d) (h0 : d < 40) (h1 : 0 ≤ t) (h2 : t < nT T) (c : hT T t < 6 ∧ tot T < 12) (hk : 0 ≤ k ∧ k < 6) (hb : 0 ≤ b ∧ b < 10) : ∃ ν, f_X_build t k b μ = some (hT T t, ν) ∧ xH ν (addT T t k b) (upD D d T) (d + 1) ∧ zOut μ ν 7 11 := by
  obtain ⟨a1, a2, hV, a4⟩ := h
  obtain ⟨b1, hR, b3⟩ := hx
  have hn := nT_le hV
  have hh := hT_nn T t
  have p8 : ∀ p, p ≠ 7 → p ≠ 11 → zst (zcp μ 10 0 11 (30 * d).toNat 30) 7 2 (d + 1) p = μ p := fun p hp hq => by
    rw [zst_p hp]; funext q; unfold zcp; rw [if_neg (fun z => hq z.1)]
  have p11 : zst (zcp μ 10 0 11 (30 * d).toNat 30) 7 2 (d + 1) 11 = zcp μ 10 0 11 (30 * d).toNat 30 11 := zst_p (by omega)
  have p7 : zst (zcp μ 10 0 11 (30 * d).toNat 30) 7 2 (d + 1) 7 2 = d + 1 := zst_at
  have e0 := Y_noteDeed b1 a1 h0
  generalize zst (zcp μ 10 0 11 (30 * d).toNat 30) 7 2 (d + 1) = μ1 at p8 p11 p7 e0
  have hR1 : IsR μ1 8 T := by
    rw [← IsRf_R, p8 8 (by omega) (by omega), p8 9 (by omega) (by omega), p8 10 (by omega) (by omega)]; exact hR
  obtain ⟨μ2, e1, e2, e3⟩ := R_push hR1 hV h1 h2 c.1 c.2 hk hb
  have hV' := addT_V hV h1 h2 c.1 c.2 hk hb
  refine ⟨μ2, ?_, ⟨by rw [e3 7 (by omega)]; exact p7, e2, fun i hi => ?_⟩, fun o ho => by rw [e3 o (by omega), p8 o (by omega) (by omega)]⟩
  · unfold f_X_build
    rw [R_isTower hR, X_isKind, X_isBorne, z_if1 ⟨h1, h2⟩, z_if1 hk, z_if1 hb, R_hasRoom hR hV, z_some_bind, Y_room b1 a1 a2, z_if1 ⟨⟨h1, h2⟩, c⟩, z_ifn0 (by omega), e0, z_some_bind, e1, z_some_bind, R_heightOf e2 hV', z_some_bind, addT_h h1 h2, if_pos rfl, z32_id (by have := hT_le hV t; omega) (by have := hT_le hV t; omega), show hT T t + 1 - 1 = hT T t by omega]
  · rw [e3 11 (by omega), p11]
    unfold upD
    by_cases e : (i : Int) = d
    · rw [if_pos e]
      refine IsA_of hR (fun q hq => ?_)
      unfold zcp
      rw [if_pos (by omega)]; congr 1; omega
    · rw [if_neg e]
      refine IsA_congr (b3 i (by omega)) (fun q hq => ?_)
      unfold zcp
      rw [if_neg (by omega)]
theorem X_build0 (h : dH T D d) (hx : xH μ T D d) (h1 : 0 ≤ t) (h2 : t < nT T) (c : ¬ (hT T t < 6 ∧ tot T < 12)) (hk : 0 ≤ k ∧ k < 6) (hb : 0 ≤ b ∧ b < 10) : f_X_build t k b μ = some (-2, μ) := by
  unfold f_X_build
  rw [R_isTower hx.2.1, X_isKind, X_isBorne, z_if1 ⟨h1, h2⟩, z_if1 hk, z_if1 hb, R_hasRoom hx.2.1 h.2.2.1, z_some_bind, z_if0 (fun z => c z.2)]
theorem M_build1 (h : dH T D d) (hm : mH μ T D d) (h0 : d < 40) (h1 : 0 ≤ t) (h2 : t < nT T) (c : hT T t < 6 ∧ tot T < 12) (hk : 0 ≤ k ∧ k < 6) (hb : 0 ≤ b ∧ b < 10) : ∃ ν κ, f_M_minds μ = some ν ∧ f_M_adds 0 t k b ν = some κ ∧ mH κ (addT T t k b) (upD D d T) (d + 1) ∧ zMf μ κ := by
  obtain ⟨a1, a2, hV, a4⟩ := h
  obtain ⟨b1, hW, b3⟩ := hm
  have hn := nT_le hV
  obtain ⟨ν, f1, f2, f3, f4, f5⟩ := M_minds (μ := μ) (d := d) b1 a1 h0
  have hW3 : IsV (zAt ν 0) T := IsV_congr hV (fun c hc => by unfold zAt; rw [f5, if_neg (by omega), Nat.zero_add]) hW
  obtain ⟨κ, g1, g2, g3, g4⟩ := M_adds (b := 0) (by omega) hW3 hV h1 h2 c.1 hk.1 hb.1
  have k43 : ∀ c : Nat, 66 ≤ c → κ 43 c = if 66 * (d + 1) ≤ c ∧ (c : Int) < 66 * (d + 1) + 66 then μ 43 (c - 66 * (d + 1)).toNat else μ 43 c := fun c hc => by
    rw [g3.2 c (by omega), f5]
  refine ⟨ν, κ, f1, g1, ⟨by rw [g3.1 42 (by omega), f4], by rw [zAt_0] at g2; exact g2, fun i hi => ?_⟩, fun p hp hq => by rw [g3.1 p hq, f2 p hq hp], fun q hq => by rw [g3.1 42 (by omega), f3 q hq], fun c hc => by rw [k43 c (by omega), if_neg (by omega)]⟩
  unfold upD
  by_cases e : (i : Int) = d
  · rw [if_pos e]
    refine IsV_congr hV (fun q hq => ?_) hW
    show κ 43 (66 * (i + 1) + q) = μ 43 q
    rw [k43 _ (by omega), if_pos (by omega)]; congr 1; omega
  · rw [if_neg e]
    refine IsV_congr (a4 i (by omega)).1 (fun q hq => ?_) (b3 i (by omega))
    show κ 43 (66 * (i + 1) + q) = μ 43 (66 * (i + 1) + q)
    rw [k43 _ (by omega), if_neg (by omega)]
/-- the lots -/
def loN (v : Int) : Nat → Int
  | 0 => v
  | i + 1 => zlrem (z64 (loN v i * 48271)) 2147483647
theorem loN_in (h : 1 ≤ v ∧ v < 2147483647) : ∀ i, 0 ≤ loN v i ∧ loN v i < 2147483647
  | 0 => ⟨by show 0 ≤ v; omega, h.2⟩
  | i + 1 => by
    have ih := loN_in h i
    show 0 ≤ zlrem (z64 (loN v i * 48271)) 2147483647 ∧ zlrem (z64 (loN v i * 48271)) 2147483647 < 2147483647
    rw [z64_id (by omega) (by omega), zlrem_n (by omega) (by omega) (by omega) (by omega)]
    omega
def ltT (N v : Int) (i : Nat) : Int := z32 (zlrem (loN v (i + 1)) N)
def ltK (v : Int) (i : Nat) : Int := z32 (zlrem (zldiv (loN v (i + 1)) 8) 6)
def ltB (v : Int) (i : Nat) : Int := z32 (zlrem (zldiv (loN v (i + 1)) 64) 10)
theorem lt_in {N : Int} (h : 1 ≤ v ∧ v < 2147483647) (hN : 0 < N ∧ N ≤ 5) (i : Nat) : (0 ≤ ltT N v i ∧ ltT N v i < N) ∧ (0 ≤ ltK v i ∧ ltK v i < 6) ∧ 0 ≤ ltB v i ∧ ltB v i < 10 := by
  have hl := loN_in h (i + 1)
  unfold ltT ltK ltB
  have e1 := Int.emod_nonneg (loN v (i + 1)) (show N ≠ 0 by omega)
  have e2 := Int.emod_lt_of_pos (loN v (i + 1)) hN.1
  rw [zlrem_n hl.1 (by omega) (by omega) (by omega), zldiv_n hl.1 (by omega) (by omega) (by omega), zldiv_n hl.1 (by omega) (by omega) (by omega), zlrem_n (by omega) (by omega) (by omega) (by omega), zlrem_n (by omega) (by omega) (by omega) (by omega), z32_id (by omega) (by omega), z32_id (by omega) (by omega), z32_id (by omega) (by omega)]
  omega
def loT (T : zT) (D : Nat → zT) (d v : Int) : Nat → zT × (Nat → zT) × Int
  | 0 => (T, D, d)
  | i + 1 => if hT (loT T D d v i).1 (ltT (nT T) v i) < 6 ∧ tot (loT T D d v i).1 < 12 then (addT (loT T D d v i).1 (ltT (nT T) v i) (ltK v i) (ltB v i), upD (loT T D d v i).2.1 (loT T D d v i).2.2 (loT T D d v i).1, (loT T D d v i).2.2 + 1) else loT T D d v i
theorem loT_s (T : zT) (D : Nat → zT) (d v : Int) (i : Nat) : loT T D d v (i + 1) = if hT (loT T D d v i).1 (ltT (nT T) v i) < 6 ∧ tot (loT T D d v i).1 < 12 then (addT (loT T D d v i).1 (ltT (nT T) v i) (ltK v i) (ltB v i), upD (loT T D d v i).2.1 (loT T D d v i).2.2 (loT T D d v i).1, (loT T D d v i).2.2 + 1) else loT T D d v i := rfl
theorem loT_in (hv : 1 ≤ v ∧ v < 2147483647) (h : dH T D d) (h0 : nT T ≠ 0) : ∀ i : Nat, d + i ≤ 40 → dH (loT T D d v i).1 (loT T D d v i).2.1 (loT T D d v i).2.2 ∧ nT (loT T D d v i).1 = nT T ∧ d ≤ (loT T D d v i).2.2 ∧ (loT T D d v i).2.2 ≤ d + i
  | 0, _ => ⟨h, rfl, Int.le_refl _, by show d ≤ d + ((0 : Nat) : Int); omega⟩
  | i + 1, hi => by
    obtain ⟨a1, a2, a3, a4⟩ := loT_in hv h h0 i (by omega)
    have hn := nT_le h.2.2.1
    have hn0 := nT_nn T
    obtain ⟨l1, l2, l3⟩ := lt_in hv (N := nT T) (by omega) i
    rw [loT_s]
    by_cases c : hT (loT T D d v i).1 (ltT (nT T) v i) < 6 ∧ tot (loT T D d v i).1 < 12
    · rw [if_pos c]
      refine ⟨dH_add a1 (by omega) l1.1 (by omega) c l2 l3, ?_, ?_, ?_⟩
      · show nT (addT _ _ _ _) = _
        rw [addT_n, a2]
      · show d ≤ (loT T D d v i).2.2 + 1; omega
      · show (loT T D d v i).2.2 + 1 ≤ _; omega
    · rw [if_neg c]; exact ⟨a1, a2, a3, by omega⟩
theorem X_lotS {U : zT} {E : Nat → zT} {e N l l' c i : Int} {ν : zM} (h : dH U E e) (hx : xH ν U E e) (h0 : e < 40) (hi : i < n) (hi0 : 0 ≤ i) (hn : n ≤ 12) (hN0 : N ≠ 0) (hN : N = nT U) (hc : 0 ≤ c ∧ c ≤ 40) (hl : zlrem (z64 (l * 48271)) 2147483647 = l') (ht : z32 (zlrem l' N) = t) (hk' : z32 (zlrem (zldiv l' 8) 6) = k) (hb' : z32 (zlrem (zldiv l' 64) 10) = b) (h1 : 0 ≤ t) (h2 : t < N) (hk : 0 ≤ k ∧ k < 6) (hb : 0 ≤ b ∧ b < 10) : (hT U t < 6 ∧ tot U < 12 → ∃ κ, b_X_lots_67 n v N c l i ν = some (.inl (N, c + 1, l', i + 1, κ)) ∧ xH κ (addT U t k b) (upD E e U) (e + 1) ∧ zOut ν κ 7 11) ∧ (¬ (hT U t < 6 ∧ tot U < 12) → b_X_lots_67 n v N c l i ν = some (.inl (N, c, l', i + 1, ν))) := by
  have hh := hT_nn U t
  constructor
  · intro g
    obtain ⟨κ, e1, e2, e3⟩ := X_build1 (t := t) (k := k) (b := b) h hx h0 h1 (by omega) g hk hb
    refine ⟨κ, ?_, e2, e3⟩
    unfold b_X_lots_67
    rw [if_pos hi, if_pos hN0, hl, ht, hk', hb', e1, z_some_bind, if_neg (by show ¬ hT U t < 0; omega), z32_id (z := i + 1) (by omega) (by omega), z32_id (z := c + 1) (by omega) (by omega)]
  · intro g
    unfold b_X_lots_67
    rw [if_pos hi, if_pos hN0, hl, ht, hk', hb', X_build0 h hx h1 (by omega) g hk hb, z_some_bind, if_pos (by show (-2 : Int) < 0; omega), z32_id (z := i + 1) (by omega) (by omega)]
theorem M_lotS {U : zT} {E : Nat → zT} {e N l l' c i : Int} {ν : zM} (h : dH U E e) (hm : mH ν U E e) (h0 : e < 40) (hi : i < n) (hi0 : 0 ≤ i) (hn : n ≤ 12) (hN0 : N ≠ 0) (hN : N = nT U) (hc : 0 ≤ c ∧ c ≤ 40) (hl : zlrem (z64 (l * 48271)) 2147483647 = l') (ht : z32 (zlrem l' N) = t) (hk' : z32 (zlrem (zldiv l' 8) 6) = k) (hb' : z32 (zlrem (zldiv l' 64) 10) = b) (h1 : 0 ≤ t) (h2 : t < N) (hk : 0 ≤ k ∧ k < 6) (hb : 0 ≤ b ∧ b < 10) : (hT U t < 6 ∧ tot U < 12 → ∃ κ, b_M_lots_59 n v l c i ν = some (.inl (l', c + 1, i + 1, κ)) ∧ mH κ (addT U t k b) (upD E e U) (e + 1) ∧ zMf ν κ) ∧ (¬ (hT U t < 6 ∧ tot U < 12) → b_M_lots_59 n v l c i ν = some (.inl (l', c, i + 1, ν))) := by
  have e43 : ν 43 0 = N := by rw [hm.2.1.1, hN]
  constructor
  · intro g
    obtain ⟨ι, κ, e1, e2, e3, e4⟩ := M_build1 (t := t) (k := k) (b := b) h hm h0 h1 (by omega) g hk hb
    refine ⟨κ, ?_, e3, e4⟩
    unfold b_M_lots_59
    rw [if_pos hi, e43, if_pos hN0, hl, ht, hk', hb', M_hasRoom hm.2.1 h.2.2.1 h1 (by omega), z_some_bind, z_if1 g, e1, z_some_bind, e2, z_some_bind, z32_id (z := i + 1) (by omega) (by omega), z32_id (z := c + 1) (by omega) (by omega)]
  · intro g
    unfold b_M_lots_59
    rw [if_pos hi, e43, if_pos hN0, hl, ht, hk', hb', M_hasRoom hm.2.1 h.2.2.1 h1 (by omega), z_some_bind, z_if0 g, z32_id (z := i + 1) (by omega) (by omega)]
theorem loN_s (i : Nat) : zlrem (z64 (loN v i * 48271)) 2147483647 = loN v (i + 1) := rfl
theorem loT_y {i : Nat} (c : hT (loT T D d v i).1 (ltT (nT T) v i) < 6 ∧ tot (loT T D d v i).1 < 12) : loT T D d v (i + 1) = (addT (loT T D d v i).1 (ltT (nT T) v i) (ltK v i) (ltB v i), upD (loT T D d v i).2.1 (loT T D d v i).2.2 (loT T D d v i).1, (loT T D d v i).2.2 + 1) := by rw [loT_s, if_pos c]
theorem loT_n {i : Nat} (c : ¬ (hT (loT T D d v i).1 (ltT (nT T) v i) < 6 ∧ tot (loT T D d v i).1 < 12)) : loT T D d v (i + 1) = loT T D d v i := by rw [loT_s, if_neg c]
theorem X_lotsI (h : dH T D d) (hx : xH μ T D d) (hn : 1 ≤ n ∧ n ≤ 12) (hv : 1 ≤ v ∧ v < 2147483647) (h0 : nT T ≠ 0) (hd : d + n ≤ 40) : ∃ ν, f_X_lots n v μ = some ((loT T D d v n.toNat).2.2 - d, ν) ∧ xH ν (loT T D d v n.toNat).1 (loT T D d v n.toNat).2.1 (loT T D d v n.toNat).2.2 ∧ zOut μ ν 7 11 := by
  have hn0 := nT_nn T
  have hn5 := nT_le h.2.2.1
  suffices hq : zQ (t_X_lots n v) (e_X_lots n v μ) (fun q => ∃ ν, q = ((loT T D d v n.toNat).2.2 - d, ν) ∧ xH ν (loT T D d v n.toNat).1 (loT T D d v n.toNat).2.1 (loT T D d v n.toNat).2.2 ∧ zOut μ ν 7 11) by
    obtain ⟨q, g1, ν, g2, g3, g4⟩ := zQ_go hq
    exact ⟨ν, by rw [← g2]; exact g1, g3, g4⟩
  refine zQ_for (fun i q => ∃ ν, q = (nT T, (loT T D d v i).2.2 - d, loN v i, (i : Int), ν) ∧ xH ν (loT T D d v i).1 (loT T D d v i).2.1 (loT T D d v i).2.2 ∧ zOut μ ν 7 11) n.toNat (s0 := (nT T, 0, v, 0, μ)) ?_ ⟨μ, by show _ = (nT T, d - d, v, ((0 : Nat) : Int), μ); rw [Int.sub_self]; rfl, hx, zOut_rf⟩ ?_ ?_
  · unfold e_X_lots f_R_towerCount f_Y_hasRoomFor
    rw [if_neg (by omega), if_neg (by omega), if_neg (by omega), if_pos hv.2, hx.2.1.1, if_neg h0, hx.1, z32_id (by have := h.1; omega) (by omega), z_ifn0 (by omega)]
  · rintro i _ hi ⟨ν, rfl, q1, q2⟩
    obtain ⟨a1, a2, a3, a4⟩ := loT_in hv h h0 i (by omega)
    obtain ⟨l1, l2, l3⟩ := lt_in hv (N := nT T) (by omega) i
    obtain ⟨s1, s2⟩ := X_lotS (n := n) (v := v) (i := (i : Int)) (c := (loT T D d v i).2.2 - d) (N := nT T) a1 q1 (by omega) (by omega) (by omega) hn.2 h0 a2.symm (by have := h.1; have := a1.2.1; omega) (loN_s i) (t := ltT (nT T) v i) (k := ltK v i) (b := ltB v i) rfl rfl rfl l1.1 l1.2 l2 l3
    by_cases c : hT (loT T D d v i).1 (ltT (nT T) v i) < 6 ∧ tot (loT T D d v i).1 < 12
    · obtain ⟨κ, e1, e2, e3⟩ := s1 c
      refine ⟨_, e1, κ, ?_, ?_, zOut_trans q2 e3⟩
      · rw [loT_y c, show (loT T D d v i).2.2 - d + 1 = (loT T D d v i).2.2 + 1 - d by omega, show (i : Int) + 1 = ((i + 1 : Nat) : Int) by omega]
      · rw [loT_y c]; exact e2
    · refine ⟨_, s2 c, ν, ?_, ?_, q2⟩
      · rw [loT_n c, show (i : Int) + 1 = ((i + 1 : Nat) : Int) by omega]
      · rw [loT_n c]; exact q1
  · rintro _ ⟨ν, rfl, q1, q2⟩
    show zQ _ (b_X_lots_67 n v (nT T) ((loT T D d v n.toNat).2.2 - d) (loN v n.toNat) (n.toNat : Int) ν) _
    unfold b_X_lots_67
    rw [if_neg (by omega)]
    exact zQ_ret ⟨ν, rfl, q1, q2⟩
theorem M_lotsI (h : dH T D d) (hm : mH μ T D d) (hn : 1 ≤ n ∧ n ≤ 12) (hv : 1 ≤ v ∧ v < 2147483647) (h0 : nT T ≠ 0) (hd : d + n ≤ 40) : ∃ κ, f_M_lots n v μ = some ((loT T D d v n.toNat).2.2 - d, κ) ∧ mH κ (loT T D d v n.toNat).1 (loT T D d v n.toNat).2.1 (loT T D d v n.toNat).2.2 ∧ zMf μ κ := by
  have hn0 := nT_nn T
  have hn5 := nT_le h.2.2.1
  suffices hq : zQ (t_M_lots n v) (e_M_lots n v μ) (fun q => ∃ ν, q = ((loT T D d v n.toNat).2.2 - d, ν) ∧ mH ν (loT T D d v n.toNat).1 (loT T D d v n.toNat).2.1 (loT T D d v n.toNat).2.2 ∧ zMf μ ν) by
    obtain ⟨q, g1, ν, g2, g3, g4⟩ := zQ_go hq
    exact ⟨ν, by rw [← g2]; exact g1, g3, g4⟩
  refine zQ_for (fun i q => ∃ ν, q = (loN v i, (loT T D d v i).2.2 - d, (i : Int), ν) ∧ mH ν (loT T D d v i).1 (loT T D d v i).2.1 (loT T D d v i).2.2 ∧ zMf μ ν) n.toNat (s0 := (v, 0, 0, μ)) ?_ ⟨μ, by show _ = (v, d - d, ((0 : Nat) : Int), μ); rw [Int.sub_self]; rfl, hm, zMf_rf⟩ ?_ ?_
  · unfold e_M_lots f_M_isNone
    rw [M_in, z_if1 hn, M_in, z_if1 (by omega), hm.2.1.1, z_if0 h0, hm.1, z32_id (by have := h.1; omega) (by omega), if_neg (by omega)]
  · rintro i _ hi ⟨ν, rfl, q1, q2⟩
    obtain ⟨a1, a2, a3, a4⟩ := loT_in hv h h0 i (by omega)
    obtain ⟨l1, l2, l3⟩ := lt_in hv (N := nT T) (by omega) i
    obtain ⟨s1, s2⟩ := M_lotS (n := n) (v := v) (i := (i : Int)) (c := (loT T D d v i).2.2 - d) (N := nT T) a1 q1 (by omega) (by omega) (by omega) hn.2 h0 a2.symm (by have := h.1; have := a1.2.1; omega) (loN_s i) (t := ltT (nT T) v i) (k := ltK v i) (b := ltB v i) rfl rfl rfl l1.1 l1.2 l2 l3
    by_cases c : hT (loT T D d v i).1 (ltT (nT T) v i) < 6 ∧ tot (loT T D d v i).1 < 12
    · obtain ⟨κ, e1, e2, e3⟩ := s1 c
      refine ⟨_, e1, κ, ?_, ?_, zMf_tr q2 e3⟩
      · rw [loT_y c, show (loT T D d v i).2.2 - d + 1 = (loT T D d v i).2.2 + 1 - d by omega, show (i : Int) + 1 = ((i + 1 : Nat) : Int) by omega]
      · rw [loT_y c]; exact e2
    · refine ⟨_, s2 c, ν, ?_, ?_, q2⟩
      · rw [loT_n c, show (i : Int) + 1 = ((i + 1 : Nat) : Int) by omega]
      · rw [loT_n c]; exact q1
  · rintro _ ⟨ν, rfl, q1, q2⟩
    show zQ _ (b_M_lots_59 n v (loN v n.toNat) ((loT T D d v n.toNat).2.2 - d) (n.toNat : Int) ν) _
    unfold b_M_lots_59
    rw [if_neg (by omega)]
    exact zQ_ret ⟨ν, rfl, q1, q2⟩
theorem A_lots (h : Rel μ) : zAg (f_X_lots n v μ) (f_M_lots n v) := by
  obtain ⟨T, D, hd, hx, hm⟩ := zR4_half h.2.2.2.1
  have hR := hx.2.1
  have hW := hm.2.1
  have hd0 := hd.1
  have hd1 := hd.2.1
  by_cases c1 : 1 ≤ n ∧ n ≤ 12
  · by_cases c2 : 1 ≤ v ∧ v < 2147483647
    · by_cases c3 : nT T = 0
      · have e : f_X_lots n v μ = some (-4, μ) := zE_go (by unfold e_X_lots f_R_towerCount; rw [if_neg (by omega), if_neg (by omega), if_neg (by omega), if_pos c2.2, hR.1, if_pos c3]; exact zE_ret)
        rw [e]
        refine zAg_same h (zE_go ?_)
        unfold e_M_lots f_M_isNone
        rw [M_in, z_if1 c1, M_in, z_if1 (by omega), hW.1, z_if1 c3]
        exact zE_ret
      · by_cases c4 : μ 42 1 + n ≤ 40
        · obtain ⟨ν, e1, e2, e3⟩ := X_lotsI hd hx c1 c2 c3 c4
          have hm' : mH ν T D (μ 42 1) := by
            obtain ⟨b1, b2, b3⟩ := hm
            refine ⟨by rw [e3 42 (by omega)], by rw [e3 43 (by omega)]; exact b2, fun i hi => by rw [e3 43 (by omega)]; exact b3 i hi⟩
          obtain ⟨κ, g1, g2, g3⟩ := M_lotsI hd hm' c1 c2 c3 c4
          have hx' : xH κ (loT T D (μ 42 1) v n.toNat).1 (loT T D (μ 42 1) v n.toNat).2.1 (loT T D (μ 42 1) v n.toNat).2.2 := by
            obtain ⟨b1, b2, b3⟩ := e2
            refine ⟨by rw [g3.1 7 (by omega) (by omega)]; exact b1, ?_, fun i hi => by rw [g3.1 11 (by omega) (by omega)]; exact b3 i hi⟩
            rw [← IsRf_R, g3.1 8 (by omega) (by omega), g3.1 9 (by omega) (by omega), g3.1 10 (by omega) (by omega)]; exact b2
          refine ⟨_, ν, e1, κ, g1, Rel_now h ⟨fun o ho => by rw [g3.1 o (by omega) (by omega), e3 o (by omega)], fun q hq => by rw [g3.2.1 q hq, e3 42 (by omega)], fun c hc hc2 => by rw [g3.2.2 c hc, e3 43 (by omega)]⟩ (zR4_whole (loT_in c2 hd c3 n.toNat (by omega)).1 hx' g2)⟩
        · have e : f_X_lots n v μ = some (-2, μ) := zE_go (by
            unfold e_X_lots f_R_towerCount f_Y_hasRoomFor
            rw [if_neg (by omega), if_neg (by omega), if_neg (by omega), if_pos c2.2, hR.1, if_neg c3, hx.1, z32_id (by omega) (by omega), z_ifn1 (by omega)]
            exact zE_ret)
          rw [e]
          refine zAg_same h (zE_go ?_)
          unfold e_M_lots f_M_isNone
          rw [M_in, z_if1 c1, M_in, z_if1 (by omega), hW.1, z_if0 c3, z32_id (by omega) (by omega), if_pos (by omega)]
          exact zE_ret
    · have e : f_X_lots n v μ = some (-1, μ) := zE_go (by
        unfold e_X_lots
        rw [if_neg (by omega), if_neg (by omega)]
        by_cases c : v < 1
        · rw [if_pos c]; exact zE_ret
        · rw [if_neg c, if_neg (by omega)]; exact zE_ret)
      rw [e]
      refine zAg_same h (zE_go ?_)
      unfold e_M_lots
      rw [M_in, z_if1 c1, M_in, z_if0 (by omega)]
      exact zE_ret
  · have e : f_X_lots n v μ = some (-1, μ) := zE_go (by
      unfold e_X_lots
      by_cases c : n < 1
      · rw [if_pos c]; exact zE_ret
      · rw [if_neg c, if_pos (by omega)]; exact zE_ret)
    rw [e]
    refine zAg_same h (zE_go ?_)
    unfold e_M_lots
    rw [M_in, z_if0 c1]
    exact zE_ret
end LO
