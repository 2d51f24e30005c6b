/-! kinds: what a house may have been -/
section KD
variable {μ : zM} {T : zT} {t s k r v w : Int}
theorem zst_zst {o c : Nat} : zst (zst μ o c v) o c w = zst μ o c w := by
  funext p q; unfold zst
  by_cases h : p = o ∧ q = c
  · rw [if_pos h, if_pos h]
  · rw [if_neg h, if_neg h, if_neg h]
theorem zst_self {o c : Nat} (h : μ o c = v) : zst μ o c v = μ := by
  funext p q; unfold zst
  by_cases d : p = o ∧ q = c
  · rw [if_pos d, d.1, d.2, h]
  · rw [if_neg d]
theorem chg_chg {j b b' : Int} (h1 : 0 ≤ t) (h2 : t < nT T) : chgT (chgT T t s j b) t s k b' = chgT T t s k b' := by
  unfold chgT
  rw [getD_set, if_pos ⟨rfl, by unfold nT at h2; omega⟩, List.set_set, List.set_set]
theorem IsV_kind (hW : IsV (μ 43) T) (hV : VT T) (h1 : 0 ≤ s) (h2 : s < hT T t) (hk : 0 ≤ k) : IsV (zst μ 43 (6 + 6 * t + s).toNat k 43) (chgT T t s k (bT T t s)) := by
  have h3 := hT_pos (show 0 < hT T t by omega)
  have hn := nT_le hV
  have hh := hT_le hV t
  have hin := cT_in hV h3.1 h1 h2
  refine ⟨?_, fun x hx hx2 => ?_, fun x y hx hx2 hy hy2 => ?_⟩
  · rw [zst43_o (by omega), chgT_n]; exact hW.1
  · rw [chgT_n] at hx2
    rw [zst43_o (by omega), chgT_h h3.1 h3.2]; exact hW.2.1 x hx hx2
  · rw [chgT_n] at hx2
    rw [chgT_h h3.1 h3.2] at hy2
    have h6 := hT_le hV x
    obtain ⟨d1, d2⟩ := chgT_c (T := T) (k := k) (b := bT T t s) h1 h2 hx hy hk hin.2.2.1
    obtain ⟨w1, w2⟩ := hW.2.2 x y hx hx2 hy hy2
    rw [d1, d2, zst43_o (c := (36 + 6 * x + y).toNat) (by omega), w2]
    by_cases c : x = t ∧ y = s
    · obtain ⟨rfl, rfl⟩ := c
      have n1 : x = x ∧ y = y := ⟨rfl, rfl⟩
      rw [zst_at, if_pos n1, if_pos n1]; exact ⟨rfl, rfl⟩
    · rw [if_neg c, if_neg c, zst43_o (by omega)]; exact ⟨w1, rfl⟩
theorem seT_rows (h : Rel μ) (h1 : 0 ≤ r) (h2 : r < 6) (h3 : μ 2 r.toNat = tot T) : seT T (fun j => μ 45 (40 * r.toNat + j)) w = seT T (fun j => μ 3 (40 * r.toNat + j)) w := by
  have hc : ∀ j : Nat, j < (tot T).toNat → μ 3 (40 * r.toNat + j) = μ 45 (40 * r.toNat + j) := fun j hj => h.2.1.2.2.2 r.toNat j (by omega) (by rw [h3]; omega)
  rw [Bool.eq_iff_iff]
  unfold seT
  rw [zall_iff, zall_iff]
  constructor
  · exact fun g k hk => decide_eq_true ((hc k hk).trans (of_decide_eq_true (g k hk)))
  · exact fun g k hk => decide_eq_true ((hc k hk).symm.trans (of_decide_eq_true (g k hk)))
/-- the rock when the first n kinds are tried -/
def knT (T : zT) (t s : Int) (n : Nat) : zT := if n = 0 then T else chgT T t s ((n : Int) - 1) (bT T t s)
theorem knT_s (T : zT) (t s : Int) (n : Nat) : knT T t s (n + 1) = chgT T t s (n : Int) (bT T t s) := by
  unfold knT
  rw [if_neg (by omega), show ((n + 1 : Nat) : Int) - 1 = n by omega]
theorem knT_chg (h1 : 0 ≤ t) (h2 : t < nT T) (n : Nat) : chgT (knT T t s n) t s k v = chgT T t s k v := by
  unfold knT
  split
  · rfl
  · exact chg_chg h1 h2
theorem knT_in (hV : VT T) (h1 : 0 ≤ s) (h2 : s < hT T t) (n : Nat) (hn : n ≤ 6) : VT (knT T t s n) ∧ hT (knT T t s n) t = hT T t ∧ bT (knT T t s n) t s = bT T t s ∧ tot (knT T t s n) = tot T := by
  have h3 := hT_pos (show 0 < hT T t by omega)
  have hin := cT_in hV h3.1 h1 h2
  unfold knT
  split
  · exact ⟨hV, rfl, rfl, rfl⟩
  · refine ⟨chgT_V hV h3.1 h3.2 ⟨by omega, by omega⟩ ⟨hin.2.2.1, hin.2.2.2⟩, chgT_h h3.1 h3.2, ?_, chgT_t h3.1 h3.2⟩
    have := (chgT_c (T := T) (t := t) (s := s) (x := t) (y := s) (k := (n : Int) - 1) (b := bT T t s) h1 h2 h3.1 h1 (by omega) hin.2.2.1).2
    rw [this, if_pos ⟨rfl, rfl⟩]
def kdT (T : zT) (t s : Int) (f : Nat → Int) (k : Nat) : Bool := seT (chgT T t s k (bT T t s)) f 0
theorem X_kindsI (h : Rel μ) (hR : IsR μ 8 T) (hV : VT T) (hp : (0 ≤ t ∧ t < nT T) ∧ 0 ≤ s) (h1 : 0 ≤ s) (h2 : s < hT T t) (h3 : 0 ≤ r) (h4 : r < ((6 : Nat) : Int)) (h5 : ¬ μ (1 + 1) r.toNat < 0) (h6 : μ (1 + 1) r.toNat = tot T) : ∃ ν, zOut μ ν 13 22 ∧ f_X_kinds t s r μ = some (zset2 6 (kdT T t s (fun j => μ 3 (40 * r.toNat + j))), ν) := by
  have ht := hT_pos (show 0 < hT T t by omega)
  have hin := cT_in hV ht.1 h1 h2
  obtain ⟨ν0, e1, e2, e3⟩ := R_takeFrom (o := 13) (μ := μ) hR hV (by omega)
  suffices hq : zQ (t_X_kinds t s r) (e_X_kinds t s r μ) (fun q => ∃ ν, zOut μ ν 13 22 ∧ q = (zset2 6 (kdT T t s (fun j => μ 3 (40 * r.toNat + j))), ν)) by
    obtain ⟨q, g1, ν, g2, g3⟩ := zQ_go hq
    exact ⟨ν, g2, by rw [← g3]; exact g1⟩
  refine zQ_for (fun k q => ∃ ν, q = (zset2 k (kdT T t s (fun j => μ 3 (40 * r.toNat + j))), (k : Int), ν) ∧ IsR ν 13 (knT T t s k) ∧ zOut μ ν 13 22) 6 (s0 := (0, 0, ν0)) ?_ ⟨ν0, rfl, e2, zOut_le e3 (by omega) (by omega)⟩ ?_ ?_
  · unfold e_X_kinds f_R_houseCount
    rw [X_isNoPlace hR, z_ifn1 hp, S_knows zSC_1, z_if1 ⟨h3, h4⟩, R_hasI hR hV h1 h2, z_some_bind, if_neg (by omega), S_isThere zSC_1 h3 h4, z_some_bind, z_ifn0 h5, S_sizeOf zSC_1 h3 h4, z_some_bind, hR.2.1, if_pos h6, e1]
    rfl
  · rintro k _ hk ⟨ν, rfl, q1, q2⟩
    obtain ⟨k1, k2, k3, k4⟩ := knT_in hV h1 h2 k (by omega)
    have hV' := chgT_V (s := s) (k := (k : Int)) (b := bT T t s) hV ht.1 ht.2 ⟨by omega, by omega⟩ ⟨hin.2.2.1, hin.2.2.2⟩
    obtain ⟨κ, f1, f2, f3⟩ := R_change (t := t) (s := s) (k := (k : Int)) (b := bT T t s) q1 k1 h1 (by rw [k2]; exact h2) ⟨by omega, by omega⟩ ⟨hin.2.2.1, hin.2.2.2⟩
    rw [knT_chg ht.1 ht.2] at f2
    obtain ⟨ι, g1, g2, g3⟩ := L_reckon (μ := κ) hV' (o := 13) (by omega) f2
    have ho : zOut μ ι 13 22 := zOut_trans (zOut_trans q2 (zOut_le f3 (by omega) (by omega))) (zOut_le g3 (by omega) (by omega))
    have hs : zSS ι 1 40 6 0 := by
      have := zSS_of h.2.1
      refine ⟨by rw [ho 1 (by omega)]; exact this.1, by rw [ho 1 (by omega)]; exact this.2.1, fun q hq => by rw [ho (1 + 1) (by omega)]; exact this.2.2 q hq⟩
    have hx : f_X_isLightAsIn r 0 ι = some (if kdT T t s (fun j => μ 3 (40 * r.toNat + j)) k = true then 1 else 0) := by
      rw [X_isLightAsIn g2 hV' hs h3 (by omega) (by rw [ho 2 (by omega), chgT_t ht.1 ht.2]; exact h6), ho 3 (by omega)]
      rfl
    have hb := zset2_b (kdT T t s (fun j => μ 3 (40 * r.toNat + j))) k
    show ∃ u, b_X_kinds_107 t s r (zset2 k (kdT T t s (fun j => μ 3 (40 * r.toNat + j)))) (k : Int) ν = some (.inl u) ∧ _
    unfold b_X_kinds_107
    rw [if_pos (by omega), R_borneAt q1 k1 h1 (by rw [k2]; exact h2), z_some_bind, k3, f1, z_some_bind, g1, z_some_bind, hx, z_some_bind, z32_id (z := (k : Int) + 1) (by omega) (by omega), zset2_s]
    by_cases c : kdT T t s (fun j => μ 3 (40 * r.toNat + j)) k = true
    · rw [z_if1 c, if_pos c, zor_add (by omega) hb.1 hb.2]
      exact ⟨_, rfl, ι, rfl, by rw [knT_s]; exact IsR_out g3 (by omega) f2, ho⟩
    · rw [z_if0 c, if_neg c, Int.add_zero]
      exact ⟨_, rfl, ι, rfl, by rw [knT_s]; exact IsR_out g3 (by omega) f2, ho⟩
  · rintro _ ⟨ν, rfl, q1, q2⟩
    show zQ _ (b_X_kinds_107 t s r (zset2 6 (kdT T t s (fun j => μ 3 (40 * r.toNat + j)))) ((6 : Nat) : Int) ν) _
    unfold b_X_kinds_107
    rw [if_neg (by omega)]
    exact zQ_ret ⟨ν, q2, rfl⟩
theorem M_kindsI (hW : IsV (μ 43) T) (hV : VT T) (hp : (0 ≤ t ∧ t < nT T) ∧ 0 ≤ s) (h1 : 0 ≤ s) (h2 : s < hT T t) (h3 : 0 ≤ r) (h4 : r < 6) (h5 : ¬ μ 46 r.toNat < 0) (h6 : μ 46 r.toNat = tot T) : f_M_kinds t s r μ = some (zset2 6 (kdT T t s (fun j => μ 45 (40 * r.toNat + j))), μ) := by
  have ht := hT_pos (show 0 < hT T t by omega)
  have hn := nT_le hV
  have hh := hT_le hV t
  have hin := cT_in hV ht.1 h1 h2
  have hc : μ 43 (6 + 6 * t + s).toNat = cT T t s := (hW.2.2 t s ht.1 ht.2 h1 h2).1
  suffices hq : zQ (t_M_kinds t s r) (e_M_kinds t s r μ) (fun q => q = (zset2 6 (kdT T t s (fun j => μ 45 (40 * r.toNat + j))), μ)) by
    obtain ⟨q, g1, g2⟩ := zQ_go hq
    rw [← g2]; exact g1
  refine zQ_for (fun k q => ∃ v, q = (cT T t s, zset2 k (kdT T t s (fun j => μ 45 (40 * r.toNat + j))), (k : Int), zst μ 43 (6 + 6 * t + s).toNat v)) 6 (s0 := (cT T t s, 0, 0, μ)) ?_ ⟨cT T t s, by rw [zst_self hc]; rfl⟩ ?_ ?_
  · unfold e_M_kinds f_M_isRow
    rw [M_isTold hW hV, z_if1 hp, M_in, z_if1 (by omega), M_isThere hW hV, z_some_bind, z_if1 ⟨h1, h2⟩, if_pos (by omega), if_neg h5, if_pos (by omega), M_houses hW hV, z_some_bind, if_pos h6, M_kindAt hW hV h1 h2]
    rfl
  · rintro k _ hk ⟨v, rfl⟩
    have hV' := chgT_V (s := s) (k := (k : Int)) (b := bT T t s) hV ht.1 ht.2 ⟨by omega, by omega⟩ ⟨hin.2.2.1, hin.2.2.2⟩
    have hW' := IsV_kind (k := (k : Int)) hW hV h1 h2 (by omega)
    have hb := zset2_b (kdT T t s (fun j => μ 45 (40 * r.toNat + j))) k
    have hx : f_M_isSeen r 0 (zst μ 43 (6 + 6 * t + s).toNat (k : Int)) = some (if kdT T t s (fun j => μ 45 (40 * r.toNat + j)) k = true then 1 else 0) := by
      rw [M_isSeen hW' hV' h3 h4, zst_p (by omega)]
      rfl
    show ∃ u, b_M_kinds_81 t s r (cT T t s) (zset2 k (kdT T t s (fun j => μ 45 (40 * r.toNat + j)))) (k : Int) (zst μ 43 (6 + 6 * t + s).toNat v) = some (.inl u) ∧ _
    unfold b_M_kinds_81
    rw [if_pos (by omega), z32_id (z := 6 * t) (by omega) (by omega), z32_id (z := 6 + 6 * t) (by omega) (by omega), z32_id (z := 6 + 6 * t + s) (by omega) (by omega), if_pos (by omega), zst_zst, hx, z_some_bind, z32_id (z := (k : Int) + 1) (by omega) (by omega), zset2_s]
    by_cases c : kdT T t s (fun j => μ 45 (40 * r.toNat + j)) k = true
    · rw [z_if1 c, if_pos c, zor_add (by omega) hb.1 hb.2]
      exact ⟨_, rfl, _, rfl⟩
    · rw [z_if0 c, if_neg c, Int.add_zero, zor_0 hb.1 (by have := z_pow k (by omega); omega)]
      exact ⟨_, rfl, _, rfl⟩
  · rintro _ ⟨v, rfl⟩
    show zQ _ (b_M_kinds_81 t s r (cT T t s) (zset2 6 (kdT T t s (fun j => μ 45 (40 * r.toNat + j)))) ((6 : Nat) : Int) (zst μ 43 (6 + 6 * t + s).toNat v)) _
    unfold b_M_kinds_81
    rw [if_neg (by omega), z32_id (z := 6 * t) (by omega) (by omega), z32_id (z := 6 + 6 * t) (by omega) (by omega), z32_id (z := 6 + 6 * t + s) (by omega) (by omega), if_pos (by omega), zst_zst, zst_self hc]
    exact zQ_ret rfl
theorem A_kinds (h : Rel μ) : zAg (f_X_kinds t s r μ) (f_M_kinds t s r) := by
  obtain ⟨T, hV, hR, hW⟩ := Rel_T h
  have ht := tot_le hV
  by_cases c1 : (0 ≤ t ∧ t < nT T) ∧ 0 ≤ s
  · by_cases c : 0 ≤ r ∧ r < ((6 : Nat) : Int)
    · by_cases c2 : 0 ≤ s ∧ s < hT T t
      · have hz : μ (1 + 1) r.toNat = μ 46 r.toNat ∧ -1 ≤ μ (1 + 1) r.toNat ∧ μ (1 + 1) r.toNat ≤ 40 := h.2.1.2.2.1 r.toNat (by omega)
        by_cases d : μ (1 + 1) r.toNat < 0
        · obtain ⟨ν, e1, κ, e2, e3⟩ := Rel_found h (f := 1) (by omega) (by omega)
          refine ⟨-3, ν, zE_go ?_, κ, zE_go ?_, e3⟩
          · unfold e_X_kinds
            rw [X_isNoPlace hR, z_ifn1 c1, S_knows zSC_1, z_if1 c, R_hasI hR hV c2.1 c2.2, z_some_bind, if_neg (by omega), S_isThere zSC_1 c.1 c.2, z_some_bind, z_ifn1 d, e1]
            exact zE_ret
          · have e4 : ν 46 = μ 46 ∧ ν 43 = μ 43 := by
              unfold f_X_found at e1
              rw [if_neg (by omega), if_pos (by omega), if_pos (by omega), if_pos (by omega)] at e1
              have := congrArg (fun q => q.map (fun q => (q.2 46, q.2 43))) e1
              simp only [Option.map_some] at this
              have := Prod.mk.inj (Option.some.inj this)
              rw [← this.1, ← this.2, zst_p (by omega), zst_p (by omega), zst_p (by omega), zst_p (by omega)]
              exact ⟨rfl, rfl⟩
            have hWν := W_of hW e4.2
            unfold e_M_kinds f_M_isRow
            rw [M_isTold hWν hV, z_if1 c1, M_in, z_if1 (by omega), M_isThere hWν hV, z_some_bind, z_if1 c2, if_pos (by omega), e4.1, if_pos (by omega), e2]
            exact zE_ret
        · by_cases e : μ (1 + 1) r.toNat = tot T
          · obtain ⟨ν, e1, e2⟩ := X_kindsI h hR hV c1 c2.1 c2.2 c.1 c.2 d e
            have e3 := M_kindsI (μ := ν) (W_of hW (e1 43 (by omega))) hV c1 c2.1 c2.2 c.1 (by omega) (by rw [e1 46 (by omega)]; omega) (by rw [e1 46 (by omega)]; omega)
            refine ⟨_, ν, e2, ν, ?_, Rel_free h (fun o ho => e1 o (by omega))⟩
            rw [e3, e1 45 (by omega)]
            have : kdT T t s (fun j => μ 45 (40 * r.toNat + j)) = kdT T t s (fun j => μ 3 (40 * r.toNat + j)) := funext fun k => seT_rows h c.1 (by omega) (by rw [chgT_t c1.1.1 c1.1.2]; exact e)
            rw [this]
          · obtain ⟨ν, e1, κ, e2, e3⟩ := Rel_found h (f := 5) (by omega) (by omega)
            refine ⟨-3, ν, zE_go ?_, κ, zE_go ?_, e3⟩
            · unfold e_X_kinds f_R_houseCount
              rw [X_isNoPlace hR, z_ifn1 c1, S_knows zSC_1, z_if1 c, R_hasI hR hV c2.1 c2.2, z_some_bind, if_neg (by omega), S_isThere zSC_1 c.1 c.2, z_some_bind, z_ifn0 d, S_sizeOf zSC_1 c.1 c.2, z_some_bind, hR.2.1, if_neg e, e1]
              exact zE_ret
            · have e4 : ν 46 = μ 46 ∧ ν 43 = μ 43 := by
                unfold f_X_found at e1
                rw [if_neg (by omega), if_pos (by omega), if_pos (by omega), if_pos (by omega)] at e1
                have := congrArg (fun q => q.map (fun q => (q.2 46, q.2 43))) e1
                simp only [Option.map_some] at this
                have := Prod.mk.inj (Option.some.inj this)
                rw [← this.1, ← this.2, zst_p (by omega), zst_p (by omega), zst_p (by omega), zst_p (by omega)]
                exact ⟨rfl, rfl⟩
              have hWν := W_of hW e4.2
              unfold e_M_kinds f_M_isRow
              rw [M_isTold hWν hV, z_if1 c1, M_in, z_if1 (by omega), M_isThere hWν hV, z_some_bind, z_if1 c2, if_pos (by omega), e4.1, if_neg (by omega), if_pos (by omega), M_houses hWν hV, z_some_bind, if_neg (by omega), e2]
              exact zE_ret
      · obtain ⟨ν, e1, κ, e2, e3⟩ := Rel_found h (f := 2) (by omega) (by omega)
        refine ⟨-3, ν, zE_go ?_, κ, zE_go ?_, e3⟩
        · unfold e_X_kinds
          rw [X_isNoPlace hR, z_ifn1 c1, S_knows zSC_1, z_if1 c, R_hasO hR hV c2, z_some_bind, if_pos rfl, e1]
          exact zE_ret
        · have e4 : ν 43 = μ 43 := by
            unfold f_X_found at e1
            rw [if_neg (by omega), if_pos (by omega), if_pos (by omega), if_pos (by omega)] at e1
            have := congrArg (fun q => q.map (fun q => q.2 43)) e1
            simp only [Option.map_some] at this
            rw [← Option.some.inj this, zst_p (by omega), zst_p (by omega)]
          have hWν := W_of hW e4
          unfold e_M_kinds f_M_isRow
          rw [M_isTold hWν hV, z_if1 c1, M_in, z_if1 (by omega), M_isThere hWν hV, z_some_bind, z_if0 c2, e2]
          exact zE_ret
    · have e : f_X_kinds t s r μ = some (-1, μ) := zE_go (by unfold e_X_kinds; rw [X_isNoPlace hR, z_ifn1 c1, S_knows zSC_1, z_if0 c]; exact zE_ret)
      rw [e]
      refine zAg_same h (zE_go ?_)
      unfold e_M_kinds f_M_isRow
      rw [M_isTold hW hV, z_if1 c1, M_in, z_if0 (by omega)]
      exact zE_ret
  · have e : f_X_kinds t s r μ = some (-1, μ) := zE_go (by unfold e_X_kinds; rw [X_isNoPlace hR, z_ifn0 c1]; exact zE_ret)
    rw [e]
    refine zAg_same h (zE_go ?_)
    unfold e_M_kinds
    rw [M_isTold hW hV, z_if0 c1]
    exact zE_ret
end KD
