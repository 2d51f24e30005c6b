/-! rings, the model's side -/
def gR (ν : zM) (N : Nat) (R : Nat → Nat → Bool) : Prop := ∀ a b : Nat, a < N → b < N → 0 ≤ ν 51 (12 * a + b) ∧ ν 51 (12 * a + b) ≤ 10 ∧ (0 < ν 51 (12 * a + b) ↔ R a b = true)
def wrJ (R : Nat → Nat → Bool) (k i j : Nat) : Nat → Nat → Bool := fun a b => if a = i ∧ b < j then (R a b || (R a k && R k b)) else R a b
theorem wrJ_0 (R : Nat → Nat → Bool) (k i : Nat) : wrJ R k i 0 = R := by
  funext a b; unfold wrJ
  rw [if_neg (by omega)]
theorem gR_congr {ν : zM} {N : Nat} {R S : Nat → Nat → Bool} (h : gR ν N R) (e : ∀ a b, a < N → b < N → R a b = S a b) : gR ν N S := fun a b ha hb => by rw [← e a b ha hb]; exact h a b ha hb
section RN
variable {μ : zM} {T : zT} {N : Nat}
theorem gR_set {ν : zM} {R : Nat → Nat → Bool} {k i j : Nat} {v : Int} (hN : N ≤ 12) (hj : j < N) (h : gR ν N (wrJ R k i j)) (h1 : 0 ≤ v) (h2 : v ≤ 10) (h3 : 0 < v ↔ (R i j || (R i k && R k j)) = true) : gR (zst ν 51 (12 * i + j) v) N (wrJ R k i (j + 1)) := by
  intro a b ha hb
  by_cases c : a = i ∧ b = j
  · obtain ⟨rfl, rfl⟩ := c
    rw [zst_at]
    unfold wrJ
    rw [if_pos ⟨rfl, by omega⟩]
    exact ⟨h1, h2, h3⟩
  · rw [zst_o (by omega)]
    have e : wrJ R k i (j + 1) a b = wrJ R k i j a b := by
      unfold wrJ
      by_cases d : a = i ∧ b < j
      · rw [if_pos d, if_pos (by omega)]
      · rw [if_neg d, if_neg (by omega)]
    rw [e]
    exact h a b ha hb
theorem M_rings96 {ν : zM} {R : Nat → Nat → Bool} {k i j : Nat} {v : Int} (hN : N ≤ 12) (hk : k < N) (hi : i < N) (hj : j < N) (h : gR ν N (wrJ R k i j)) : ∃ κ, b_M_rings_96 (N : Int) v (k : Int) (i : Int) (j : Int) ν = some (.inl (.inr (.inr (.inr (.inr (.inr ((N : Int), v, (k : Int), (i : Int), ((j + 1 : Nat) : Int), κ))))))) ∧ gR κ N (wrJ R k i (j + 1)) ∧ zOut ν κ 51 51 := by
  have h1 := h i j hi hj
  have h2 := h i k hi hk
  have h3 := h k j hk hj
  have e1 : wrJ R k i j i j = R i j := by unfold wrJ; rw [if_neg (by omega)]
  have e2 : wrJ R k i j i k = R i k := by
    unfold wrJ
    split
    · cases R i k <;> simp
    · rfl
  have e3 : wrJ R k i j k j = R k j := by unfold wrJ; rw [if_neg (by omega)]
  rw [e1] at h1
  rw [e2] at h2
  rw [e3] at h3
  unfold b_M_rings_96
  rw [if_pos (by omega), z32_id (z := 12 * (i : Int)) (by omega) (by omega), z32_id (z := 12 * (k : Int)) (by omega) (by omega), z32_id (z := 12 * (i : Int) + j) (by omega) (by omega), z32_id (z := 12 * (i : Int) + k) (by omega) (by omega), z32_id (z := 12 * (k : Int) + j) (by omega) (by omega), z32_id (z := (j : Int) + 1) (by omega) (by omega), show (12 * (i : Int) + j).toNat = 12 * i + j by omega, show (12 * (i : Int) + k).toNat = 12 * i + k by omega, show (12 * (k : Int) + j).toNat = 12 * k + j by omega, z32_id (z := ν 51 (12 * i + j) + 1) (by omega) (by omega), z32_id (z := ν 51 (12 * i + j) + 0) (by omega) (by omega)]
  have hb : (0 : Int) ≤ 12 * (i : Int) + j ∧ 12 * (i : Int) + j < 144 := by omega
  have hb2 : (0 : Int) ≤ 12 * (i : Int) + k ∧ 12 * (i : Int) + k < 144 := by omega
  have hb3 : (0 : Int) ≤ 12 * (k : Int) + j ∧ 12 * (k : Int) + j < 144 := by omega
  have key : ∀ w : Int, 0 ≤ w → w ≤ 10 → (0 < w ↔ (R i j || (R i k && R k j)) = true) → ∃ κ, (some (Sum.inl (Sum.inr (Sum.inr (Sum.inr (Sum.inr (Sum.inr ((N : Int), v, (k : Int), (i : Int), (j : Int) + 1, zst ν 51 (12 * i + j) w))))))) : Option (((Int × Int × Int × zM) ⊕ (Int × Int × Int × zM) ⊕ (Int × Int × Int × Int × zM) ⊕ (Int × Int × Int × Int × zM) ⊕ (Int × Int × Int × Int × zM) ⊕ (Int × Int × Int × Int × Int × zM)) ⊕ (Int × zM))) = some (.inl (.inr (.inr (.inr (.inr (.inr ((N : Int), v, (k : Int), (i : Int), ((j + 1 : Nat) : Int), κ))))))) ∧ gR κ N (wrJ R k i (j + 1)) ∧ zOut ν κ 51 51 := fun w w1 w2 w3 => ⟨_, rfl, gR_set hN hj h w1 w2 w3, zst_out zOut_rf (by omega) (by omega)⟩
  have tr : ((R i j || (R i k && R k j)) = true) ↔ (0 < ν 51 (12 * i + j) ∨ (0 < ν 51 (12 * i + k) ∧ 0 < ν 51 (12 * k + j))) := by
    rw [Bool.or_eq_true, Bool.and_eq_true, ← h1.2.2, ← h2.2.2, ← h3.2.2]
  rw [tr] at key
  simp only [if_pos hb, if_pos hb2, if_pos hb3]
  by_cases c : ν 51 (12 * i + j) = 0
  · rw [if_pos c]
    by_cases d : 0 < ν 51 (12 * i + k)
    · rw [if_pos d]
      by_cases e : 0 < ν 51 (12 * k + j)
      · rw [if_pos e]; exact key _ (by omega) (by omega) (by omega)
      · rw [if_neg e]; exact key _ (by omega) (by omega) (by omega)
    · rw [if_neg d]; exact key _ (by omega) (by omega) (by omega)
  · rw [if_neg c]; exact key _ (by omega) (by omega) (by omega)
theorem M_rings (hW : IsV (μ 43) T) (hV : VT T) (hN : tot T = (N : Int)) : ∃ κ, f_M_rings μ = some (zset2 N (fun i => wrA (lmB T) N N i i), zst κ 42 10 (mpM T N)) ∧ zOut μ κ 51 51 := by
  have ht := tot_le hV
  have hN12 : N ≤ 12 := by omega
  obtain ⟨ν0, f1, f2, f3⟩ := M_layLamps hW hV
  suffices hq : zQ t_M_rings (e_M_rings μ) (fun q => ∃ κ, q = (zset2 N (fun i => wrA (lmB T) N N i i), zst κ 42 10 (mpM T N)) ∧ zOut μ κ 51 51) by
    obtain ⟨q, g1, κ, g2, g3⟩ := zQ_go hq
    exact ⟨κ, by rw [← g2]; exact g1, g3⟩
  have g0 : gR ν0 N (lmB T) := fun a b ha hb => by
    have := lmT_in T a b
    rw [f2 a b (by omega) (by omega)]
    exact ⟨this.1, this.2, by unfold lmB; simp⟩
  refine zQ_nest (fun i q => q = .inl ((N : Int), mpM T i, (i : Int), ν0)) N (s0 := .inl ((N : Int), 0, 0, ν0)) ?_ rfl ?_ ?_
  · unfold e_M_rings
    rw [f1, z_some_bind, M_houses (W_of hW (f3 43 (by omega))) hV, z_some_bind, hN]
  · rintro i _ hi rfl hgo
    have hm := mpM_in T (i := i) (by omega)
    show zQ _ (b_M_rings_13 (N : Int) (mpM T i) (i : Int) ν0) _
    unfold b_M_rings_13
    rw [if_pos (by omega)]
    refine zQ_for (fun j q => q = .inr (.inr (.inl ((N : Int), mpM T i + zsum j (fun j => pfB T i j), (i : Int), (j : Int), ν0)))) i (s0 := .inr (.inr (.inl ((N : Int), mpM T i, (i : Int), 0, ν0)))) rfl (by rw [zsum_0, Int.add_zero]; rfl) ?_ ?_
    · rintro j _ hj rfl
      have h2 := pf_sum T j (fun _ => i) (fun j => j)
      show ∃ u, b_M_rings_21 (N : Int) (mpM T i + zsum j (fun j => pfB T i j)) (i : Int) (j : Int) ν0 = some (.inl u) ∧ _
      unfold b_M_rings_21
      have hb : (0 : Int) ≤ 12 * (i : Int) + j ∧ 12 * (i : Int) + j < 144 := by omega
      have hb2 : (0 : Int) ≤ 12 * (j : Int) + i ∧ 12 * (j : Int) + i < 144 := by omega
      rw [if_pos (by omega), z32_id (z := 12 * (i : Int)) (by omega) (by omega), z32_id (z := 12 * (j : Int)) (by omega) (by omega), z32_id (z := 12 * (i : Int) + j) (by omega) (by omega), z32_id (z := 12 * (j : Int) + i) (by omega) (by omega), z32_id (z := (j : Int) + 1) (by omega) (by omega), if_pos hb, show (12 * (i : Int) + j).toNat = 12 * i + j by omega, show (12 * (j : Int) + i).toNat = 12 * j + i by omega, f2 i j (by omega) (by omega), f2 j i (by omega) (by omega), z32_id (z := mpM T i + zsum j (fun j => pfB T i j) + 1) (by omega) (by omega), z32_id (z := mpM T i + zsum j (fun j => pfB T i j) + 0) (by omega) (by omega)]
      refine ⟨.inr (.inr (.inl ((N : Int), mpM T i + zsum (j + 1) (fun j => pfB T i j), (i : Int), ((j + 1 : Nat) : Int), ν0))), ?_, rfl⟩
      rw [zsum_s]
      have ep : pfB T i j = if 0 < lmT T i j ∧ 0 < lmT T j i then 1 else 0 := rfl
      rw [ep]
      by_cases c : 0 < lmT T i j
      · by_cases d : 0 < lmT T j i
        · rw [if_pos c, if_pos hb2, if_pos d, if_pos ⟨c, d⟩, Int.add_assoc]; rfl
        · rw [if_pos c, if_pos hb2, if_neg d, if_neg (fun z => d z.2), Int.add_assoc]; rfl
      · rw [if_neg c, if_neg (fun z => c z.1), Int.add_assoc]; rfl
    · rintro _ rfl
      show zQ _ (b_M_rings_21 (N : Int) (mpM T i + zsum i (fun j => pfB T i j)) (i : Int) (i : Int) ν0) _
      unfold b_M_rings_21
      rw [if_neg (by omega), z32_id (z := (i : Int) + 1) (by omega) (by omega)]
      exact hgo _ rfl
  · rintro _ rfl
    show zQ _ (b_M_rings_13 (N : Int) (mpM T N) (N : Int) ν0) _
    unfold b_M_rings_13
    rw [if_neg (by omega)]
    refine zQ_nest (fun k q => ∃ ν, q = .inr (.inl ((N : Int), mpM T N, (k : Int), ν)) ∧ gR ν N (wrA (lmB T) N k) ∧ zOut μ ν 51 51) N rfl ⟨ν0, rfl, g0, f3⟩ ?_ ?_
    · rintro k _ hk ⟨ν, rfl, q1, q2⟩ hgo
      show zQ _ (b_M_rings_79 (N : Int) (mpM T N) (k : Int) ν) _
      unfold b_M_rings_79
      rw [if_pos (by omega)]
      refine zQ_nest (fun i q => ∃ ν, q = .inr (.inr (.inr (.inr (.inl ((N : Int), mpM T N, (k : Int), (i : Int), ν))))) ∧ gR ν N (wrK (wrA (lmB T) N k) k i) ∧ zOut μ ν 51 51) N rfl ⟨ν, rfl, q1, q2⟩ ?_ ?_
      · rintro i _ hi ⟨ν, rfl, q1, q2⟩ hgo2
        show zQ _ (b_M_rings_87 (N : Int) (mpM T N) (k : Int) (i : Int) ν) _
        unfold b_M_rings_87
        rw [if_pos (by omega)]
        have e : wrK (wrA (lmB T) N k) k (i + 1) = wrS (wrK (wrA (lmB T) N k) k i) k i := rfl
        rw [e] at hgo2
        generalize wrK (wrA (lmB T) N k) k i = R at q1 hgo2
        refine zQ_for (fun j q => ∃ ν, q = .inr (.inr (.inr (.inr (.inr ((N : Int), mpM T N, (k : Int), (i : Int), (j : Int), ν))))) ∧ gR ν N (wrJ R k i j) ∧ zOut μ ν 51 51) N rfl ⟨ν, rfl, by rw [wrJ_0]; exact q1, q2⟩ ?_ ?_
        · rintro j _ hj ⟨ν, rfl, q1, q2⟩
          obtain ⟨κ, g1, g2, g3⟩ := M_rings96 (v := mpM T N) hN12 hk hi hj q1
          exact ⟨_, g1, κ, rfl, g2, zOut_trans q2 g3⟩
        · rintro _ ⟨ν, rfl, q1, q2⟩
          show zQ _ (b_M_rings_96 (N : Int) (mpM T N) (k : Int) (i : Int) (N : Int) ν) _
          unfold b_M_rings_96
          rw [if_neg (by omega), z32_id (z := (i : Int) + 1) (by omega) (by omega)]
          refine hgo2 _ ⟨ν, rfl, gR_congr q1 (fun a b ha hb => ?_), q2⟩
          unfold wrJ wrS
          by_cases c : a = i
          · rw [if_pos ⟨c, hb⟩, if_pos c]
          · rw [if_neg (fun z => c z.1), if_neg c]
      · rintro _ ⟨ν, rfl, q1, q2⟩
        show zQ _ (b_M_rings_87 (N : Int) (mpM T N) (k : Int) (N : Int) ν) _
        unfold b_M_rings_87
        rw [if_neg (by omega), z32_id (z := (k : Int) + 1) (by omega) (by omega)]
        exact hgo _ ⟨ν, rfl, q1, q2⟩
    · rintro _ ⟨ν, rfl, q1, q2⟩
      show zQ _ (b_M_rings_79 (N : Int) (mpM T N) (N : Int) ν) _
      unfold b_M_rings_79
      rw [if_neg (by omega)]
      refine zQ_for (fun i q => q = .inr (.inr (.inr (.inl ((N : Int), mpM T N, zset2 i (fun i => wrA (lmB T) N N i i), (i : Int), ν))))) N rfl rfl ?_ ?_
      · rintro i _ hi rfl
        have hb := zset2_b (fun i => wrA (lmB T) N N i i) i
        have hp := z_pow i (by omega)
        obtain ⟨_, _, h3⟩ := q1 i i hi hi
        show ∃ u, b_M_rings_192 (N : Int) (mpM T N) (zset2 i (fun i => wrA (lmB T) N N i i)) (i : Int) ν = some (.inl u) ∧ _
        unfold b_M_rings_192
        rw [if_pos (by omega), z32_id (z := 12 * (i : Int)) (by omega) (by omega), z32_id (z := 12 * (i : Int) + i) (by omega) (by omega), if_pos (by omega), show (12 * (i : Int) + i).toNat = 12 * i + i by omega, z32_id (z := (i : Int) + 1) (by omega) (by omega)]
        refine ⟨_, ?_, rfl⟩
        rw [zset2_s]
        by_cases c : 0 < ν 51 (12 * i + i)
        · rw [if_pos c, if_pos (h3.mp c), zor_add (by omega) hb.1 hb.2]; rfl
        · rw [if_neg c, if_neg (fun z => c (h3.mpr z)), zor_0 hb.1 (by omega), Int.add_zero]; rfl
      · rintro _ rfl
        show zQ _ (b_M_rings_192 (N : Int) (mpM T N) (zset2 N (fun i => wrA (lmB T) N N i i)) (N : Int) ν) _
        unfold b_M_rings_192 f_M_tells
        rw [if_neg (by omega)]
        exact zQ_ret ⟨ν, rfl, q2⟩
theorem A_rings (h : Rel μ) : zAg (f_X_rings μ) (f_M_rings) := by
  obtain ⟨T, hV, hR, hW⟩ := Rel_T h
  have ht := tot_le hV
  have hN : tot T = ((tot T).toNat : Int) := by omega
  obtain ⟨ν, e1, e2, e3⟩ := L_reckon (μ := μ) hV (o := 8) (by omega) hR
  have hL2 : IsL (zst ν 0 9 (mpX T (tot T).toNat (tot T).toNat)) T := by
    unfold IsL at e2 ⊢
    rw [zst_p (by omega), zst_p (by omega), zst_p (by omega), zst_p (by omega), zst_p (by omega), zst_p (by omega)]
    exact e2
  obtain ⟨ι, f1, f2⟩ := L_ringed hV hL2 hN
  have hWι : IsV (ι 43) T := W_of hW (by rw [f2 43 (by omega), zst_p (by omega), e3 43 (by omega)])
  obtain ⟨κ, g1, g2⟩ := M_rings hWι hV hN
  refine ⟨zset2 (tot T).toNat (fun i => wrA (lmB T) (tot T).toNat (tot T).toNat i i), ι, ?_, _, g1, ?_⟩
  · unfold f_X_rings
    rw [e1, z_some_bind, L_mutualPairs hV e2 hN, z_some_bind, f1]; rfl
  · rw [← mpX_M]
    refine Rel_free (Rel_tells (v := mpX T (tot T).toNat (tot T).toNat) h) (fun o ho => ?_)
    funext q
    have a1 : κ o q = ι o q := by rw [g2 o (by omega)]
    have a2 : ι o q = zst ν 0 9 (mpX T (tot T).toNat (tot T).toNat) o q := by rw [f2 o (by omega)]
    have a3 : ν o q = μ o q := by rw [e3 o (by omega)]
    unfold zst at a2 ⊢
    rw [a1, a2, a3]
end RN
