/-! rings: who owes himself in the end -/
theorem zset2_tb (p : Nat → Bool) (n j : Nat) : (zset2 n p).toNat.testBit j = (decide (j < n) && p j) := by
  have hb := zset2_b p n
  have h := zset2_bit p n j
  have hp : (0 : Int) < ((2 ^ j : Nat) : Int) := by have := Nat.two_pow_pos j; omega
  have e : (((zset2 n p).toNat / 2 ^ j % 2 : Nat) : Int) = zset2 n p / ((2 ^ j : Nat) : Int) % 2 := by
    rw [Int.natCast_emod, Int.natCast_ediv, Int.toNat_of_nonneg hb.1]; rfl
  rw [h] at e
  rw [Nat.testBit_eq_decide_div_mod_eq]
  by_cases c : j < n ∧ p j = true
  · rw [if_pos c] at e
    have e2 : (zset2 n p).toNat / 2 ^ j % 2 = 1 := by omega
    rw [e2]; simp [c.1, c.2]
  · rw [if_neg c] at e
    have e2 : (zset2 n p).toNat / 2 ^ j % 2 = 0 := by omega
    rw [e2]
    by_cases d : j < n
    · have : p j = false := by cases hq : p j with
        | false => rfl
        | true => exact absurd ⟨d, hq⟩ c
      simp [this]
    · simp [d]
theorem zset2_lt {p : Nat → Bool} {n : Nat} (hn : n ≤ 12) : 0 ≤ zset2 n p ∧ zset2 n p < 4096 := by
  have hb := zset2_b p n
  have := z_pow n (by omega)
  omega
theorem zor_set {p q : Nat → Bool} {n : Nat} (hn : n ≤ 12) : zor (zset2 n p) (zset2 n q) = zset2 n (fun b => p b || q b) := by
  have h1 := zset2_lt (p := p) hn
  have h2 := zset2_lt (p := q) hn
  have h3 := zset2_lt (p := fun b => p b || q b) hn
  rw [zor_n h1.1 (by omega) h2.1 (by omega)]
  have e : (zset2 n p).toNat ||| (zset2 n q).toNat = (zset2 n (fun b => p b || q b)).toNat := by
    apply Nat.eq_of_testBit_eq
    intro j
    rw [Nat.testBit_or, zset2_tb, zset2_tb, zset2_tb]
    cases decide (j < n) <;> simp
  rw [e]; omega
theorem zand_pick {p : Nat → Bool} {n i : Nat} (hn : n ≤ 12) (hi : i < n) : zand (zset2 n p) (zshl 1 (i : Int)) = if p i = true then ((2 ^ i : Nat) : Int) else 0 := by
  have h1 := zset2_lt (p := p) hn
  have hp := z_pow i (by omega)
  have e : (zset2 n p).toNat &&& 2 ^ i = if p i = true then 2 ^ i else 0 := by
    apply Nat.eq_of_testBit_eq
    intro j
    rw [Nat.testBit_and, zset2_tb, Nat.testBit_two_pow]
    by_cases c : p i = true
    · rw [if_pos c, Nat.testBit_two_pow]
      by_cases d : i = j
      · subst d; simp [c, hi]
      · simp [d]
    · rw [if_neg c, Nat.zero_testBit]
      by_cases d : i = j
      · subst d; simp [c]
      · simp [d]
  rw [zshl_1 i (by omega), zand_n h1.1 (by omega) (by omega) (by omega), show (((2 ^ i : Nat) : Int)).toNat = 2 ^ i by omega, e]
  by_cases c : p i = true
  · rw [if_pos c, if_pos c]
  · rw [if_neg c, if_neg c]; rfl
theorem zor_2 {a : Int} {i : Nat} (hi : i < 13) (h1 : 0 ≤ a) (h2 : a < ((2 ^ i : Nat) : Int)) : zor a ((2 ^ i : Nat) : Int) = a + ((2 ^ i : Nat) : Int) := by
  have := zor_add hi h1 h2
  rw [zshl_1 i hi] at this
  exact this
theorem set_has {p : Nat → Bool} {n k : Nat} (hn : n ≤ 12) (hk : k < n) : zand (zshr (zset2 n p) (k : Int)) 1 = if p k = true then 1 else 0 := by
  have h1 := zset2_lt (p := p) hn
  have hp := z_pow k (by omega)
  have hq : 0 ≤ zset2 n p / ((2 ^ k : Nat) : Int) := Int.ediv_nonneg h1.1 (by omega)
  have hq2 : zset2 n p / ((2 ^ k : Nat) : Int) ≤ zset2 n p := Int.ediv_le_self _ h1.1
  rw [zshr_n h1.1 (by omega) (by omega), zand_1 hq (by omega), zset2_bit]
  simp [hk]
/-! the pairs -/
def pfB (T : zT) (i j : Nat) : Int := if 0 < lmT T i j ∧ 0 < lmT T j i then 1 else 0
theorem pfB_in (T : zT) (i j : Nat) : 0 ≤ pfB T i j ∧ pfB T i j ≤ 1 := by unfold pfB; split <;> omega
theorem pfB_sym (T : zT) (i j : Nat) : pfB T i j = pfB T j i := by
  unfold pfB
  by_cases c : 0 < lmT T i j ∧ 0 < lmT T j i
  · rw [if_pos c, if_pos ⟨c.2, c.1⟩]
  · rw [if_neg c, if_neg (fun z => c ⟨z.2, z.1⟩)]
def mpX (T : zT) (N i : Nat) : Int := zsum i (fun a => zsum (N - (a + 1)) (fun j => pfB T a (a + 1 + j)))
def mpM (T : zT) (i : Nat) : Int := zsum i (fun a => zsum a (fun b => pfB T a b))
theorem mpX_M (T : zT) : ∀ N, mpX T N N = mpM T N
  | 0 => rfl
  | N + 1 => by
    have ih := mpX_M T N
    unfold mpX mpM at *
    rw [zsum_s, zsum_s, Nat.sub_self, zsum_0, Int.add_zero, ← ih]
    have e : zsum N (fun a => zsum (N + 1 - (a + 1)) (fun j => pfB T a (a + 1 + j))) = zsum N (fun a => zsum (N - (a + 1)) (fun j => pfB T a (a + 1 + j)) + pfB T N a) := zsum_congr (fun a ha => by
      rw [show N + 1 - (a + 1) = (N - (a + 1)) + 1 by omega, zsum_s, show a + 1 + (N - (a + 1)) = N by omega, pfB_sym T a N])
    rw [e, zsum_add]
theorem pf_sum (T : zT) (m : Nat) (f g : Nat → Nat) : 0 ≤ zsum m (fun j => pfB T (f j) (g j)) ∧ zsum m (fun j => pfB T (f j) (g j)) ≤ 1 * m := ⟨zsum_nn (fun j _ => (pfB_in T _ _).1), zsum_le (fun j _ => (pfB_in T _ _).2)⟩
theorem mpX_in (T : zT) {N : Nat} (hN : N ≤ 12) (i : Nat) : 0 ≤ mpX T N i ∧ mpX T N i ≤ 12 * i :=
  ⟨zsum_nn (fun a _ => (pf_sum T _ (fun _ => a) (fun j => a + 1 + j)).1), zsum_le (fun a _ => by have := (pf_sum T (N - (a + 1)) (fun _ => a) (fun j => a + 1 + j)).2; omega)⟩
theorem mpM_in (T : zT) {i : Nat} (hN : i ≤ 12) : 0 ≤ mpM T i ∧ mpM T i ≤ 12 * i :=
  ⟨zsum_nn (fun a _ => (pf_sum T _ (fun _ => a) (fun j => j)).1), zsum_le (fun a ha => by have := (pf_sum T a (fun _ => a) (fun j => j)).2; omega)⟩
/-! the ways, one house between after the other -/
def wrS (R : Nat → Nat → Bool) (k i : Nat) : Nat → Nat → Bool := fun a b => if a = i then (R a b || (R a k && R k b)) else R a b
def wrK (R : Nat → Nat → Bool) (k : Nat) : Nat → Nat → Nat → Bool
  | 0 => R
  | i + 1 => wrS (wrK R k i) k i
def wrA (R : Nat → Nat → Bool) (N : Nat) : Nat → Nat → Nat → Bool
  | 0 => R
  | k + 1 => wrK (wrA R N k) k N
def lmB (T : zT) (i j : Nat) : Bool := decide (0 < lmT T i j)
theorem wrS_no {R : Nat → Nat → Bool} {k i : Nat} (h : R i k = false) : wrS R k i = R := by
  funext a b; unfold wrS
  by_cases c : a = i
  · subst c; rw [if_pos rfl, h]; simp
  · rw [if_neg c]
section RG
variable {μ : zM} {T : zT} {N : Nat}
theorem L_mutualPairs (hV : VT T) (hL : IsL μ T) (hN : tot T = (N : Int)) : f_L_mutualPairs μ = some (mpX T N N) := by
  have ht := tot_le hV
  refine zE_go (zE_two (fun i => .inl (mpX T N i, (i : Int))) (fun i j => .inr (mpX T N i + zsum j (fun j => pfB T i (i + 1 + j)), (i : Int), (i : Int) + 1 + j)) N (fun i => N - (i + 1)) rfl (fun i hi => ?_) (fun i j hi hj => ?_) (fun i hi => ?_) ?_)
  · show b_L_mutualPairs_4 (mpX T N i) (i : Int) μ = _
    unfold b_L_mutualPairs_4
    rw [hL.1, hN, if_pos (by omega), z32_id (z := (i : Int) + 1) (by omega) (by omega), zsum_0, Int.add_zero, show (i : Int) + 1 + ((0 : Nat) : Int) = (i : Int) + 1 by omega]
  · have h1 := mpX_in T (N := N) (by omega) i
    have h2 := pf_sum T j (fun _ => i) (fun j => i + 1 + j)
    have ej : (i : Int) + 1 + (j : Int) = ((i + 1 + j : Nat) : Int) := by omega
    show b_L_mutualPairs_16 (mpX T N i + zsum j (fun j => pfB T i (i + 1 + j))) (i : Int) ((i : Int) + 1 + j) μ = _
    unfold b_L_mutualPairs_16
    rw [hL.1, hN, if_pos (by omega), L_lampsFromTo hV hL, z_some_bind, if_pos (show (0 ≤ (i : Int) ∧ (i : Int) < tot T) ∧ 0 ≤ (i : Int) + 1 + j ∧ (i : Int) + 1 + j < tot T by omega), L_lampsFromTo hV hL, z_some_bind, if_pos (show (0 ≤ (i : Int) + 1 + j ∧ (i : Int) + 1 + j < tot T) ∧ 0 ≤ (i : Int) ∧ (i : Int) < tot T by omega), z32_id (z := (i : Int) + 1 + (j : Int) + 1) (by omega) (by omega), z32_id (z := mpX T N i + zsum j (fun j => pfB T i (i + 1 + j)) + 1) (by omega) (by omega), zsum_s, show (i : Int) + 1 + ((j + 1 : Nat) : Int) = (i : Int) + 1 + (j : Int) + 1 by omega]
    have ep : pfB T i (i + 1 + j) = if 0 < lmT T i ((i : Int) + 1 + j) ∧ 0 < lmT T ((i : Int) + 1 + j) i then 1 else 0 := by unfold pfB; rw [ej]
    rw [ep]
    by_cases c : 0 < lmT T i ((i : Int) + 1 + j)
    · by_cases d : 0 < lmT T ((i : Int) + 1 + j) i
      · rw [if_pos c, if_pos d, if_pos ⟨c, d⟩, Int.add_assoc]
      · rw [if_pos c, if_neg d, if_neg (fun z => d z.2), Int.add_zero]
    · rw [if_neg c, if_neg (fun z => c z.1), Int.add_zero]
  · show b_L_mutualPairs_16 (mpX T N i + zsum (N - (i + 1)) (fun j => pfB T i (i + 1 + j))) (i : Int) ((i : Int) + 1 + ((N - (i + 1) : Nat) : Int)) μ = _
    unfold b_L_mutualPairs_16
    rw [hL.1, hN, if_neg (by omega), z32_id (z := (i : Int) + 1) (by omega) (by omega)]
    rfl
  · show zE _ (b_L_mutualPairs_4 (mpX T N N) (N : Int) μ) _
    unfold b_L_mutualPairs_4
    rw [hL.1, hN, if_neg (by omega)]
    exact zE_ret
theorem L_owedBy (hV : VT T) (hL : IsL μ T) (hN : tot T = (N : Int)) {i : Nat} (hi : i < N) : f_L_owedBy (i : Int) μ = some (zset2 N (lmB T i)) := by
  have ht := tot_le hV
  refine zE_go (zE_for (fun k => (zset2 k (lmB T i), (k : Int))) N rfl (fun k hk => ?_) ?_)
  · have hb := zset2_b (lmB T i) k
    show b_L_owedBy_4 (i : Int) (zset2 k (lmB T i)) (k : Int) μ = _
    unfold b_L_owedBy_4
    rw [hL.1, hN, if_pos (by omega), L_lampsFromTo hV hL, z_some_bind, if_pos (show (0 ≤ (i : Int) ∧ (i : Int) < tot T) ∧ 0 ≤ (k : Int) ∧ (k : Int) < tot T by omega), z32_id (z := (k : Int) + 1) (by omega) (by omega), zset2_s]
    by_cases c : 0 < lmT T i k
    · rw [if_pos c, zor_add (by omega) hb.1 hb.2, if_pos (show lmB T i k = true from decide_eq_true c)]; rfl
    · rw [if_neg c, if_neg (by unfold lmB; simpa using c), Int.add_zero]; rfl
  · show zE _ (b_L_owedBy_4 (i : Int) (zset2 N (lmB T i)) (N : Int) μ) _
    unfold b_L_owedBy_4
    rw [hL.1, hN, if_neg (by omega)]
    exact zE_ret
theorem IsL_22 {κ : zM} (hL : IsL μ T) (h : zOut μ κ 22 22) : IsL κ T := by
  unfold IsL at hL ⊢
  rw [h 16 (by omega), h 17 (by omega), h 18 (by omega), h 19 (by omega), h 20 (by omega), h 21 (by omega)]
  exact hL
theorem L_ringed (hV : VT T) (hL : IsL μ T) (hN : tot T = (N : Int)) : ∃ κ, f_L_ringed μ = some (zset2 N (fun i => wrA (lmB T) N N i i), κ) ∧ zOut μ κ 22 22 := by
  have ht := tot_le hV
  have hN12 : N ≤ 12 := by omega
  suffices hq : zQ t_L_ringed (e_L_ringed μ) (fun q => ∃ κ, q = (zset2 N (fun i => wrA (lmB T) N N i i), κ) ∧ zOut μ κ 22 22) by
    obtain ⟨q, g1, κ, g2, g3⟩ := zQ_go hq
    exact ⟨κ, by rw [← g2]; exact g1, g3⟩
  refine zQ_for (fun i q => ∃ ν, q = .inl ((i : Int), ν) ∧ (∀ a, a < i → ν 22 a = zset2 N (lmB T a)) ∧ zOut μ ν 22 22) N (s0 := .inl (0, μ)) rfl ⟨μ, rfl, fun a ha => by omega, zOut_rf⟩ ?_ ?_
  · rintro i _ hi ⟨ν, rfl, q1, q2⟩
    have hLν := IsL_22 hL q2
    show ∃ u, b_L_ringed_2 (i : Int) ν = some (.inl u) ∧ _
    unfold b_L_ringed_2
    rw [hLν.1, hN, if_pos (by omega), L_owedBy hV hLν hN hi, z_some_bind, if_pos (by omega), z32_id (z := (i : Int) + 1) (by omega) (by omega), show ((i : Nat) : Int).toNat = i by omega]
    refine ⟨_, rfl, _, rfl, fun a ha => ?_, zst_out q2 (by omega) (by omega)⟩
    by_cases c : a = i
    · subst c; exact zst_at
    · rw [zst_o (Or.inr c)]; exact q1 a (by omega)
  · rintro _ ⟨ν, rfl, q1, q2⟩
    show zQ _ (b_L_ringed_2 (N : Int) ν) _
    unfold b_L_ringed_2
    rw [q2 16 (by omega), hL.1, hN, if_neg (by omega)]
    refine zQ_nest (fun k q => ∃ ν, q = .inr (.inl ((k : Int), ν)) ∧ (∀ a, a < N → ν 22 a = zset2 N (wrA (lmB T) N k a)) ∧ zOut μ ν 22 22) N rfl ⟨ν, rfl, q1, q2⟩ ?_ ?_
    · rintro k _ hk ⟨ν, rfl, q1, q2⟩ hgo
      show zQ _ (b_L_ringed_29 (k : Int) ν) _
      unfold b_L_ringed_29
      rw [q2 16 (by omega), hL.1, hN, if_pos (by omega)]
      refine zQ_for (fun i q => ∃ ν, q = .inr (.inr (.inr ((k : Int), (i : Int), ν))) ∧ (∀ a, a < N → ν 22 a = zset2 N (wrK (wrA (lmB T) N k) k i a)) ∧ zOut μ ν 22 22) N rfl ⟨ν, rfl, q1, q2⟩ ?_ ?_
      · rintro i _ hi ⟨ν, rfl, q1, q2⟩
        have e : wrK (wrA (lmB T) N k) k (i + 1) = wrS (wrK (wrA (lmB T) N k) k i) k i := rfl
        generalize wrK (wrA (lmB T) N k) k i = R at e q1
        rw [e]
        show ∃ u, b_L_ringed_39 (k : Int) (i : Int) ν = some (.inl u) ∧ _
        unfold b_L_ringed_39
        rw [q2 16 (by omega), hL.1, hN, if_pos (by omega), if_pos (by omega), show ((i : Nat) : Int).toNat = i by omega, show ((k : Nat) : Int).toNat = k by omega, q1 i hi, q1 k hk, set_has hN12 hk, z32_id (z := (i : Int) + 1) (by omega) (by omega)]
        by_cases c : R i k = true
        · rw [z_if1 c, if_pos (by omega), if_pos (by omega), if_pos (by omega), zor_set hN12]
          refine ⟨_, rfl, _, rfl, fun a ha => ?_, zst_out q2 (by omega) (by omega)⟩
          by_cases d : a = i
          · subst d
            rw [zst_at]
            congr 1
            funext b; unfold wrS
            rw [if_pos rfl, c]; simp
          · rw [zst_o (Or.inr d), q1 a ha]
            congr 1
            funext b; unfold wrS
            rw [if_neg d]
        · rw [z_if0 c, wrS_no (by simpa using c)]
          exact ⟨_, rfl, ν, rfl, q1, q2⟩
      · rintro _ ⟨ν, rfl, q1, q2⟩
        show zQ _ (b_L_ringed_39 (k : Int) (N : Int) ν) _
        unfold b_L_ringed_39
        rw [q2 16 (by omega), hL.1, hN, if_neg (by omega), z32_id (z := (k : Int) + 1) (by omega) (by omega)]
        exact hgo _ ⟨ν, rfl, q1, q2⟩
    · rintro _ ⟨ν, rfl, q1, q2⟩
      show zQ _ (b_L_ringed_29 (N : Int) ν) _
      unfold b_L_ringed_29
      rw [q2 16 (by omega), hL.1, hN, if_neg (by omega)]
      refine zQ_for (fun i q => q = .inr (.inr (.inl (zset2 i (fun i => wrA (lmB T) N N i i), (i : Int), ν)))) N rfl rfl ?_ ?_
      · rintro i _ hi rfl
        have hb := zset2_b (fun i => wrA (lmB T) N N i i) i
        show ∃ u, b_L_ringed_91 (zset2 i (fun i => wrA (lmB T) N N i i)) (i : Int) ν = some (.inl u) ∧ _
        unfold b_L_ringed_91
        rw [q2 16 (by omega), hL.1, hN, if_pos (by omega), if_pos (by omega), show ((i : Nat) : Int).toNat = i by omega, q1 i hi, zand_pick hN12 hi, z32_id (z := (i : Int) + 1) (by omega) (by omega)]
        refine ⟨_, rfl, ?_⟩
        rw [zset2_s]
        by_cases c : wrA (lmB T) N N i i = true
        · rw [if_pos c, zor_2 (by omega) hb.1 hb.2]; rfl
        · rw [if_neg c, zor_0 hb.1 (by have := z_pow i (by omega); omega), Int.add_zero]; rfl
      · rintro _ rfl
        show zQ _ (b_L_ringed_91 (zset2 N (fun i => wrA (lmB T) N N i i)) (N : Int) ν) _
        unfold b_L_ringed_91
        rw [q2 16 (by omega), hL.1, hN, if_neg (by omega)]
        exact zQ_ret ⟨ν, rfl, q2⟩
end RG
