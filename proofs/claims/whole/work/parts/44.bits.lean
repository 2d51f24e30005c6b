/-! BITS -/
theorem zb_nat {a : Int} (h1 : 0 ≤ a) (h2 : a < 2147483648) : (Int32.ofInt a).toBitVec.toNat = a.toNat := by
  show (BitVec.ofInt 32 a).toNat = _
  rw [BitVec.toNat_ofInt]
  congr 1
  exact Int.emod_eq_of_lt h1 (by show a < 4294967296; omega)
theorem zb_int {x : Int32} (h : x.toBitVec.toNat < 2147483648) : x.toInt = x.toBitVec.toNat := BitVec.toInt_eq_toNat_of_lt (by show 2 * _ < 4294967296; omega)
theorem zand_n {a b : Int} (h1 : 0 ≤ a) (h2 : a < 2147483648) (h3 : 0 ≤ b) (h4 : b < 2147483648) : zand a b = ((a.toNat &&& b.toNat : Nat) : Int) := by
  have e : (Int32.ofInt a &&& Int32.ofInt b).toBitVec.toNat = a.toNat &&& b.toNat := by
    show ((Int32.ofInt a).toBitVec &&& (Int32.ofInt b).toBitVec).toNat = _
    rw [BitVec.toNat_and, zb_nat h1 h2, zb_nat h3 h4]
  have hl : a.toNat &&& b.toNat ≤ a.toNat := Nat.and_le_left
  unfold zand
  rw [zb_int (by rw [e]; omega), e]
theorem zand_le {a b : Int} (h1 : 0 ≤ a) (h2 : a < 2147483648) : 0 ≤ zand a b ∧ zand a b ≤ a := by
  have e : (Int32.ofInt a &&& Int32.ofInt b).toBitVec.toNat ≤ a.toNat := by
    show ((Int32.ofInt a).toBitVec &&& (Int32.ofInt b).toBitVec).toNat ≤ _
    rw [BitVec.toNat_and, zb_nat h1 h2]
    exact Nat.and_le_left
  unfold zand
  rw [zb_int (by omega)]
  omega
theorem zor_n {a b : Int} (h1 : 0 ≤ a) (h2 : a < 2147483648) (h3 : 0 ≤ b) (h4 : b < 2147483648) : zor a b = ((a.toNat ||| b.toNat : Nat) : Int) := by
  have e : (Int32.ofInt a ||| Int32.ofInt b).toBitVec.toNat = a.toNat ||| b.toNat := by
    show ((Int32.ofInt a).toBitVec ||| (Int32.ofInt b).toBitVec).toNat = _
    rw [BitVec.toNat_or, zb_nat h1 h2, zb_nat h3 h4]
  have hl : a.toNat ||| b.toNat < 2 ^ 31 := Nat.or_lt_two_pow (by omega) (by omega)
  unfold zor
  rw [zb_int (by rw [e]; omega), e]
theorem zor_0 {a : Int} (h1 : 0 ≤ a) (h2 : a < 2147483648) : zor a 0 = a := by
  rw [zor_n h1 h2 (by omega) (by omega)]
  simp
  omega
theorem zshl_1 : ∀ i : Nat, i < 13 → zshl 1 (i : Int) = ((2 ^ i : Nat) : Int) := by decide +kernel
theorem z_sham : ∀ i : Nat, i < 13 → ((Int32.ofInt (i : Int) &&& 31).toBitVec.smod 32).toNat = i := by decide +kernel
theorem zshr_n {a : Int} (h1 : 0 ≤ a) (h2 : a < 2147483648) {i : Nat} (hi : i < 13) : zshr a (i : Int) = a / ((2 ^ i : Nat) : Int) := by
  unfold zshr
  show (BitVec.sshiftRight' (Int32.ofInt a).toBitVec ((Int32.ofInt (i : Int) &&& 31).toBitVec.smod 32)).toInt = _
  rw [BitVec.toInt_sshiftRight', z_sham i hi]
  show (Int32.ofInt a).toInt >>> i = _
  rw [zrI_to (by unfold zrI; omega), Int.shiftRight_eq_div_pow]
theorem zand_1 {a : Int} (h1 : 0 ≤ a) (h2 : a < 2147483648) : zand a 1 = a % 2 := by
  rw [zand_n h1 h2 (by omega) (by omega)]
  show ((a.toNat &&& 1 : Nat) : Int) = _
  rw [Nat.and_one_is_mod]
  omega
theorem z_pow (i : Nat) (hi : i < 13) : (1 : Int) ≤ ((2 ^ i : Nat) : Int) ∧ ((2 ^ i : Nat) : Int) ≤ 4096 := by
  have : ∀ i < 13, 1 ≤ 2 ^ i ∧ 2 ^ i ≤ 4096 := by decide
  have := this i hi
  omega
theorem zor_add {a : Int} {i : Nat} (hi : i < 13) (h1 : 0 ≤ a) (h2 : a < ((2 ^ i : Nat) : Int)) : zor a (zshl 1 (i : Int)) = a + ((2 ^ i : Nat) : Int) := by
  have hp := z_pow i hi
  rw [zshl_1 i hi, zor_n h1 (by omega) (by omega) (by omega)]
  have e : ((2 ^ i : Nat) : Int).toNat = 2 ^ i := by omega
  rw [e, Nat.or_two_pow_eq_add_of_lt (by omega)]
  omega
/-- a set by its members -/
def zset2 (n : Nat) (p : Nat → Bool) : Int := zsum n (fun i => if p i then ((2 ^ i : Nat) : Int) else 0)
theorem zset2_s (n : Nat) (p : Nat → Bool) : zset2 (n + 1) p = zset2 n p + if p n then ((2 ^ n : Nat) : Int) else 0 := rfl
theorem zset2_b (p : Nat → Bool) : ∀ n, 0 ≤ zset2 n p ∧ zset2 n p < ((2 ^ n : Nat) : Int)
  | 0 => by simp [zset2, zsum_0]
  | n + 1 => by
    have h := zset2_b p n
    have e : (2 ^ (n + 1) : Nat) = 2 ^ n + 2 ^ n := by rw [Nat.pow_succ]; omega
    rw [zset2_s, e]
    split <;> omega
theorem z_bit_lo {a : Int} {n j : Nat} (hj : j < n) (c : Int) : (a + c * ((2 ^ n : Nat) : Int)) / ((2 ^ j : Nat) : Int) % 2 = a / ((2 ^ j : Nat) : Int) % 2 := by
  obtain ⟨d, rfl⟩ : ∃ d, n = j + 1 + d := ⟨n - j - 1, by omega⟩
  have e : ((2 ^ (j + 1 + d) : Nat) : Int) = ((2 ^ j : Nat) : Int) * (2 * ((2 ^ d : Nat) : Int)) := by
    rw [show (2 ^ (j + 1 + d) : Nat) = 2 ^ j * (2 * 2 ^ d) by rw [Nat.pow_add, Nat.pow_succ]; simp [Nat.mul_assoc]]
    simp
  have hp : ((2 ^ j : Nat) : Int) ≠ 0 := by have := Nat.two_pow_pos j; omega
  rw [e, show c * (((2 ^ j : Nat) : Int) * (2 * ((2 ^ d : Nat) : Int))) = ((2 ^ j : Nat) : Int) * (2 * (c * ((2 ^ d : Nat) : Int))) by
    rw [Int.mul_left_comm, Int.mul_left_comm c 2], Int.add_mul_ediv_left _ _ hp]
  omega
theorem zset2_bit (p : Nat → Bool) : ∀ (n j : Nat), zset2 n p / ((2 ^ j : Nat) : Int) % 2 = if j < n ∧ p j then 1 else 0
  | 0, j => by simp [zset2, zsum_0]
  | n + 1, j => by
    have hb := zset2_b p n
    have ih := zset2_bit p n j
    rw [zset2_s]
    rcases Nat.lt_trichotomy j n with h | h | h
    · have e : (if p n then ((2 ^ n : Nat) : Int) else 0) = (if p n then 1 else 0) * ((2 ^ n : Nat) : Int) := by split <;> omega
      rw [e, z_bit_lo h, ih]
      simp [h, Nat.lt_succ_of_lt h]
    · subst h
      have hp := Nat.two_pow_pos j
      by_cases c : p j = true
      · rw [if_pos c, show zset2 j p + ((2 ^ j : Nat) : Int) = zset2 j p + 1 * ((2 ^ j : Nat) : Int) by omega, Int.add_mul_ediv_right _ _ (by omega), Int.ediv_eq_zero_of_lt hb.1 hb.2]
        simp [c]
      · rw [if_neg c, Int.add_zero, Int.ediv_eq_zero_of_lt hb.1 hb.2]
        simp [c]
    · have h1 := zset2_b p (n + 1)
      rw [zset2_s] at h1
      have h2 : (2 ^ (n + 1) : Nat) ≤ 2 ^ j := Nat.pow_le_pow_right (by omega) (by omega)
      rw [Int.ediv_eq_zero_of_lt h1.1 (by omega)]
      have : ¬ (j < n + 1) := by omega
      simp [this]
/-- how many bits -/
def zpop (v : Int) : Int := zsum 12 (fun i => v / ((2 ^ i : Nat) : Int) % 2)
theorem bitCount_pop : ∀ a : Nat, a < 64 → ∀ b : Nat, b < 64 → f_J_bitCount ((64 * a + b : Nat) : Int) = zpop ((64 * a + b : Nat) : Int) := by decide +kernel
theorem J_bitCount {v : Int} (h1 : 0 ≤ v) (h2 : v < 4096) : f_J_bitCount v = zpop v := by
  have := bitCount_pop (v.toNat / 64) (by omega) (v.toNat % 64) (by omega)
  rw [show ((64 * (v.toNat / 64) + v.toNat % 64 : Nat) : Int) = v by omega] at this
  exact this
theorem zsum_tail {f : Nat → Int} {k n : Nat} (h : ∀ j, k ≤ j → f j = 0) (hk : k ≤ n) : zsum n f = zsum k f := by
  induction n with
  | zero => have : k = 0 := by omega
            subst this; rfl
  | succ n ih =>
    by_cases hn : k = n + 1
    · subst hn; rfl
    · rw [zsum_s, ih (by omega), h n (by omega), Int.add_zero]
theorem zpop_set (n : Nat) (p : Nat → Bool) (hn : n ≤ 12) : zpop (zset2 n p) = zsum n (fun i => if p i then 1 else 0) := by
  unfold zpop
  rw [zsum_tail (k := n) (fun j hj => by rw [zset2_bit, if_neg (fun q => by omega)]) hn]
  exact zsum_congr (fun k hk => by rw [zset2_bit]; simp [hk])
theorem M_ones {v : Int} (h1 : 0 ≤ v) (h2 : v < 4096) : f_M_ones v = some (zpop v) := by
  refine zE_go ?_
  have hz : ∀ k : Nat, 0 ≤ zsum k (fun i => v / ((2 ^ i : Nat) : Int) % 2) ∧ zsum k (fun i => v / ((2 ^ i : Nat) : Int) % 2) ≤ 1 * k := fun k => ⟨zsum_nn (fun j _ => by omega), zsum_le (fun j _ => by omega)⟩
  have key : ∀ d k, k + d = 12 → zE (t_M_ones v) (some (.inl (zsum k (fun i => v / ((2 ^ i : Nat) : Int) % 2), v / ((2 ^ k : Nat) : Int)))) (zpop v) := by
    intro d
    induction d with
    | zero =>
      intro k hk
      have : k = 12 := by omega
      subst this
      refine zE_step ?_
      show zE _ (b_M_ones_4 v _ _) _
      unfold b_M_ones_4
      rw [if_neg (by have : v / ((2 ^ 12 : Nat) : Int) = 0 := Int.ediv_eq_zero_of_lt h1 h2
                     omega)]
      rfl
    | succ d ih =>
      intro k hk
      have hp := z_pow k (by omega)
      have hq : 0 ≤ v / ((2 ^ k : Nat) : Int) := Int.ediv_nonneg h1 (by omega)
      have hq2 : v / ((2 ^ k : Nat) : Int) ≤ v := Int.ediv_le_self _ h1
      refine zE_step ?_
      show zE _ (b_M_ones_4 v _ _) _
      unfold b_M_ones_4
      by_cases c : 0 < v / ((2 ^ k : Nat) : Int)
      · have hzk := hz k
        rw [if_pos c, zand_1 hq (by omega), show (1 : Int) = ((1 : Nat) : Int) from rfl, zshr_n hq (by omega) (by omega), Int.ediv_ediv_of_nonneg (by omega), ← Int.natCast_mul, ← Nat.pow_add]
        rw [z32_id (by omega) (by omega)]
        exact ih (k + 1) (by omega)
      · rw [if_neg c]
        show _ = zpop v
        unfold zpop
        symm
        refine zsum_tail (fun j hj => ?_) (by omega)
        have hlt : v < ((2 ^ k : Nat) : Int) := by
          rcases Int.lt_or_le v ((2 ^ k : Nat) : Int) with q | q
          · exact q
          · have := Int.le_ediv_of_mul_le (show 0 < ((2 ^ k : Nat) : Int) by omega) (show 1 * ((2 ^ k : Nat) : Int) ≤ v by omega)
            omega
        have h3 : (2 ^ k : Nat) ≤ 2 ^ j := Nat.pow_le_pow_right (by omega) hj
        rw [Int.ediv_eq_zero_of_lt h1 (by omega)]
        rfl
  have := key 12 0 (by omega)
  unfold e_M_ones
  rw [show v / ((2 ^ 0 : Nat) : Int) = v by simp] at this
  exact this
theorem M_has {v : Int} {i : Nat} (h1 : 0 ≤ v) (h2 : v < 2147483648) (hi : i < 13) : f_M_has v (i : Int) = v / ((2 ^ i : Nat) : Int) % 2 := by
  have hp := z_pow i hi
  have hq : 0 ≤ v / ((2 ^ i : Nat) : Int) := Int.ediv_nonneg h1 (by omega)
  have hq2 : v / ((2 ^ i : Nat) : Int) ≤ v := Int.ediv_le_self _ h1
  unfold f_M_has
  rw [zshr_n h1 h2 hi, zand_1 hq (by omega)]
  split <;> omega
