/-! settle: the component's sets of debts -/
theorem bitP_set (q : Nat → Bool) (n : Nat) : bitP (zset2 n q) = fun j => decide (j < n) && q j := by
  funext j
  unfold bitP
  rw [zset2_bit]
  by_cases c : j < n ∧ q j = true
  · rw [if_pos c]; simp [c.1, c.2]
  · rw [if_neg c]
    by_cases d : j < n
    · have : q j = false := by cases hq : q j with
        | false => rfl
        | true => exact absurd ⟨d, hq⟩ c
      simp [this]
    · simp [d]
theorem bitP_tb {s : Int} (h : 0 ≤ s) (j : Nat) : s.toNat.testBit j = bitP s j := by
  have e : ((s.toNat / 2 ^ j % 2 : Nat) : Int) = s / ((2 ^ j : Nat) : Int) % 2 := by
    rw [Int.natCast_emod, Int.natCast_ediv, Int.toNat_of_nonneg h]; rfl
  unfold bitP
  rw [Nat.testBit_eq_decide_div_mod_eq, decide_eq_decide]
  omega
theorem zset2_bitP {s : Int} {n : Nat} (h0 : 0 ≤ s) (h1 : s < ((2 ^ n : Nat) : Int)) : zset2 n (bitP s) = s := by
  have hb := zset2_b (bitP s) n
  have e : (zset2 n (bitP s)).toNat = s.toNat := by
    apply Nat.eq_of_testBit_eq
    intro j
    rw [zset2_tb, bitP_tb h0]
    by_cases c : j < n
    · simp [c]
    · rw [bitP_big h0 h1 (by omega)]; simp [c]
  omega
theorem zset2_all : ∀ n : Nat, zset2 n (fun _ => true) = ((2 ^ n : Nat) : Int) - 1
  | 0 => rfl
  | n + 1 => by
    rw [zset2_s, zset2_all n, if_pos rfl, Nat.pow_succ]
    omega
theorem zset2_zps (n : Nat) (p : Nat → Bool) : zset2 n p = zps p (fun i => ((2 ^ i : Nat) : Int)) n := rfl
/-- a set without one of its members -/
theorem zset2_mn {p : Nat → Bool} {n i : Nat} (hi : i < n) : zset2 n (zmn p i) = zset2 n p - if p i = true then ((2 ^ i : Nat) : Int) else 0 := by
  rw [zset2_zps, zset2_zps, zps_mn]
  by_cases c : p i = true
  · rw [if_pos ⟨hi, c⟩, if_pos c]
  · rw [if_neg (fun z => c z.2), if_neg c]
theorem z_pow32 : ∀ i : Nat, i < 13 → (Int32.ofInt (zshl 1 (i : Int)) ^^^ Int32.ofInt (-1)).toBitVec.toNat = 2 ^ i ^^^ 4294967295 := by decide +kernel
theorem zand_less {s : Int} {n i : Nat} (hn : n ≤ 12) (hi : i < n) (h0 : 0 ≤ s) (h1 : s < ((2 ^ n : Nat) : Int)) : zand s (zxor (zshl 1 (i : Int)) (-1)) = zset2 n (zmn (bitP s) i) := by
  have hp := z_pow n (by omega)
  have hb := zset2_lt (p := zmn (bitP s) i) hn
  have e : (Int32.ofInt s &&& Int32.ofInt (zxor (zshl 1 (i : Int)) (-1))).toBitVec.toNat = (zset2 n (zmn (bitP s) i)).toNat := by
    unfold zxor
    rw [Int32.ofInt_toInt]
    show ((Int32.ofInt s).toBitVec &&& (Int32.ofInt (zshl 1 (i : Int)) ^^^ Int32.ofInt (-1)).toBitVec).toNat = _
    rw [BitVec.toNat_and, zb_nat h0 (by omega), z_pow32 i (by omega)]
    apply Nat.eq_of_testBit_eq
    intro j
    rw [Nat.testBit_and, bitP_tb h0, zset2_tb, Nat.testBit_xor, Nat.testBit_two_pow, show (4294967295 : Nat) = 2 ^ 32 - 1 from rfl, Nat.testBit_two_pow_sub_one]
    unfold zmn
    by_cases c : j < n
    · by_cases d : i = j
      · subst d; simp [show i < 32 by omega]
      · have d2 : ¬ j = i := fun z => d z.symm
        simp [d, d2, c, show j < 32 by omega]
    · rw [bitP_big h0 h1 (by omega)]; simp
  unfold zand
  rw [zb_int (by rw [e]; omega), e]
  omega
theorem mn_id {p : Nat → Bool} {i : Nat} (h : p i = false) : zmn p i = p := by
  funext j; unfold zmn
  by_cases c : j = i
  · subst c; rw [h]; rfl
  · simp [c]
theorem bitP_mn {s : Int} {n i : Nat} (h0 : 0 ≤ s) (h1 : s < ((2 ^ n : Nat) : Int)) : bitP (zset2 n (zmn (bitP s) i)) = zmn (bitP s) i := by
  rw [bitP_set]
  funext j
  by_cases c : j < n
  · simp [c]
  · unfold zmn
    rw [bitP_big h0 h1 (by omega)]; simp
theorem ct_0 {s : Int} {n : Nat} (h0 : 0 ≤ s) (h1 : s < ((2 ^ n : Nat) : Int)) : ctN (bitP s) n = 0 ↔ s = 0 := by
  constructor
  · intro h
    have := zset2_0 (p := bitP s) (n := n) (ctN_0 _ _ h)
    rw [zset2_bitP h0 h1] at this
    exact this
  · intro h
    subst h
    exact ctN_of (fun m _ => by unfold bitP; simp)
section SE
variable {μ : zM} {c : Nat} {s : Int}
def zdb (μ : zM) (d : Nat → Int) (c : Nat) : Prop := μ 23 0 = (c : Int) ∧ ∀ i, i < c → μ 24 i = d i
theorem zps_in {f : Nat → Int} {p : Nat → Bool} {c : Nat} (hf : ∀ i, i < c → -120 ≤ f i ∧ f i ≤ 120) : ∀ i : Nat, i ≤ c → -(120 * (i : Int)) ≤ zps p f i ∧ zps p f i ≤ 120 * (i : Int)
  | 0, _ => by unfold zps; rw [zsum_0]; omega
  | i + 1, h => by
    have ih := zps_in (p := p) hf i (by omega)
    have := hf i (by omega)
    rw [zps_s]
    split <;> omega
theorem G_mostGroups {d : Nat → Int} (hc : c ≤ 12) (hD : zdb μ d c) (hd : ∀ i, i < c → -120 ≤ d i ∧ d i ≤ 120) (h0 : 0 < s) (h1 : s < ((2 ^ c : Nat) : Int)) (hG : ∀ r : Nat, 0 < r → (r : Int) < s → μ 25 r = wsW d c (bitP (r : Int))) : f_G_mostGroups s μ = some (wsW d c (bitP s)) := by
  have hp := z_pow c (by omega)
  have hct : ctN (bitP s) c ≠ 0 := fun z => by rw [ct_0 (by omega) h1] at z; omega
  have hs := zset2_bitP (n := c) (show 0 ≤ s by omega) h1
  have hW : ∀ q : Nat → Bool, 0 ≤ wsW d c q ∧ wsW d c q ≤ 12 := fun q => by
    have a := wsW_in d c q
    have b := ctN_in q c
    omega
  rw [wsW_s hct]
  have hmx : ∀ i : Nat, 0 ≤ mxF (bitP s) (fun i => wsW d c (zmn (bitP s) i)) i ∧ mxF (bitP s) (fun i => wsW d c (zmn (bitP s) i)) i ≤ 12 := fun i => ⟨mxF_nn _ _ i, mxF_le (by omega) i (fun j _ _ => (hW _).2)⟩
  refine zE_go (zE_for (fun i => (zps (bitP s) d i, mxF (bitP s) (fun i => wsW d c (zmn (bitP s) i)) i, (i : Int))) c rfl (fun i hi => ?_) ?_)
  · have hz := zps_in (p := bitP s) hd i (by omega)
    have hdi := hd i hi
    have hl := zand_less hc hi (show 0 ≤ s by omega) h1
    have hm := zset2_mn (p := bitP s) hi
    have hb := zset2_lt (p := zmn (bitP s) i) hc
    have hpi := z_pow i (by omega)
    have hmi := hmx i
    rw [hs] at hm
    show b_G_mostGroups_7 s (zps (bitP s) d i) (mxF (bitP s) (fun i => wsW d c (zmn (bitP s) i)) i) (i : Int) μ = _
    unfold b_G_mostGroups_7 j_G_mostGroups_49
    rw [hD.1, if_pos (by omega), hl, show ((i : Nat) : Int).toNat = i by omega, hD.2 i hi, z32_id (z := (i : Int) + 1) (by omega) (by omega), z32_id (z := zps (bitP s) d i + d i) (by omega) (by omega), zps_s, mxF_s]
    by_cases g : bitP s i = true
    · rw [if_pos g] at hm
      rw [if_pos g, if_pos g]
      by_cases k : 0 < zset2 c (zmn (bitP s) i)
      · have hr := hG (zset2 c (zmn (bitP s) i)).toNat (by omega) (by omega)
        rw [show (((zset2 c (zmn (bitP s) i)).toNat : Nat) : Int) = zset2 c (zmn (bitP s) i) by omega, bitP_mn (by omega) h1] at hr
        rw [if_pos k, if_pos (by omega), if_pos (by omega), if_pos (by omega), if_pos (by omega), hr]; rfl
      · have h00 : ctN (zmn (bitP s) i) c = 0 := by
          have := bitP_mn (i := i) (show 0 ≤ s by omega) h1
          rw [← this, ct_0 (by omega) (by have := zset2_b (zmn (bitP s) i) c; omega)]
          omega
        have hw0 : wsW d c (zmn (bitP s) i) = 0 := wsW_0 h00
        rw [if_neg k, if_pos (by omega), if_pos (by omega), hw0, show max (mxF (bitP s) (fun i => wsW d c (zmn (bitP s) i)) i) 0 = mxF (bitP s) (fun i => wsW d c (zmn (bitP s) i)) i by omega]; rfl
    · rw [if_neg g] at hm
      rw [if_neg g, if_neg g, if_pos (by omega), if_neg (by omega), if_neg (by omega), Int.add_zero]; rfl
  · have hmc := hmx c
    show zE _ (b_G_mostGroups_7 s (zps (bitP s) d c) (mxF (bitP s) (fun i => wsW d c (zmn (bitP s) i)) c) (c : Int) μ) _
    unfold b_G_mostGroups_7
    rw [hD.1, if_neg (by omega), z32_id (z := mxF (bitP s) (fun i => wsW d c (zmn (bitP s) i)) c + 1) (by omega) (by omega)]
    by_cases g : zps (bitP s) d c = 0
    · rw [if_pos g, if_pos g]; exact zE_ret
    · rw [if_neg g, if_neg g, Int.add_zero]; exact zE_ret
theorem bitP_all (n : Nat) : bitP (((2 ^ n : Nat) : Int) - 1) = fun j => decide (j < n) := by
  rw [← zset2_all, bitP_set]
  funext j; simp
theorem G_fewestPayments {d : Nat → Int} (hc : c ≤ 12) (hD : zdb μ d c) (hd : ∀ i, i < c → -120 ≤ d i ∧ d i ≤ 120) : ∃ ν, f_G_fewestPayments μ = some ((c : Int) - wsW d c (fun j => decide (j < c)), ν) ∧ zOut μ ν 25 25 := by
  have hp := z_pow c (by omega)
  have hW := wsW_in d c (fun j => decide (j < c))
  have hct := ctN_in (fun j => decide (j < c)) c
  obtain ⟨N, hN⟩ : ∃ N, N = 2 ^ c - 1 := ⟨_, rfl⟩
  have hN2 : ((2 ^ c : Nat) : Int) = (N : Int) + 1 := by omega
  suffices hq : zQ t_G_fewestPayments (e_G_fewestPayments μ) (fun r => ∃ ν, r = ((c : Int) - wsW d c (fun j => decide (j < c)), ν) ∧ zOut μ ν 25 25) by
    obtain ⟨r, g1, ν, g2, g3⟩ := zQ_go hq
    exact ⟨ν, by rw [← g2]; exact g1, g3⟩
  refine zQ_for (fun k q => ∃ ν, q = ((N : Int), (k : Int) + 1, ν) ∧ zOut μ ν 25 25 ∧ ∀ r : Nat, 0 < r → r ≤ k → ν 25 r = wsW d c (bitP (r : Int))) N (s0 := ((N : Int), 1, μ)) ?_ ⟨μ, rfl, zOut_rf, fun r hr hr2 => by omega⟩ ?_ ?_
  · unfold e_G_fewestPayments
    rw [hD.1, zshl_1 c (by omega), hN2, z32_id (by omega) (by omega)]
    congr 3; omega
  · rintro k _ hk ⟨ν, rfl, q1, q2⟩
    have hDν : zdb ν d c := ⟨by rw [q1 23 (by omega)]; exact hD.1, fun i hi => by rw [q1 24 (by omega)]; exact hD.2 i hi⟩
    have e := G_mostGroups (s := (k : Int) + 1) hc hDν hd (by omega) (by omega) (fun r h0 h1 => q2 r h0 (by omega))
    show ∃ u, b_G_fewestPayments_11 (N : Int) ((k : Int) + 1) ν = some (.inl u) ∧ _
    unfold b_G_fewestPayments_11
    rw [if_neg (by omega), if_pos (by omega), e, z_some_bind, if_pos (by omega), z32_id (z := (k : Int) + 1 + 1) (by omega) (by omega)]
    refine ⟨_, rfl, _, rfl, zst_out q1 (by omega) (by omega), fun r h0 h1 => ?_⟩
    by_cases g : r = k + 1
    · subst g
      rw [show ((k : Int) + 1).toNat = k + 1 by omega, zst_at]; rfl
    · rw [zst_o (Or.inr (by omega))]; exact q2 r h0 (by omega)
  · rintro _ ⟨ν, rfl, q1, q2⟩
    show zQ _ (b_G_fewestPayments_11 (N : Int) ((N : Int) + 1) ν) _
    unfold b_G_fewestPayments_11 j_G_fewestPayments_42
    rw [if_pos (by omega)]
    by_cases g : 0 < (N : Int)
    · have hq := q2 N (by omega) (Nat.le_refl _)
      rw [show (N : Int) = ((2 ^ c : Nat) : Int) - 1 by omega, bitP_all] at hq
      rw [if_pos g, if_pos (by omega), if_pos (by omega), show ((N : Nat) : Int).toNat = N by omega, hq, q1 23 (by omega), hD.1, z32_id (by omega) (by omega)]
      exact zQ_ret ⟨ν, rfl, q1⟩
    · have c0 : c = 0 := by
        cases c with
        | zero => rfl
        | succ c => rw [Nat.pow_succ] at hN2; have := Nat.two_pow_pos c; omega
      rw [if_neg g]
      subst c0
      have w0 : wsW d 0 (fun j => decide (j < 0)) = 0 := wsW_0 rfl
      exact zQ_ret ⟨ν, by rw [w0]; rfl, q1⟩
end SE
