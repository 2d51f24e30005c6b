/-! settle: both sides -/
def eD (T : zT) (j : Nat) : Int := owesT T j - owedT T j
theorem eD_in {T : zT} (hV : VT T) (j : Nat) : -120 ≤ eD T j ∧ eD T j ≤ 120 := by
  have h1 := owesT_in hV j
  have h2 := owedT_in hV j
  unfold eD; omega
section SF
variable {μ : zM} {T : zT} {n : Nat}
theorem X_settle (hR : IsR μ 8 T) (hV : VT T) (hn : tot T = (n : Int)) : ∃ ν, f_X_settle μ = some ((n : Int) - wsW (eD T) n (fun j => decide (j < n)), ν) ∧ zOut μ ν 16 25 := by
  have ht := tot_le hV
  obtain ⟨ν0, e1, e2, e3⟩ := L_reckon (μ := μ) hV (o := 8) (by omega) hR
  suffices hq : zQ t_X_settle (e_X_settle μ) (fun r => ∃ ν, r = ((n : Int) - wsW (eD T) n (fun j => decide (j < n)), ν) ∧ zOut μ ν 16 25) by
    obtain ⟨r, g1, ν, g2, g3⟩ := zQ_go hq
    exact ⟨ν, by rw [← g2]; exact g1, g3⟩
  refine zQ_for (fun i q => ∃ ν, q = ((i : Int), ν) ∧ zOut ν0 ν 23 24 ∧ ν 23 0 = (cnz (eD T) i : Int) ∧ ∀ j, j < i → eD T j ≠ 0 → ν 24 (cnz (eD T) j) = eD T j) n (s0 := (0, zst ν0 23 0 0)) ?_ ⟨_, rfl, zst_out zOut_rf (by omega) (by omega), zst_at, fun j hj => by omega⟩ ?_ ?_
  · unfold e_X_settle f_G_clear
    rw [e1, z_some_bind, z_some_bind]
  · rintro i _ hi ⟨ν, rfl, q1, q2, q3⟩
    have hRν : IsR ν 8 T := IsR_out q1 (by omega) (IsR_out e3 (by omega) hR)
    have hLν : IsL ν T := by
      unfold IsL at e2 ⊢
      rw [q1 16 (by omega), q1 17 (by omega), q1 18 (by omega), q1 19 (by omega), q1 20 (by omega), q1 21 (by omega)]
      exact e2
    have hc := cnz_le (eD T) i
    have hs := cnz_s (eD T) i
    show ∃ u, b_X_settle_23 (i : Int) ν = some (.inl u) ∧ _
    unfold b_X_settle_23 f_R_houseCount
    rw [hRν.2.1, hn, if_pos (by omega), L_debtOf hV hLν, z_some_bind, if_pos (show 0 ≤ (i : Int) ∧ (i : Int) < tot T by omega), show owesT T (i : Int) - owedT T (i : Int) = eD T i from rfl, z32_id (z := (i : Int) + 1) (by omega) (by omega)]
    by_cases c : eD T i = 0
    · rw [if_pos c] at hs
      have : f_G_add (eD T i) ν = some ν := by unfold f_G_add; rw [if_pos c]
      rw [this, z_some_bind]
      refine ⟨_, rfl, ν, rfl, q1, by rw [hs]; exact q2, fun j hj he => ?_⟩
      by_cases d : j = i
      · subst d; exact absurd c he
      · exact q3 j (by omega) he
    · rw [if_neg c] at hs
      have : f_G_add (eD T i) ν = some (zst (zst ν 24 (cnz (eD T) i) (eD T i)) 23 0 ((cnz (eD T) i : Int) + 1)) := by
        unfold f_G_add
        rw [if_neg c, q2, if_pos (by omega), if_pos (by omega), show ((cnz (eD T) i : Nat) : Int).toNat = cnz (eD T) i by omega, zst_p (by omega), q2, z32_id (by omega) (by omega)]
      rw [this, z_some_bind]
      refine ⟨_, rfl, _, rfl, zst_out (zst_out q1 (by omega) (by omega)) (by omega) (by omega), by rw [zst_at, hs]; omega, fun j hj he => ?_⟩
      rw [zst_p (by omega)]
      by_cases d : j = i
      · subst d; exact zst_at
      · rw [zst_o (Or.inr (fun z => d (cnz_inj he c z)))]; exact q3 j (by omega) he
  · rintro _ ⟨ν, rfl, q1, q2, q3⟩
    have hRν : IsR ν 8 T := IsR_out q1 (by omega) (IsR_out e3 (by omega) hR)
    have hc := cnz_le (eD T) n
    have hd : ∀ i, i < cnz (eD T) n → -120 ≤ ν 24 i ∧ ν 24 i ≤ 120 := fun i hi => by
      obtain ⟨j, h1, h2, h3⟩ := cnz_sur (eD T) n i hi
      rw [← h3, q3 j h1 h2]; exact eD_in hV j
    obtain ⟨κ, f1, f2⟩ := G_fewestPayments (μ := ν) (c := cnz (eD T) n) (d := ν 24) (by omega) ⟨q2, fun i _ => rfl⟩ hd
    have key := ws_main (e := eD T) (d := ν 24) (n := n) (fun j hj he => q3 j hj he) (ctN (fun j => decide (j < n)) n).toNat (fun j => decide (j < cnz (eD T) n)) (fun j => decide (j < n)) (by have := ctN_in (fun j => decide (j < n)) n; omega) (fun j hj he => by
      have := cnz_lt hj he
      simp [hj, this])
    have hz : ctN (fun j => decide (j < n) && decide (eD T j = 0)) n = ctN (fun j => decide (eD T j = 0)) n := zsum_congr (fun k hk => by simp [hk])
    rw [hz, cnz_ct] at key
    show zQ _ (b_X_settle_23 (n : Int) ν) _
    unfold b_X_settle_23 f_R_houseCount
    rw [hRν.2.1, hn, if_neg (by omega), f1, z_some_bind]
    refine zQ_ret ⟨κ, ?_, zOut_trans (zOut_trans (zOut_le e3 (by omega) (by omega)) (zOut_le q1 (by omega) (by omega))) (zOut_le f2 (by omega) (by omega))⟩
    rw [key]
    congr 1
    omega
theorem bitP_has {s : Int} {i : Nat} : s / ((2 ^ i : Nat) : Int) % 2 = 0 ↔ bitP s i = false := by
  unfold bitP
  rw [decide_eq_false_iff_not]
  omega
/-- the model's sums and parts, the first k sets done -/
def zSP (ν : zM) (T : zT) (n k : Nat) : Prop := ∀ r : Nat, r < k → ν 52 r = zps (bitP (r : Int)) (eD T) n ∧ ν 53 r = wsW (eD T) n (bitP (r : Int))
theorem zSP_set {ν : zM} {k : Nat} {a b : Int} (h : zSP ν T n k) : zSP (zst (zst ν 52 k a) 53 k b) T n k := fun r hr => by
  rw [zst_p (by omega), zst_o (Or.inr (by omega)), zst_o (Or.inr (by omega)), zst_p (by omega)]
  exact h r hr
theorem M_settle34 {ν : zM} {k i : Nat} (hV : VT T) (hn : tot T = (n : Int)) (hk : (k : Int) < ((2 ^ n : Nat) : Int)) (hi : i < n) (hL : ∀ i j : Nat, i < 12 → j < 12 → ν 51 (12 * i + j) = lmT T i j) (hS : zSP ν T n k) (h52 : ν 52 k = if ctN (bitP (k : Int)) i = 0 then 0 else zps (bitP (k : Int)) (eD T) n) (h53 : ν 53 k = mxF (bitP (k : Int)) (fun i => wsW (eD T) n (zmn (bitP (k : Int)) i)) i) : ∃ κ, b_M_settle_34 (n : Int) (k : Int) (i : Int) ν = some (.inl (.inr ((n : Int), (k : Int), ((i + 1 : Nat) : Int), κ))) ∧ zOut ν κ 52 53 ∧ zSP κ T n k ∧ κ 52 k = (if ctN (bitP (k : Int)) (i + 1) = 0 then 0 else zps (bitP (k : Int)) (eD T) n) ∧ κ 53 k = mxF (bitP (k : Int)) (fun i => wsW (eD T) n (zmn (bitP (k : Int)) i)) (i + 1) := by
  have ht := tot_le hV
  have hp := z_pow n (by omega)
  have hct : ctN (bitP (k : Int)) (i + 1) = ctN (bitP (k : Int)) i + if bitP (k : Int) i = true then 1 else 0 := rfl
  have hci := ctN_in (bitP (k : Int)) i
  unfold b_M_settle_34
  rw [if_pos (by omega), M_has (by omega) (by omega) (by omega), z32_id (z := (i : Int) + 1) (by omega) (by omega), mxF_s, hct]
  by_cases c : bitP (k : Int) i = true
  · have hc0 : ¬ ((k : Int) / ((2 ^ i : Nat) : Int) % 2 = 0) := fun z => by rw [bitP_has.mp z] at c; exact absurd c (by simp)
    have hl := zand_less (n := n) (i := i) (by omega) hi (show 0 ≤ (k : Int) by omega) hk
    have hm := zset2_mn (p := bitP (k : Int)) (n := n) hi
    rw [zset2_bitP (by omega) hk, if_pos c] at hm
    have hb := zset2_lt (p := zmn (bitP (k : Int)) i) (n := n) (by omega)
    have hpi := z_pow i (by omega)
    obtain ⟨s1, s2⟩ := hS (zset2 n (zmn (bitP (k : Int)) i)).toNat (by omega)
    rw [show (((zset2 n (zmn (bitP (k : Int)) i)).toNat : Nat) : Int) = zset2 n (zmn (bitP (k : Int)) i) by omega, bitP_mn (by omega) hk] at s1 s2
    rw [zps_mn, if_pos ⟨hi, c⟩] at s1
    have hz := zps_in (p := bitP (k : Int)) (f := eD T) (c := n) (fun i _ => eD_in hV i) n (Nat.le_refl _)
    have o1 := owesT_in hV i
    have o2 := owedT_in hV i
    have oe : eD T i = owesT T i - owedT T i := rfl
    have hS1 : z32 (z32 (ν 52 (zset2 n (zmn (bitP (k : Int)) i)).toNat + owesT T i) - owedT T i) = zps (bitP (k : Int)) (eD T) n := by
      rw [s1, z32_id (z := zps (bitP (k : Int)) (eD T) n - eD T i + owesT T i) (by omega) (by omega), z32_id (by omega) (by omega)]; omega
    have hr : (0 : Int) ≤ (k : Int) ∧ (k : Int) < 4096 := by omega
    have hr2 : 0 ≤ zset2 n (zmn (bitP (k : Int)) i) ∧ zset2 n (zmn (bitP (k : Int)) i) < 4096 := hb
    have a53 : ∀ x, zst ν 52 k (zps (bitP (k : Int)) (eD T) n) 53 x = ν 53 x := fun x => by rw [zst_p (by omega)]
    rw [if_neg hc0, hl, if_pos hr2, M_owesAll hV hL (by omega) (by omega), z_some_bind, M_owedAll hV hL (by omega) (by omega), z_some_bind, if_pos hr, if_pos hr2, if_pos hr, show ((k : Nat) : Int).toNat = k by omega, hS1, a53, a53, s2, h53, if_pos c, if_pos c]
    have n0 : ¬ ctN (bitP (k : Int)) i + 1 = 0 := by omega
    rw [if_neg n0]
    by_cases d : mxF (bitP (k : Int)) (fun i => wsW (eD T) n (zmn (bitP (k : Int)) i)) i < wsW (eD T) n (zmn (bitP (k : Int)) i)
    · rw [if_pos d, if_pos hr2, if_pos hr]
      exact ⟨_, rfl, zst_out (zst_out zOut_rf (by omega) (by omega)) (by omega) (by omega), zSP_set hS, by rw [zst_p (by omega)]; exact zst_at, by rw [zst_at]; omega⟩
    · rw [if_neg d, if_pos hr, if_pos hr]
      exact ⟨_, rfl, zst_out (zst_out zOut_rf (by omega) (by omega)) (by omega) (by omega), zSP_set hS, by rw [zst_p (by omega)]; exact zst_at, by rw [zst_at]; omega⟩
  · have cf : bitP (k : Int) i = false := by simpa using c
    rw [if_pos (bitP_has.mpr cf), if_neg c, if_neg c, Int.add_zero]
    exact ⟨ν, rfl, zOut_rf, hS, h52, h53⟩
theorem M_settle (hW : IsV (μ 43) T) (hV : VT T) (hn : tot T = (n : Int)) : ∃ κ, f_M_settle μ = some ((n : Int) - wsW (eD T) n (fun j => decide (j < n)), κ) ∧ zOut μ κ 51 53 := by
  have ht := tot_le hV
  have hp := z_pow n (by omega)
  obtain ⟨ν0, f1, f2, f3⟩ := M_layLamps hW hV
  have hWi := wsW_in (eD T) n (fun j => decide (j < n))
  have hcti := ctN_in (fun j => decide (j < n)) n
  have hsh := zshl_1 n (by omega)
  obtain ⟨N, hN⟩ : ∃ N, N = 2 ^ n := ⟨_, rfl⟩
  rw [← hN] at hp hsh
  suffices hq : zQ t_M_settle (e_M_settle μ) (fun r => ∃ ν, r = ((n : Int) - wsW (eD T) n (fun j => decide (j < n)), ν) ∧ zOut μ ν 51 53) by
    obtain ⟨r, g1, ν, g2, g3⟩ := zQ_go hq
    exact ⟨ν, by rw [← g2]; exact g1, g3⟩
  refine zQ_nest (fun k q => ∃ ν, q = .inl ((n : Int), (k : Int), ν) ∧ zOut ν0 ν 52 53 ∧ zSP ν T n k) N (s0 := .inl ((n : Int), 0, ν0)) ?_ ⟨ν0, rfl, zOut_rf, fun r hr => by omega⟩ ?_ ?_
  · unfold e_M_settle
    rw [f1, z_some_bind, M_houses (W_of hW (f3 43 (by omega))) hV, z_some_bind, hn]
  · rintro k _ hk ⟨ν, rfl, q1, q2⟩ hgo
    have hk2 : (k : Int) < ((2 ^ n : Nat) : Int) := by rw [← hN]; omega
    have hr : (0 : Int) ≤ (k : Int) ∧ (k : Int) < 4096 := by omega
    show zQ _ (b_M_settle_11 (n : Int) (k : Int) ν) _
    unfold b_M_settle_11
    rw [hsh, if_pos (by omega), if_pos hr, if_pos hr, show ((k : Nat) : Int).toNat = k by omega]
    refine zQ_for (fun i q => ∃ ν, q = .inr ((n : Int), (k : Int), (i : Int), ν) ∧ zOut ν0 ν 52 53 ∧ zSP ν T n k ∧ ν 52 k = (if ctN (bitP (k : Int)) i = 0 then 0 else zps (bitP (k : Int)) (eD T) n) ∧ ν 53 k = mxF (bitP (k : Int)) (fun i => wsW (eD T) n (zmn (bitP (k : Int)) i)) i) n rfl ⟨_, rfl, zst_out (zst_out q1 (by omega) (by omega)) (by omega) (by omega), zSP_set q2, by rw [zst_p (by omega), zst_at]; rfl, zst_at⟩ ?_ ?_
    · rintro i _ hi ⟨ν, rfl, q1, q2, q3, q4⟩
      obtain ⟨κ, g1, g2, g3, g4, g5⟩ := M_settle34 (k := k) (i := i) hV hn hk2 hi (fun a b ha hb => by rw [q1 51 (by omega)]; exact f2 a b ha hb) q2 q3 q4
      exact ⟨_, g1, κ, rfl, zOut_trans q1 g2, g3, g4, g5⟩
    · rintro _ ⟨ν, rfl, q1, q2, q3, q4⟩
      have hmx : 0 ≤ mxF (bitP (k : Int)) (fun i => wsW (eD T) n (zmn (bitP (k : Int)) i)) n ∧ mxF (bitP (k : Int)) (fun i => wsW (eD T) n (zmn (bitP (k : Int)) i)) n ≤ 12 := ⟨mxF_nn _ _ n, mxF_le (by omega) n (fun j _ _ => by
        have a := wsW_in (eD T) n (zmn (bitP (k : Int)) j)
        have b := ctN_in (zmn (bitP (k : Int)) j) n
        omega)⟩
      show zQ _ (b_M_settle_34 (n : Int) (k : Int) (n : Int) ν) _
      unfold b_M_settle_34
      rw [if_neg (by omega), if_pos hr, if_pos hr, show ((k : Nat) : Int).toNat = k by omega, q3, q4, z32_id (z := (k : Int) + 1) (by omega) (by omega), z32_id (z := mxF (bitP (k : Int)) (fun i => wsW (eD T) n (zmn (bitP (k : Int)) i)) n + 1) (by omega) (by omega), z32_id (z := mxF (bitP (k : Int)) (fun i => wsW (eD T) n (zmn (bitP (k : Int)) i)) n + 0) (by omega) (by omega)]
      have fin : ∀ w : Int, w = wsW (eD T) n (bitP (k : Int)) → ν 52 k = zps (bitP (k : Int)) (eD T) n → zQ t_M_settle (some (.inl (.inl ((n : Int), (k : Int) + 1, zst ν 53 k w)))) (fun r => ∃ ν, r = ((n : Int) - wsW (eD T) n (fun j => decide (j < n)), ν) ∧ zOut μ ν 51 53) := fun w hw h52 => by
        refine hgo _ ⟨zst ν 53 k w, rfl, zst_out q1 (by omega) (by omega), fun r hr => ?_⟩
        by_cases d : r = k
        · subst d
          rw [zst_p (by omega), zst_at, hw]; exact ⟨h52, rfl⟩
        · rw [zst_p (by omega), zst_o (Or.inr d)]; exact q2 r (by omega)
      by_cases k0 : k = 0
      · subst k0
        have hct : ctN (bitP ((0 : Nat) : Int)) n = 0 := (ct_0 (by omega) hk2).mpr rfl
        have hall := ctN_0 _ _ hct
        have hm0 : mxF (bitP ((0 : Nat) : Int)) (fun i => wsW (eD T) n (zmn (bitP ((0 : Nat) : Int)) i)) n = 0 := by
          have := mxF_le (p := bitP ((0 : Nat) : Int)) (h := fun i => wsW (eD T) n (zmn (bitP ((0 : Nat) : Int)) i)) (B := 0) (by omega) n (fun i hi hq => by rw [hall i hi] at hq; exact absurd hq (by simp))
          omega
        rw [if_pos hct] at q3
        rw [if_pos hct, if_pos rfl, if_neg (by omega), if_pos hr]
        exact fin _ (by rw [hm0, wsW_0 hct]; rfl) (by rw [q3, zps_of hall])
      · have hct : ctN (bitP (k : Int)) n ≠ 0 := fun z => k0 (by have := (ct_0 (by omega) hk2).mp z; omega)
        have hws := wsW_s (f := eD T) hct
        rw [if_neg hct] at q3
        rw [if_neg hct]
        by_cases d : zps (bitP (k : Int)) (eD T) n = 0
        · rw [if_pos d] at hws
          rw [if_pos d, if_pos (by omega), if_pos hr]
          exact fin _ hws.symm q3
        · rw [if_neg d] at hws
          rw [if_neg d, if_pos hr]
          exact fin _ hws.symm q3
  · rintro _ ⟨ν, rfl, q1, q2⟩
    have hl := (q2 (N - 1) (by omega)).2
    rw [show ((N - 1 : Nat) : Int) = ((2 ^ n : Nat) : Int) - 1 by omega, bitP_all] at hl
    show zQ _ (b_M_settle_11 (n : Int) (N : Int) ν) _
    unfold b_M_settle_11
    rw [hsh, if_neg (by omega), z32_id (z := (N : Int) - 1) (by omega) (by omega), if_pos (by omega), show ((N : Int) - 1).toNat = N - 1 by omega, hl, z32_id (by omega) (by omega)]
    exact zQ_ret ⟨ν, rfl, zOut_trans (zOut_le f3 (by omega) (by omega)) (zOut_le q1 (by omega) (by omega))⟩
theorem A_settle (h : Rel μ) : zAg (f_X_settle μ) (f_M_settle) := by
  obtain ⟨T, hV, hR, hW⟩ := Rel_T h
  have ht := tot_le hV
  have hN : tot T = ((tot T).toNat : Int) := by omega
  obtain ⟨ν, e1, e2⟩ := X_settle hR hV hN
  obtain ⟨κ, g1, g2⟩ := M_settle (μ := ν) (W_of hW (e2 43 (by omega))) hV hN
  exact ⟨_, ν, e1, κ, g1, Rel_free h (fun o ho => by rw [g2 o (by omega), e2 o (by omega)])⟩
end SF
