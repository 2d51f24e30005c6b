def owesT (T : zT) (i : Int) : Int := zsum (tot T).toNat (fun j => lmF T i j 5)
def owedT (T : zT) (j : Int) : Int := if j < tot T then owF T j 5 else 0
def alT (T : zT) : Int := zsum (tot T).toNat (fun j => owF T j 5)
def IsL (μ : zM) (T : zT) : Prop :=
  μ 16 0 = tot T ∧ μ 16 1 = alT T ∧ (∀ i : Nat, (i : Int) < tot T → μ 17 i = hoT T (twT T i) (syT T i) ∧ μ 18 i = lampsT T (twT T i) (syT T i)) ∧
  (∀ i : Nat, i < 12 → μ 19 i = owesT T i) ∧ (∀ j : Nat, j < 12 → μ 20 j = owedT T j) ∧ ∀ i j : Nat, i < 12 → j < 12 → μ 21 (12 * i + j) = lmT T i j
theorem IsLp_next {μ : zM} {T : zT} {n : Nat} (h : IsLp μ T n 5) (h1 : μ 17 n = hoT T (twT T n) (syT T n)) (h2 : μ 18 n = lampsT T (twT T n) (syT T n)) : IsLp μ T (n + 1) 0 := by
  obtain ⟨l0, l1, l2, l3, l4, l5⟩ := h
  refine ⟨l0, ?_, ?_, ?_, ?_, ?_⟩
  · rw [l1, zsum_s]; unfold owF; rw [zsum_0]; omega
  · intro i hi
    by_cases c : i = n
    · subst c; exact ⟨h1, h2⟩
    · exact l2 i (by omega)
  · intro i hi
    rw [l3 i hi, zsum_s]; unfold lmF; rw [zsum_0]; omega
  · intro j hj
    rw [l4 j hj]
    by_cases c : j < n
    · rw [if_pos c, if_pos (by omega)]
    · by_cases c2 : j = n
      · subst c2; rw [if_neg (by omega), if_pos rfl, if_pos (by omega)]
      · rw [if_neg c, if_neg c2, if_neg (by omega)]
        by_cases c3 : j = n + 1
        · rw [if_pos c3]; unfold owF; rw [zsum_0]
        · rw [if_neg c3]
  · intro i j hi hj
    rw [l5 i j hi hj]
    by_cases c : j < n
    · rw [if_pos c, if_pos (by omega)]
    · by_cases c2 : j = n
      · subst c2; rw [if_neg (by omega), if_pos rfl, if_pos (by omega)]
      · rw [if_neg c, if_neg c2, if_neg (by omega)]
        by_cases c3 : j = n + 1
        · rw [if_pos c3]; unfold lmF; rw [zsum_0]
        · rw [if_neg c3]
theorem IsLp_end {μ : zM} {T : zT} (hV : VT T) (h : IsLp μ T (tot T).toNat 0) : IsL μ T := by
  have ht := tot_le hV
  obtain ⟨l0, l1, l2, l3, l4, l5⟩ := h
  refine ⟨l0, ?_, fun i hi => l2 i (by omega), ?_, ?_, ?_⟩
  · rw [l1]; unfold alT owF; rw [zsum_0]; omega
  · intro i hi
    rw [l3 i hi]; unfold owesT lmF; rw [zsum_0]; omega
  · intro j hj
    rw [l4 j hj]
    unfold owedT
    by_cases c : (j : Int) < tot T
    · rw [if_pos (by omega), if_pos c]
    · rw [if_neg (by omega), if_neg c]
      split
      · unfold owF; rw [zsum_0]
      · rfl
  · intro i j hi hj
    rw [l5 i j hi hj]
    unfold lmT
    by_cases c : (j : Int) < tot T
    · rw [if_pos (by omega), if_pos c]
    · rw [if_neg (by omega), if_neg c]
      split
      · unfold lmF; rw [zsum_0]
      · rfl
theorem zOut_trans {μ ν κ : zM} {a b : Nat} (h1 : zOut μ ν a b) (h2 : zOut ν κ a b) : zOut μ κ a b := fun o ho => (h2 o ho).trans (h1 o ho)
theorem zOut_rf {μ : zM} {a b : Nat} : zOut μ μ a b := fun _ _ => rfl
theorem L_reckonHouse {μ : zM} {o : Nat} {T : zT} (hV : VT T) (ho : o + 2 < 16 ∨ 22 < o) (hR : IsR μ o T) {t s : Int} {n : Nat} (h1 : 0 ≤ s) (h2 : s < hT T t) (hn : numT T t s = n) (hL : IsLp μ T n 0) : ∃ ν, f_L_reckonHouse o t s n μ = some ν ∧ IsLp ν T (n + 1) 0 ∧ zOut μ ν 16 22 := by
  have h3 := hT_pos (show 0 < hT T t by omega)
  have h4 := nT_le hV
  have h5 := hT_le hV t
  have ht := tot_le hV
  have hni := numT_in hV h1 h2
  rw [hn] at hni
  obtain ⟨e1, e2⟩ := tw_num hV h1 h2
  rw [hn] at e1 e2
  have hn2 : ((n : Int)).toNat = n := by omega
  have hsh : ∀ h : Int, shT T t s h = shN T n h := fun h => by unfold shN; rw [e1, e2]
  have hck : cT T t s = ckN T n := by unfold ckN; rw [e1, e2]
  have hR1 : IsR (zst (zst μ 18 n (lampsT T t s)) 17 n 0) o T := IsR_out (a := 16) (b := 22) (zst_out (zst_out zOut_rf (by omega) (by omega)) (by omega) (by omega)) ho hR
  have hdu := dueT_in (ckN T n)
  refine zQ_go (zQ_for (fun k q => q.1 = dueT (ckN T n) ∧ q.2.1 = k ∧ IsLp q.2.2 T n k ∧ zOut μ q.2.2 16 22 ∧ q.2.2 17 n = zset2 k (fun h => decide (shN T n h = -9)) ∧ q.2.2 18 n = lampsT T t s) 5 (s0 := (dueT (ckN T n), 0, zst (zst μ 18 n (lampsT T t s)) 17 n 0)) ?_ ?_ ?_ ?_)
  · unfold e_L_reckonHouse
    rw [L_isNumber hL.1, if_pos (show 0 ≤ (n : Int) ∧ (n : Int) < tot T by omega), if_neg (by omega), R_lampedAbove hR hV h1 h2, z_some_bind, if_pos (by omega), if_pos (by omega), hn2, R_kindAt hR1 hV h1 h2, z_some_bind, L_lampsAnHour, hck]
  · refine ⟨rfl, rfl, ?_, zst_out (zst_out zOut_rf (by omega) (by omega)) (by omega) (by omega), zst_at, by show zst (zst μ 18 n (lampsT T t s)) 17 n 0 18 n = _; rw [zst_o (by omega)]; exact zst_at⟩
    show IsLp (zst (zst μ 18 n (lampsT T t s)) 17 n 0) T n 0
    obtain ⟨l0, l1, l2, l3, l4, l5⟩ := hL
    refine ⟨?_, ?_, ?_, ?_, ?_, ?_⟩
    · rw [zst_o (by omega), zst_o (by omega)]; exact l0
    · rw [zst_o (by omega), zst_o (by omega)]; exact l1
    · intro i hi
      rw [zst_o (by omega), zst_o (by omega), zst_o (by omega), zst_o (by omega)]; exact l2 i hi
    · intro i hi
      rw [zst_o (by omega), zst_o (by omega)]; exact l3 i hi
    · intro i hi
      rw [zst_o (by omega), zst_o (by omega)]; exact l4 i hi
    · intro i j hi hj
      rw [zst_o (by omega), zst_o (by omega)]; exact l5 i j hi hj
  · rintro k ⟨v5, v6, ν⟩ hk ⟨rfl, rfl, q1, q2, q3, q4⟩
    dsimp only at q1 q2 q3 q4
    have hRν := IsR_out q2 ho hR
    have hz := zset2_b (fun h => decide (shN T n h = -9)) k
    have hp := z_pow k (by omega)
    show ∃ t2, b_L_reckonHouse_45 o t s n _ _ ν = some (.inl t2) ∧ _
    unfold b_L_reckonHouse_45
    rw [if_pos (by show ((k : Nat) : Int) < 5; omega), R_shaderOf hRν hV h1 (by omega) h3.1 (by omega) (by show (0 : Int) ≤ (k : Nat); omega) (by show ((k : Nat) : Int) < 5; omega), z_some_bind, hsh]
    by_cases c : shN T n k = -9
    · rw [if_pos c, if_pos (by omega), if_pos (by omega), hn2, q3, zor_add (by omega) hz.1 hz.2, z32_id (by show -2147483648 ≤ ((k : Nat) : Int) + 1; omega) (by show ((k : Nat) : Int) + 1 < 2147483648; omega)]
      refine ⟨_, rfl, rfl, ?_, ?_, zst_out q2 (by omega) (by omega), ?_, by dsimp only; rw [zst_o (by omega)]; exact q4⟩
      · show ((k : Nat) : Int) + 1 = ((k + 1 : Nat) : Int); omega
      · obtain ⟨l0, l1, l2, l3, l4, l5⟩ := q1
        have so : owF T n (k + 1) = owF T n k := by unfold owF; rw [zsum_s, if_pos c]; omega
        have sl : ∀ q : Int, 0 ≤ q → lmF T q n (k + 1) = lmF T q n k := fun q hq => by unfold lmF; rw [zsum_s, if_neg (by omega)]; omega
        dsimp only
        refine ⟨?_, ?_, ?_, ?_, ?_, ?_⟩
        · rw [zst_o (by omega)]; exact l0
        · rw [zst_o (by omega), so]; exact l1
        · intro i hi
          rw [zst_o (by omega), zst_o (by omega)]; exact l2 i hi
        · intro i hi
          rw [zst_o (by omega), sl i (by omega)]; exact l3 i hi
        · intro i hi
          rw [zst_o (by omega), l4 i hi]
          by_cases c2 : i = n
          · subst c2; rw [so]
          · rw [if_neg c2, if_neg c2]
        · intro i j hi hj
          rw [zst_o (by omega), l5 i j hi hj]
          by_cases c2 : j = n
          · subst c2; rw [sl i (by omega)]
          · rw [if_neg c2, if_neg c2]
      · show zst ν 17 n _ 17 n = _
        rw [zst_at, zset2_s, if_pos (by simpa using c)]
    · rw [if_neg c]
      have hsi := shT_in hV (twT T n) (syT T n) k
      have hsi2 : 0 ≤ shN T n k ∧ shN T n k < tot T := by
        rcases hsi with e | e
        · exact absurd e c
        · exact e
      obtain ⟨κ, g1, g2, g3, g4, g5⟩ := L_charge hV q1 hni.2 hk hsi2
      rw [g1, z_some_bind, z32_id (by show -2147483648 ≤ ((k : Nat) : Int) + 1; omega) (by show ((k : Nat) : Int) + 1 < 2147483648; omega)]
      refine ⟨_, rfl, rfl, ?_, g2, zOut_trans q2 g3, ?_, ?_⟩
      · show ((k : Nat) : Int) + 1 = ((k + 1 : Nat) : Int); omega
      · show κ 17 n = _
        rw [g4, q3, zset2_s, if_neg (by simpa using c)]; omega
      · show κ 18 n = _
        rw [g5]; exact q4
  · rintro ⟨v5, v6, ν⟩ ⟨rfl, rfl, q1, q2, q3, q4⟩
    dsimp only at q1 q2 q3 q4
    show zQ _ (b_L_reckonHouse_45 o t s n _ _ ν) _
    unfold b_L_reckonHouse_45
    rw [if_neg (by show ¬ ((5 : Nat) : Int) < 5; omega)]
    refine zQ_ret ⟨IsLp_next q1 ?_ ?_, q2⟩
    · rw [q3]; rfl
    · rw [e1, e2]; exact q4
def zfillp (μ : zM) (o k : Nat) (v : Int) : zM := fun p q => if p = o ∧ q < k then v else μ p q
theorem L_reckon {μ : zM} {o : Nat} {T : zT} (hV : VT T) (ho : o + 2 < 16 ∨ 22 < o) (hR : IsR μ o T) : ∃ ν, f_L_reckon o μ = some ν ∧ IsL ν T ∧ zOut μ ν 16 22 := by
  have h4 := nT_le hV
  have h5 := nT_nn T
  have ht := tot_le hV
  refine zQ_go (zQ_for (fun k q => ∃ ν, q = .inl ((k : Int), ν) ∧ ν 16 0 = tot T ∧ ν 16 1 = 0 ∧ (∀ i : Nat, i < k → ν 19 i = 0 ∧ ν 20 i = 0) ∧ zOut μ ν 16 22) 12 (s0 := .inl (0, zst (zst μ 16 0 (tot T)) 16 1 0)) ?_ ?_ ?_ ?_)
  · unfold e_L_reckon f_R_houseCount
    rw [hR.2.1, show min (tot T) 12 = tot T by omega]
  · exact ⟨zst (zst μ 16 0 (tot T)) 16 1 0, rfl, by rw [zst_o (by omega)]; exact zst_at, zst_at, fun i hi => by omega, zst_out (zst_out zOut_rf (by omega) (by omega)) (by omega) (by omega)⟩
  · rintro k _ hk ⟨ν, rfl, q1, q2, q3, q4⟩
    show ∃ t2, b_L_reckon_20 o _ ν = some (.inl t2) ∧ _
    unfold b_L_reckon_20
    rw [if_pos (by show ((k : Nat) : Int) < 12; omega), if_pos (by omega), if_pos (by omega), z32_id (by omega) (by omega), show ((k : Nat) : Int).toNat = k by omega]
    refine ⟨_, rfl, _, rfl, ?_, ?_, ?_, zst_out (zst_out q4 (by omega) (by omega)) (by omega) (by omega)⟩
    · rw [zst_o (by omega), zst_o (by omega)]; exact q1
    · rw [zst_o (by omega), zst_o (by omega)]; exact q2
    · intro i hi
      by_cases c : i = k
      · subst c; exact ⟨by rw [zst_o (by omega)]; exact zst_at, zst_at⟩
      · rw [zst_o (by omega), zst_o (Or.inr c), zst_o (Or.inr c), zst_o (by omega)]
        exact q3 i (by omega)
  · rintro _ ⟨ν, rfl, q1, q2, q3, q4⟩
    show zQ _ (b_L_reckon_20 o _ ν) _
    unfold b_L_reckon_20
    rw [if_neg (by show ¬ ((12 : Nat) : Int) < 12; omega)]
    refine zQ_for (fun k q => ∃ κ, q = .inr (.inl ((k : Int), κ)) ∧ κ 16 0 = tot T ∧ κ 16 1 = 0 ∧ (∀ i : Nat, i < 12 → κ 19 i = 0 ∧ κ 20 i = 0) ∧ (∀ i : Nat, i < k → κ 21 i = 0) ∧ zOut μ κ 16 22) 144 (s0 := .inr (.inl (0, ν))) rfl ⟨ν, rfl, q1, q2, q3, fun i hi => by omega, q4⟩ ?_ ?_
    · rintro k _ hk ⟨κ, rfl, w1, w2, w3, w4, w5⟩
      show ∃ t2, b_L_reckon_48 o _ κ = some (.inl t2) ∧ _
      unfold b_L_reckon_48
      rw [if_pos (by show ((k : Nat) : Int) < 144; omega), if_pos (by omega), z32_id (by omega) (by omega), show ((k : Nat) : Int).toNat = k by omega]
      refine ⟨_, rfl, _, rfl, ?_, ?_, ?_, ?_, zst_out w5 (by omega) (by omega)⟩
      · rw [zst_o (by omega)]; exact w1
      · rw [zst_o (by omega)]; exact w2
      · intro i hi
        rw [zst_o (by omega), zst_o (by omega)]; exact w3 i hi
      · intro i hi
        by_cases c : i = k
        · subst c; exact zst_at
        · rw [zst_o (Or.inr c)]; exact w4 i (by omega)
    · rintro _ ⟨κ, rfl, w1, w2, w3, w4, w5⟩
      show zQ _ (b_L_reckon_48 o _ κ) _
      unfold b_L_reckon_48
      rw [if_neg (by show ¬ ((144 : Nat) : Int) < 144; omega)]
      refine zQ_nest (fun k q => ∃ κ, q = .inr (.inr (.inl (numT T k 0, (k : Int), κ))) ∧ IsLp κ T (numT T k 0).toNat 0 ∧ zOut μ κ 16 22) (nT T).toNat (s0 := .inr (.inr (.inl (0, 0, κ)))) rfl ⟨κ, rfl, ?_, w5⟩ ?_ ?_
      · refine ⟨w1, ?_, fun i hi => ?_, fun i hi => ?_, fun j hj => ?_, fun i j hi hj => ?_⟩
        · rw [w2]; rfl
        · exact absurd hi (by show ¬ i < 0; omega)
        · rw [(w3 i hi).1]; rfl
        · rw [(w3 j hj).2, if_neg (by show ¬ j < 0; omega)]
          split
          · rfl
          · rfl
        · rw [w4 (12 * i + j) (by omega), if_neg (by show ¬ j < 0; omega)]
          split
          · rfl
          · rfl
      · rintro k _ hk ⟨ι, rfl, p1, p2⟩ hgo
        have hnk : 0 ≤ numT T k 0 := by unfold numT; have := zsum_nn (n := ((k : Nat) : Int).toNat) (f := fun j => hT T j) (fun j _ => hT_nn T j); omega
        have hh := hT_le hV k
        have hh0 := hT_nn T k
        have hend := numT_next (T := T) (t := k) (by omega)
        have hRι := IsR_out p2 ho hR
        show zQ _ (b_L_reckon_74 o (numT T k 0) (k : Int) ι) _
        unfold b_L_reckon_74 f_R_towerCount
        rw [hRι.1, if_pos (by omega)]
        refine zQ_for (fun m q => ∃ κ, q = .inr (.inr (.inr (numT T k m, (k : Int), (m : Int), κ))) ∧ IsLp κ T (numT T k m).toNat 0 ∧ zOut μ κ 16 22) (hT T k).toNat (s0 := .inr (.inr (.inr (numT T k 0, (k : Int), 0, ι)))) rfl ⟨ι, rfl, p1, p2⟩ ?_ ?_
        · rintro m _ hm ⟨κ, rfl, r1, r2⟩
          have hRκ := IsR_out r2 ho hR
          have hni := numT_in hV (t := k) (s := m) (by omega) (by omega)
          show ∃ t2, b_L_reckon_85 o (numT T k m) (k : Int) (m : Int) κ = some (.inl t2) ∧ _
          unfold b_L_reckon_85
          obtain ⟨θ, g1, g2, g3⟩ := L_reckonHouse hV ho hRκ (t := k) (s := m) (n := (numT T k m).toNat) (by omega) (by omega) (by omega) r1
          rw [show (((numT T k m).toNat : Nat) : Int) = numT T k m by omega] at g1
          rw [R_heightOf hRκ hV, z_some_bind, if_pos (by omega), g1, z_some_bind, z32_id (by omega) (by omega), z32_id (by omega) (by omega)]
          have e : numT T k m + 1 = numT T k ((m + 1 : Nat) : Int) := by rw [numT_s, numT_s (s := ((m + 1 : Nat) : Int))]; omega
          refine ⟨_, rfl, θ, ?_, ?_, zOut_trans r2 g3⟩
          · rw [e]; rfl
          · rw [show (numT T k ((m + 1 : Nat) : Int)).toNat = (numT T k m).toNat + 1 by omega]
            exact g2
        · rintro _ ⟨κ, rfl, r1, r2⟩
          have hRκ := IsR_out r2 ho hR
          show zQ _ (b_L_reckon_85 o (numT T k ((hT T k).toNat : Int)) (k : Int) ((hT T k).toNat : Int) κ) _
          unfold b_L_reckon_85
          rw [R_heightOf hRκ hV, z_some_bind, if_neg (by omega), z32_id (by omega) (by omega)]
          refine hgo _ ⟨κ, ?_, ?_, r2⟩
          · rw [show ((k + 1 : Nat) : Int) = (k : Int) + 1 by omega, hend, show (((hT T k).toNat : Nat) : Int) = hT T k by omega]
          · rw [show ((k + 1 : Nat) : Int) = (k : Int) + 1 by omega, hend]
            rw [show (((hT T k).toNat : Nat) : Int) = hT T k by omega] at r1
            exact r1
      · rintro _ ⟨ι, rfl, p1, p2⟩
        have hRι := IsR_out p2 ho hR
        show zQ _ (b_L_reckon_74 o (numT T ((nT T).toNat : Int) 0) ((nT T).toNat : Int) ι) _
        unfold b_L_reckon_74 f_R_towerCount
        rw [hRι.1, if_neg (by omega)]
        rw [show (((nT T).toNat : Nat) : Int) = nT T by omega, tot_num hV] at p1
        exact zQ_ret ⟨IsLp_end hV p1, p2⟩
