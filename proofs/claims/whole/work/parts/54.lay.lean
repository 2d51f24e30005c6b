/-! the model lays its lamps -/
def IsLq (μ : zM) (T : zT) (n m : Nat) : Prop := ∀ i j : Nat, i < 12 → j < 12 → μ 51 (12 * i + j) = if j < n then lmF T i j 5 else if j = n then lmF T i n m else 0
theorem IsLq_in {μ : zM} {T : zT} {n m i j : Nat} (h : IsLq μ T n m) (hi : i < 12) (hj : j < 12) (hm : m ≤ 5) : 0 ≤ μ 51 (12 * i + j) ∧ μ 51 (12 * i + j) ≤ 10 := by
  rw [h i j hi hj]
  have h1 := lmF_in T i j 5
  have h2 := lmF_in T i n m
  repeat' split
  all_goals omega
theorem IsLq_next {μ : zM} {T : zT} {n : Nat} (h : IsLq μ T n 5) : IsLq μ T (n + 1) 0 := by
  intro i j hi hj
  rw [h i j hi hj]
  by_cases c : j < n
  · rw [if_pos c, if_pos (by omega)]
  · rw [if_neg c]
    by_cases c2 : j = n
    · subst c2; rw [if_pos rfl, if_pos (by omega)]
    · rw [if_neg c2, if_neg (by omega)]
      split
      · unfold lmF; rw [zsum_0]
      · rfl
theorem IsLq_end {μ : zM} {T : zT} (hV : VT T) (h : IsLq μ T (tot T).toNat 0) : ∀ i j : Nat, i < 12 → j < 12 → μ 51 (12 * i + j) = lmT T i j := by
  intro i j hi hj
  have ht := tot_le hV
  rw [h i j hi hj]
  unfold lmT
  by_cases c : (j : Int) < tot T
  · rw [if_pos (by omega), if_pos c]
  · rw [if_neg (by omega), if_neg c]
    split
    · unfold lmF; rw [zsum_0]
    · rfl
theorem IsV_out {μ ν : zM} {T : zT} {b : Nat} (h : ν 43 = μ 43) (hV : IsV (fun k => μ 43 (b + k)) T) : IsV (fun k => ν 43 (b + k)) T := by rw [h]; exact hV
theorem M_layLamps {μ : zM} {T : zT} (hW : IsV (μ 43) T) (hV : VT T) : ∃ ν, f_M_layLamps μ = some ν ∧ (∀ i j : Nat, i < 12 → j < 12 → ν 51 (12 * i + j) = lmT T i j) ∧ zOut μ ν 51 51 := by
  have ht := tot_le hV
  have hn := nT_le hV
  refine zQ_go (zQ_for (fun k q => ∃ ν, q = .inl ((k : Int), ν) ∧ (∀ c : Nat, c < k → ν 51 c = 0) ∧ zOut μ ν 51 51) 144 (s0 := .inl (0, μ)) rfl ⟨μ, rfl, fun c hc => by omega, zOut_rf⟩ ?_ ?_)
  · rintro k _ hk ⟨ν, rfl, w1, w2⟩
    show ∃ t, b_M_layLamps_2 (k : Int) ν = some (.inl t) ∧ _
    unfold b_M_layLamps_2
    rw [if_pos (by omega), if_pos (by omega), z32_id (by omega) (by omega), show ((k : Nat) : Int).toNat = k by omega]
    refine ⟨_, rfl, _, rfl, fun c hc => ?_, zst_out w2 (by omega) (by omega)⟩
    by_cases d : c = k
    · subst d; exact zst_at
    · rw [zst_o (Or.inr d)]; exact w1 c (by omega)
  · rintro _ ⟨ν, rfl, w1, w2⟩
    show zQ _ (b_M_layLamps_2 ((144 : Nat) : Int) ν) _
    unfold b_M_layLamps_2
    rw [if_neg (by omega)]
    refine zQ_nest (fun n q => ∃ κ, q = .inr (.inl ((n : Int), κ)) ∧ IsLq κ T n 0 ∧ zOut μ κ 51 51) (tot T).toNat (s0 := .inr (.inl (0, ν))) rfl ⟨ν, rfl, fun i j hi hj => ?_, w2⟩ ?_ ?_
    · rw [w1 _ (by omega), if_neg (by omega)]
      split
      · rfl
      · rfl
    · rintro n _ hn2 ⟨κ, rfl, q1, q2⟩ hgo
      have hWκ : IsV (κ 43) T := by rw [q2 43 (by omega)]; exact hW
      obtain ⟨a1, a2, a3, a4, a5⟩ := num_tw hV (i := n) (by omega) (by omega)
      have key : zQ t_M_layLamps (some (.inl (.inr (.inr ((n : Int), twT T n, syT T n, dueT (ckN T n), 0, κ))))) (fun ν => (∀ i j : Nat, i < 12 → j < 12 → ν 51 (12 * i + j) = lmT T i j) ∧ zOut μ ν 51 51) := by
        refine zQ_for (fun m q => ∃ ι, q = .inr (.inr ((n : Int), twT T n, syT T n, dueT (ckN T n), (m : Int), ι)) ∧ IsLq ι T n m ∧ zOut μ ι 51 51) 5 rfl ⟨κ, rfl, q1, q2⟩ ?_ ?_
        · rintro m _ hm ⟨ι, rfl, p1, p2⟩
          have hWι : IsV (ι 43) T := by rw [p2 43 (by omega)]; exact hW
          have h6 := hT_le hV (twT T n)
          have hdu := dueT_in (ckN T n)
          have hsh := shT_in hV (twT T n) (syT T n) m
          show ∃ t, b_M_layLamps_78 (n : Int) (twT T n) (syT T n) (dueT (ckN T n)) (m : Int) ι = some (.inl t) ∧ _
          unfold b_M_layLamps_78
          rw [if_pos (by omega), M_shader hWι hV a3 (by omega) a1 (by omega) (by omega) (by omega), z_some_bind]
          by_cases c : shT T (twT T n) (syT T n) m = -9
          · have hz : 0 ≤ ι 51 0 ∧ ι 51 0 ≤ 10 := IsLq_in (i := 0) (j := 0) p1 (by omega) (by omega) (by omega)
            have e : ∀ i : Nat, lmF T i n (m + 1) = lmF T i n m := fun i => by unfold lmF; rw [zsum_s, if_neg (by unfold shN; omega)]; omega
            rw [if_pos c]
            unfold j_M_layLamps_116
            rw [if_pos (by omega), if_pos c, if_pos (by omega), z32_id (z := (m : Int) + 1) (by omega) (by omega), show ((0 : Int)).toNat = 0 from rfl, Int.add_zero, z32_id (z := ι 51 0) (by omega) (by omega)]
            refine ⟨_, rfl, _, rfl, fun i j hi hj => ?_, zst_out p2 (by omega) (by omega)⟩
            rw [e, ← p1 i j hi hj]
            by_cases d : 12 * i + j = 0
            · rw [d, zst_at]
            · rw [zst_o (Or.inr d)]
          · rw [if_neg c]
            have hs2 : 0 ≤ shT T (twT T n) (syT T n) m ∧ shT T (twT T n) (syT T n) m < tot T := by
              rcases hsh with h | h
              · exact absurd h c
              · exact h
            unfold j_M_layLamps_116
            obtain ⟨p, hp⟩ := Int.eq_ofNat_of_zero_le hs2.1
            have hz := IsLq_in (i := p) (j := n) p1 (by omega) (by omega) (by omega)
            rw [hp, z32_id (z := 12 * (p : Int)) (by omega) (by omega), z32_id (z := 12 * (p : Int) + n) (by omega) (by omega), if_pos (by omega), if_neg (by omega), if_pos (by omega), z32_id (z := (m : Int) + 1) (by omega) (by omega), show ((12 * (p : Int) + n)).toNat = 12 * p + n by omega, z32_id (by omega) (by omega)]
            refine ⟨_, rfl, _, rfl, fun i j hi hj => ?_, zst_out p2 (by omega) (by omega)⟩
            by_cases d : 12 * i + j = 12 * p + n
            · have d1 : i = p := by omega
              have d2 : j = n := by omega
              subst d1; subst d2
              rw [zst_at, p1 i j hi hj, if_neg (by omega), if_pos rfl, if_neg (by omega), if_pos rfl]
              unfold lmF
              rw [zsum_s, if_pos (by unfold shN; exact hp)]
            · rw [zst_o (Or.inr d), p1 i j hi hj]
              by_cases d2 : j = n
              · subst d2
                rw [if_neg (by omega), if_pos rfl, if_neg (by omega), if_pos rfl]
                unfold lmF
                rw [zsum_s, if_neg (by unfold shN; omega)]; omega
              · rw [if_neg d2, if_neg d2]
        · rintro _ ⟨ι, rfl, p1, p2⟩
          show zQ _ (b_M_layLamps_78 (n : Int) (twT T n) (syT T n) (dueT (ckN T n)) ((5 : Nat) : Int) ι) _
          unfold b_M_layLamps_78
          rw [if_neg (by omega), z32_id (by omega) (by omega)]
          exact hgo _ ⟨ι, rfl, IsLq_next p1, p2⟩
      show zQ _ (b_M_layLamps_24 (n : Int) κ) _
      unfold b_M_layLamps_24
      rw [M_houses hWκ hV, z_some_bind, if_pos (by omega), M_towerOf hWκ hV (by omega) (by omega), z_some_bind, M_storeyOf hWκ hV (by omega) (by omega), z_some_bind, M_kindAt hWκ hV a3 a4, z_some_bind, z_some_bind]
      unfold ckN dueT at key
      by_cases c3 : cT T (twT T n) (syT T n) = 3
      · rw [if_neg (by omega), if_pos c3] at key
        rw [if_pos c3]; exact key
      · rw [if_neg c3]
        by_cases c4 : cT T (twT T n) (syT T n) = 4
        · rw [if_pos c4] at key
          rw [if_pos c4]; exact key
        · rw [if_neg c4, if_neg c3] at key
          rw [if_neg c4]; exact key
    · rintro _ ⟨κ, rfl, q1, q2⟩
      have hWκ : IsV (κ 43) T := by rw [q2 43 (by omega)]; exact hW
      show zQ _ (b_M_layLamps_24 (((tot T).toNat : Nat) : Int) κ) _
      unfold b_M_layLamps_24
      rw [M_houses hWκ hV, z_some_bind, if_neg (by omega)]
      exact zQ_ret ⟨IsLq_end hV q1, q2⟩
section LY
variable {μ : zM} {T : zT} {n : Int}
theorem M_owesAll (hV : VT T) (hL : ∀ i j : Nat, i < 12 → j < 12 → μ 51 (12 * i + j) = lmT T i j) (h1 : 0 ≤ n) (h2 : n < tot T) : f_M_owesAll n μ = some (owesT T n) := by
  have ht := tot_le hV
  rw [← owes_12 hV]
  refine zE_go (zE_for (fun k => (zsum k (fun j => lmT T n j), (k : Int))) 12 rfl (fun k hk => ?_) ?_)
  · have b1 : 0 ≤ zsum k (fun j => lmT T n j) ∧ zsum k (fun j => lmT T n j) ≤ 10 * k := ⟨zsum_nn (fun j _ => (lmT_in T _ _).1), zsum_le (fun j _ => (lmT_in T _ _).2)⟩
    have b2 := lmT_in T n k
    have e := hL n.toNat k (by omega) hk
    rw [show ((n.toNat : Nat) : Int) = n by omega] at e
    show b_M_owesAll_4 n (zsum k (fun j => lmT T n j)) (k : Int) μ = _
    unfold b_M_owesAll_4
    rw [if_pos (by omega), z32_id (z := 12 * n) (by omega) (by omega), z32_id (z := 12 * n + k) (by omega) (by omega), if_pos (by omega), show (12 * n + (k : Int)).toNat = 12 * n.toNat + k by omega, e, z32_id (by omega) (by omega), z32_id (by omega) (by omega), zsum_s]
    rfl
  · show zE _ (b_M_owesAll_4 n (zsum 12 (fun j => lmT T n j)) ((12 : Nat) : Int) μ) _
    unfold b_M_owesAll_4
    rw [if_neg (by omega)]
    exact zE_ret
theorem M_owedAll (hV : VT T) (hL : ∀ i j : Nat, i < 12 → j < 12 → μ 51 (12 * i + j) = lmT T i j) (h1 : 0 ≤ n) (h2 : n < tot T) : f_M_owedAll n μ = some (owedT T n) := by
  have ht := tot_le hV
  rw [← owed_12 hV]
  refine zE_go (zE_for (fun k => (zsum k (fun j => lmT T j n), (k : Int))) 12 rfl (fun k hk => ?_) ?_)
  · have b1 : 0 ≤ zsum k (fun j => lmT T j n) ∧ zsum k (fun j => lmT T j n) ≤ 10 * k := ⟨zsum_nn (fun j _ => (lmT_in T _ _).1), zsum_le (fun j _ => (lmT_in T _ _).2)⟩
    have b2 := lmT_in T k n
    have e := hL k n.toNat hk (by omega)
    rw [show ((n.toNat : Nat) : Int) = n by omega] at e
    show b_M_owedAll_4 n (zsum k (fun j => lmT T j n)) (k : Int) μ = _
    unfold b_M_owedAll_4
    rw [if_pos (by omega), z32_id (z := 12 * (k : Int)) (by omega) (by omega), z32_id (z := 12 * (k : Int) + n) (by omega) (by omega), if_pos (by omega), show (12 * (k : Int) + n).toNat = 12 * k + n.toNat by omega, e, z32_id (by omega) (by omega), z32_id (by omega) (by omega), zsum_s]
    rfl
  · show zE _ (b_M_owedAll_4 n (zsum 12 (fun j => lmT T j n)) ((12 : Nat) : Int) μ) _
    unfold b_M_owedAll_4
    rw [if_neg (by omega)]
    exact zE_ret
theorem M_allLamps (hW : IsV (μ 43) T) (hV : VT T) : ∃ q, f_M_allLamps μ = some q ∧ q.1 = alT T ∧ (∀ i j : Nat, i < 12 → j < 12 → q.2 51 (12 * i + j) = lmT T i j) ∧ zOut μ q.2 51 51 := by
  obtain ⟨ν, e1, e2, e3⟩ := M_layLamps hW hV
  have hin : ∀ c : Nat, c < 144 → 0 ≤ ν 51 c ∧ ν 51 c ≤ 10 := by
    intro c hc
    have := e2 (c / 12) (c % 12) (by omega) (by omega)
    rw [show 12 * (c / 12) + c % 12 = c by omega] at this
    rw [this]; exact lmT_in T _ _
  refine zQ_go (zQ_for (fun k q => q = (zsum k (fun c => ν 51 c), (k : Int), ν)) 144 (s0 := (0, 0, ν)) ?_ rfl ?_ ?_)
  · unfold e_M_allLamps
    rw [e1]; rfl
  · rintro k _ hk rfl
    have b1 : 0 ≤ zsum k (fun c => ν 51 c) ∧ zsum k (fun c => ν 51 c) ≤ 10 * k := ⟨zsum_nn (fun j hj => (hin j (by omega)).1), zsum_le (fun j hj => (hin j (by omega)).2)⟩
    have b2 := hin k hk
    refine ⟨(zsum (k + 1) (fun c => ν 51 c), ((k + 1 : Nat) : Int), ν), ?_, rfl⟩
    show b_M_allLamps_8 (zsum k (fun c => ν 51 c)) (k : Int) ν = _
    unfold b_M_allLamps_8
    rw [if_pos (by omega), if_pos (by omega), show ((k : Nat) : Int).toNat = k by omega, z32_id (by omega) (by omega), z32_id (by omega) (by omega), zsum_s]
    rfl
  · rintro _ rfl
    show zQ _ (b_M_allLamps_8 (zsum 144 (fun c => ν 51 c)) ((144 : Nat) : Int) ν) _
    unfold b_M_allLamps_8
    rw [if_neg (by omega)]
    exact zQ_ret ⟨al_144 hV e2, e2, e3⟩
end LY
