/-! both, the model's side -/
def boL (T : zT) (k l b : Int) (N i : Nat) : Int × Int := boI T k l b ((i / N : Nat) : Int) (boT T k l b (i / N)) (i % N)
theorem z_dm {N : Nat} (h1 : 1 ≤ N) (h2 : N ≤ 5) (i : Nat) : (i : Int) / (N : Int) = ((i / N : Nat) : Int) ∧ (i : Int) % (N : Int) = ((i % N : Nat) : Int) ∧ i % N < N ∧ (i < N * N → i / N < N) ∧ (i % N + 1 = N → (i + 1) / N = i / N + 1 ∧ (i + 1) % N = 0) ∧ (i % N + 1 ≠ N → (i + 1) / N = i / N ∧ (i + 1) % N = i % N + 1) := by
  have : N = 1 ∨ N = 2 ∨ N = 3 ∨ N = 4 ∨ N = 5 := by omega
  rcases this with rfl | rfl | rfl | rfl | rfl <;> omega
theorem z_sq {N : Nat} (h2 : N ≤ 5) : N * N ≤ 25 ∧ (N : Int) * (N : Int) = ((N * N : Nat) : Int) := by
  have : N = 0 ∨ N = 1 ∨ N = 2 ∨ N = 3 ∨ N = 4 ∨ N = 5 := by omega
  rcases this with rfl | rfl | rfl | rfl | rfl | rfl <;> exact ⟨by omega, rfl⟩
theorem boL_s {T : zT} {k l b : Int} {N : Nat} (hN : nT T = (N : Int)) (h1 : 1 ≤ N) (h2 : N ≤ 5) (i : Nat) : boL T k l b N (i + 1) = boS T k l b ((i / N : Nat) : Int) ((i % N : Nat) : Int) (boL T k l b N i) := by
  obtain ⟨_, _, _, _, a, c⟩ := z_dm h1 h2 i
  unfold boL
  by_cases e : i % N + 1 = N
  · rw [(a e).1, (a e).2]
    show boT T k l b (i / N + 1) = _
    show boI T k l b ((i / N : Nat) : Int) (boT T k l b (i / N)) (nT T).toNat = _
    rw [hN, show ((N : Int)).toNat = i % N + 1 by omega]; rfl
  · rw [(c e).1, (c e).2]; rfl
section BO2
variable {μ : zM} {T : zT} {k l b : Int}
theorem M_both (hW : IsV (μ 43) T) (hV : VT T) (hk : 0 ≤ k ∧ k < 6) (hl : 0 ≤ l ∧ l < 6) (hb : 0 ≤ b ∧ b < 10) (h0 : nT T ≠ 0) : ∃ κ, zRest μ κ ∧ f_M_both k l b μ = some ((boT T k l b (nT T).toNat).1, if (boT T k l b (nT T).toNat).1 = -9 then κ else zst κ 42 10 (boT T k l b (nT T).toNat).2) := by
  have hn := nT_le hV
  have hn0 := nT_nn T
  obtain ⟨N, hN⟩ := Int.eq_ofNat_of_zero_le hn0
  have N1 : 1 ≤ N := by omega
  have N5 : N ≤ 5 := by omega
  have hsq := z_sq N5
  obtain ⟨ν0, e1, e2⟩ := M_lays (μ := μ)
  rw [show (nT T).toNat = N by omega]
  have eE : boL T k l b N (N * N) = boT T k l b N := by
    unfold boL
    rw [Nat.mul_div_cancel _ (by omega), Nat.mul_mod_right]; rfl
  rw [← eE]
  suffices hq : zQ (t_M_both k l b) (e_M_both k l b μ) (fun r => ∃ ν, zRest μ ν ∧ r = ((boL T k l b N (N * N)).1, if (boL T k l b N (N * N)).1 = -9 then ν else zst ν 42 10 (boL T k l b N (N * N)).2)) by
    obtain ⟨r, g1, ν, g2, g3⟩ := zQ_go hq
    exact ⟨ν, g2, by rw [← g3]; exact g1⟩
  refine zQ_for (fun i q => ∃ ν, q = ((boL T k l b N i).1, (if (boL T k l b N i).1 = -9 then 1000000 else (boL T k l b N i).2), (i : Int), ν) ∧ zRest μ ν) (N * N) (s0 := (-9, 1000000, 0, ν0)) ?_ ⟨ν0, by unfold boL; rw [Nat.zero_div, Nat.zero_mod]; rfl, e2⟩ ?_ ?_
  · unfold e_M_both f_M_isNone f_M_isKind
    rw [M_in, z_if1 (by omega), M_in, z_if1 (by omega), M_in, z_if1 (by omega), hW.1, z_if0 h0, e1]; rfl
  · rintro i _ hi ⟨ν, rfl, q1⟩
    have hWν := zRest_W q1 hV hW
    obtain ⟨d1, d2, d3, d4, _, _⟩ := z_dm N1 N5 i
    have d5 := d4 hi
    have hok : boOk (boL T k l b N i) := boI_ok hV hk hl hb (Int.natCast_nonneg _) (by omega) (boT_ok hV hk hl hb _ (by omega)) _ (by omega)
    show ∃ s, b_M_both_53 k l b (boL T k l b N i).1 (if (boL T k l b N i).1 = -9 then 1000000 else (boL T k l b N i).2) (i : Int) ν = some (.inl s) ∧ _
    rw [boL_s hN N1 N5 i]
    have W0 : IsV (ν 43) T := hWν
    unfold b_M_both_53
    rw [hWν.1, hN, hsq.2, z32_id (z := ((N * N : Nat) : Int)) (by omega) (by omega), if_pos (by omega), if_pos (by omega), if_pos (by omega), zdiv_n (by omega) (by omega) (by omega) (by omega), zrem_n (by omega) (by omega) (by omega) (by omega), d1, d2, z32_id (z := (i : Int) + 1) (by omega) (by omega)]
    generalize i / N = t at d5 ⊢
    generalize i % N = u at d3 ⊢
    generalize boL T k l b N i = q at hok ⊢
    have ei : ((i + 1 : Nat) : Int) = (i : Int) + 1 := by omega
    unfold boS
    rw [M_hasRoom hWν hV (by omega) (by omega), z_some_bind]
    by_cases c : hT T t < 6 ∧ tot T < 12
    · have hW0 : IsV (zAt ν 0) T := by rw [zAt_0]; exact hWν
      obtain ⟨κ, f1, f2, f3, _⟩ := M_adds (b := 0) (t := t) (k := k) (a := b) (by omega) hW0 hV (by omega) (by omega) c.1 hk.1 hb.1
      have hV1 := addT_V hV (t := t) (by omega) (by omega) c.1 c.2 hk hb
      have hN1 : nT (addT T t k b) = nT T := addT_n
      have f1' : f_M_adds 0 (t : Int) k b ν = some κ := f1
      have hH := zHeld_43 q1.1 f3
      have f2k : IsV (κ 43) (addT T t k b) := by rw [zAt_0] at f2; exact f2
      rw [z_if1 c, f1', z_some_bind, M_hasRoom f2k hV1 (by omega) (by omega), z_some_bind, if_pos c]
      by_cases d : hT (addT T t k b) u < 6 ∧ tot (addT T t k b) < 12
      · obtain ⟨κ2, g1, g2, g3, _⟩ := M_adds (b := 0) (t := u) (k := l) (a := b) (by omega) f2 hV1 (by omega) (by omega) d.1 hl.1 hb.1
        have hV2 := addT_V hV1 (t := u) (by omega) (by omega) d.1 d.2 hl hb
        have ha := alT_in hV2
        rw [zAt_0] at g2
        have g1' : f_M_adds 0 (u : Int) l b κ = some κ2 := g1
        have hH2 := zHeld_43 hH g3
        rw [z_if1 d, g1', z_some_bind, M_try g2 hV2 (fun a m => j_M_both_145 k l b q.1 (if q.1 = -9 then 1000000 else q.2) (i : Int) (t : Int) (u : Int) a m), if_pos d]
        by_cases e : stT (addT (addT T t k b) u l b) = true
        · obtain ⟨⟨al, ι⟩, i1, i2, _, i4⟩ := M_allLamps g2 hV2
          dsimp only at i2 i4
          subst i2
          obtain ⟨θ, j1, j2⟩ := M_putsBack (zHeld_51 hH2 i4)
          rw [if_pos e, i1, z_some_bind, if_pos e]
          unfold j_M_both_145 j_M_both_167
          rw [j1, z_some_bind, z_some_bind, z32_id (z := (i : Int) + 1) (by omega) (by omega), z32_id (z := 10 * (t : Int)) (by omega) (by omega), z32_id (z := 10 * (t : Int) + u) (by omega) (by omega)]
          by_cases f : q.1 = -9
          · rw [if_pos f, if_pos f, if_pos (by omega), if_pos (by omega)]
            refine ⟨_, rfl, θ, ?_, j2⟩
            rw [if_neg (by omega), ei]
          · rw [if_neg f, if_neg f]
            by_cases g : alT (addT (addT T t k b) u l b) < q.2
            · rw [if_pos g, if_pos g, if_pos g]
              refine ⟨_, rfl, θ, ?_, j2⟩
              rw [if_neg (by omega), ei]
            · rw [if_neg g, if_neg g, if_neg g]
              refine ⟨_, rfl, θ, ?_, j2⟩
              rw [if_neg f, ei]
        · obtain ⟨θ, j1, j2⟩ := M_putsBack hH2
          rw [if_neg e, if_neg e]
          unfold j_M_both_145 j_M_both_167
          rw [j1, z_some_bind, z_some_bind, z32_id (z := (i : Int) + 1) (by omega) (by omega)]
          have nl : ¬ (1000000 : Int) < (if q.1 = -9 then 1000000 else q.2) := by
            rcases hok with w | w
            · rw [if_pos w]; omega
            · split <;> omega
          rw [if_neg nl, if_neg nl]
          exact ⟨_, rfl, θ, by rw [ei], j2⟩
      · obtain ⟨θ, j1, j2⟩ := M_putsBack hH
        rw [z_if0 d, j1, z_some_bind, if_neg d]
        exact ⟨_, rfl, θ, by rw [ei], j2⟩
    · rw [z_if0 c, if_neg c]
      exact ⟨_, rfl, ν, by rw [ei], q1⟩
  · rintro _ ⟨ν, rfl, q1⟩
    have hWν := zRest_W q1 hV hW
    show zQ _ (b_M_both_53 k l b (boL T k l b N (N * N)).1 (if (boL T k l b N (N * N)).1 = -9 then 1000000 else (boL T k l b N (N * N)).2) ((N * N : Nat) : Int) ν) _
    unfold b_M_both_53 f_M_tells
    rw [hWν.1, hN, hsq.2, z32_id (z := ((N * N : Nat) : Int)) (by omega) (by omega), if_neg (by omega)]
    by_cases e : (boL T k l b N (N * N)).1 = -9
    · rw [if_pos e]; exact zQ_ret ⟨ν, q1, by rw [if_pos e, e]⟩
    · rw [if_neg e, if_neg e]; exact zQ_ret ⟨ν, q1, by rw [if_neg e]⟩
theorem A_both (h : Rel μ) : zAg (f_X_both k l b μ) (f_M_both k l b) := by
  obtain ⟨T, hV, hR, hW⟩ := Rel_T h
  by_cases c1 : 0 ≤ k ∧ k < 6
  · by_cases c4 : 0 ≤ l ∧ l < 6
    · by_cases c2 : 0 ≤ b ∧ b < 10
      · by_cases c3 : nT T = 0
        · have e : f_X_both k l b μ = some (-4, μ) := zE_go (by unfold e_X_both f_R_towerCount; rw [X_isKind, z_if1 c1, X_isKind, z_if1 c4, X_isBorne, z_if1 c2, hR.1, if_pos c3]; exact zE_ret)
          rw [e]
          refine zAg_same h (zE_go ?_)
          unfold e_M_both f_M_isNone f_M_isKind
          rw [M_in, z_if1 (by omega), M_in, z_if1 (by omega), M_in, z_if1 (by omega), hW.1, z_if1 c3]
          exact zE_ret
        · obtain ⟨ν, e1, e2⟩ := X_both hR hV c1 c4 c2 c3
          by_cases e : (boT T k l b (nT T).toNat).1 = -9
          · obtain ⟨κ, g1, g2⟩ := M_both (μ := ν) (W_of hW (e1 43 (by omega))) hV c1 c4 c2 c3
            rw [if_pos e] at e2 g2
            exact ⟨_, ν, e2, κ, g2, Rel_rest h e1 g1⟩
          · obtain ⟨κ, g1, g2⟩ := M_both (μ := zst ν 0 9 (boT T k l b (nT T).toNat).2) (W_of hW (by rw [zst_p (by omega), e1 43 (by omega)])) hV c1 c4 c2 c3
            rw [if_neg e] at e2 g2
            exact ⟨_, _, e2, _, g2, Rel_rest_tells h e1 g1⟩
      · have e : f_X_both k l b μ = some (-1, μ) := zE_go (by unfold e_X_both; rw [X_isKind, z_if1 c1, X_isKind, z_if1 c4, X_isBorne, z_if0 c2]; exact zE_ret)
        rw [e]
        refine zAg_same h (zE_go ?_)
        unfold e_M_both f_M_isKind
        rw [M_in, z_if1 (by omega), M_in, z_if1 (by omega), M_in, z_if0 (by omega)]
        exact zE_ret
    · have e : f_X_both k l b μ = some (-1, μ) := zE_go (by unfold e_X_both; rw [X_isKind, z_if1 c1, X_isKind, z_if0 c4]; exact zE_ret)
      rw [e]
      refine zAg_same h (zE_go ?_)
      unfold e_M_both f_M_isKind
      rw [M_in, z_if1 (by omega), M_in, z_if0 (by omega)]
      exact zE_ret
  · have e : f_X_both k l b μ = some (-1, μ) := zE_go (by unfold e_X_both; rw [X_isKind, z_if0 c1]; exact zE_ret)
    rw [e]
    refine zAg_same h (zE_go ?_)
    unfold e_M_both f_M_isKind
    rw [M_in, z_if0 (by omega)]
    exact zE_ret
end BO2
