/-! odds -/
section OD
variable {μ : zM} {T : zT} {t s : Int}
theorem Rel_odds {u l : Int} (h : Rel μ) : Rel (zst (zst (zst (zst μ 0 10 u) 0 11 l) 42 11 u) 42 12 l) := by
  obtain ⟨q1, q2, q3, q4, q5⟩ := h
  have g : ∀ o, o ≠ 0 → o ≠ 42 → zst (zst (zst (zst μ 0 10 u) 0 11 l) 42 11 u) 42 12 l o = μ o := fun o a b => by rw [zst_p b, zst_p b, zst_p a, zst_p a]
  refine ⟨?_, zR2_of q2 (fun o a b => g o (by omega) (by omega)) (g 45 (by omega) (by omega)) (g 46 (by omega) (by omega)), zR3_of q3 (fun o a b => g o (by omega) (by omega)) (g 47 (by omega) (by omega)) (g 48 (by omega) (by omega)), zR4_of q4 (fun o a b => g o (by omega) (by omega)) (g 43 (by omega) (by omega)) (by rw [zst_o (by omega), zst_o (by omega), zst_o (by omega), zst_o (by omega)]), zR5_of q5 (fun o a b => g o (by omega) (by omega)) (g 43 (by omega) (by omega)) (g 44 (by omega) (by omega))⟩
  obtain ⟨a1, a2, a3, a4, a5⟩ := q1
  refine ⟨?_, ?_, ?_, ?_, fun k hk => by rw [g 26 (by omega) (by omega), g 50 (by omega) (by omega)]; exact a5 k hk⟩
  · rw [zst_o (by omega), zst_o (by omega), zst_o (by omega), zst_o (by omega), zst_o (by omega), zst_o (by omega), zst_o (by omega), zst_o (by omega)]; exact a1
  · rw [zst_o (by omega), zst_o (by omega), zst_o (by omega), zst_o (by omega), zst_o (by omega), zst_o (by omega), zst_o (by omega), zst_o (by omega)]; exact a2
  · rw [zst_o (by omega), zst_o (by omega), zst_o (by omega), zst_at, zst_o (by omega), zst_at]
  · rw [zst_o (by omega), zst_o (by omega), zst_at, zst_at]
theorem ho_pop (T : zT) (t s : Int) : 0 ≤ zpop (hoT T t s) ∧ zpop (hoT T t s) ≤ 1 * 5 := by
  unfold hoT
  rw [zpop_set 5 _ (by omega)]
  exact zsum01 5 _
theorem A_odds (h : Rel μ) : zAg (f_X_odds t s μ) (f_M_odds t s) := by
  obtain ⟨T, hV, hR, hW⟩ := Rel_T h
  have hn := nT_le hV
  have hh := hT_le hV t
  unfold f_X_odds
  rw [X_isNoPlace hR]
  by_cases c : (0 ≤ t ∧ t < nT T) ∧ 0 ≤ s
  · rw [z_ifn1 c]
    by_cases e : 0 ≤ s ∧ s < hT T t
    · have hb := hoT_in T t s
      have hc := ho_pop T t s
      have eM : ∀ ν : zM, IsV (ν 43) T → f_M_odds t s ν = if zpop (hoT T t s) = 5 then j_M_odds_48 t s (zpop (hoT T t s)) 1 ν else j_M_odds_48 t s (zpop (hoT T t s)) (zpop (hoT T t s)) ν := fun ν hWν => by
        unfold f_M_odds
        rw [M_isTold hWν hV, z_if1 c, M_isThere hWν hV, z_some_bind, z_if1 e, M_hoursOf hWν hV e.1 (by omega) c.1.1 (by omega), z_some_bind, M_ones hb.1 (by omega), z_some_bind]
      rw [R_hasI hR hV e.1 e.2, z_some_bind, if_neg (by omega), R_hoursSeen hR hV e.1 (by omega) c.1.1 (by omega), z_some_bind, J_bitCount hb.1 (by omega)]
      have hW2 : ∀ u l : Int, IsV (zst (zst μ 0 10 u) 0 11 l 43) T := fun u l => W_of hW (by rw [zst_p (by omega), zst_p (by omega)])
      generalize zpop (hoT T t s) = z at hc eM ⊢
      by_cases c0 : z = 0
      · rw [if_pos c0]
        unfold j_X_odds_57 j_X_odds_62 j_X_odds_79
        rw [if_neg (by omega), if_neg (by omega), c0, show zdiv 0 5 = 0 from zdiv_n (by omega) (by omega) (by omega) (by omega)]
        refine ⟨1, _, rfl, _, ?_, Rel_odds (u := 0) (l := 1) h⟩
        rw [eM _ (hW2 0 1), if_neg (by omega)]
        unfold j_M_odds_48
        rw [if_neg (by omega), if_pos c0, c0]
      · rw [if_neg c0]
        by_cases c5 : z = 5
        · rw [if_pos c5]
          unfold j_X_odds_57 j_X_odds_62 j_X_odds_79
          rw [if_neg (by omega), if_neg (by omega), c5, show zdiv 5 5 = 1 from zdiv_n (by omega) (by omega) (by omega) (by omega)]
          refine ⟨1, _, rfl, _, ?_, Rel_odds (u := 1) (l := 1) h⟩
          rw [eM _ (hW2 1 1), if_pos c5]
          unfold j_M_odds_48
          rw [if_pos c5]
        · rw [if_neg c5]
          unfold j_X_odds_62 j_X_odds_79
          rw [if_pos rfl, if_pos rfl]
          refine ⟨1, _, rfl, _, ?_, Rel_odds (u := z) (l := 5) h⟩
          rw [eM _ (hW2 z 5), if_neg c5]
          unfold j_M_odds_48
          rw [if_neg c5, if_neg c0]
    · rw [R_hasO hR hV e, z_some_bind, if_pos rfl]
      refine zAg_found h (by omega) (by omega) (fun ν hν => ?_)
      have hWν := W_of hW (hν 43 (by omega) (by omega))
      unfold f_M_odds
      rw [M_isTold hWν hV, z_if1 c, M_isThere hWν hV, z_some_bind, z_if0 e]
  · rw [z_ifn0 c]
    refine zAg_same h ?_
    unfold f_M_odds
    rw [M_isTold hW hV, z_if0 c]
end OD
