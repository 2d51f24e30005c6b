/-! game, begin -/
section GM
variable {μ : zM} {T : zT} {b n : Int}
theorem Rel_try {κ : zM} (h : Rel μ) (hV : VT T) (hR : IsR μ 8 T) (g : ∀ o, o ≠ 43 → (o < 13 ∨ 22 < o) → o < 51 → κ o = μ o) (g43 : ∀ c, 66 ≤ c → κ 43 c = μ 43 c) (hW : IsV (κ 43) T) : Rel κ := by
  obtain ⟨q1, q2, q3, q4, q5⟩ := h
  refine ⟨zR1_of q1 (g 0 (by omega) (by omega) (by omega)) (g 26 (by omega) (by omega) (by omega)) (fun k _ => by rw [g 42 (by omega) (by omega) (by omega)]) (g 50 (by omega) (by omega) (by omega)), zR2_of q2 (fun o a b => g o (by omega) (by omega) (by omega)) (g 45 (by omega) (by omega) (by omega)) (g 46 (by omega) (by omega) (by omega)), zR3_of q3 (fun o a b => g o (by omega) (by omega) (by omega)) (g 47 (by omega) (by omega) (by omega)) (g 48 (by omega) (by omega) (by omega)), ?_, zR5_43 q5 (fun o a b => g o (by omega) (by omega) (by omega)) (fun c a _ => g43 c (by omega)) (g 44 (by omega) (by omega) (by omega))⟩
  obtain ⟨a1, a2, a3, U, hVU, hRU, hWU, hD⟩ := q4
  have e1 : μ 8 0 = nT U := hRU.1
  have e2 : μ 8 0 = nT T := hR.1
  have hlen : U.length = T.length := by unfold nT at e1 e2; omega
  unfold zR4
  rw [g 7 (by omega) (by omega) (by omega), g 8 (by omega) (by omega) (by omega), g 9 (by omega) (by omega) (by omega), g 10 (by omega) (by omega) (by omega), g 11 (by omega) (by omega) (by omega), g 42 (by omega) (by omega) (by omega)]
  refine ⟨a1, a2, a3, T, hV, hR, hW, fun i hi => ?_⟩
  obtain ⟨D, g1, g2, g3, g4⟩ := hD i hi
  exact ⟨D, g1, by omega, g3, IsV_congr g1 (fun q hq => g43 _ (by omega)) g4⟩
theorem M_begin {m : Nat} (hW : IsV (μ 43) T) (hV : VT T) (hb : 0 ≤ b ∧ b < 10) (hm : m ≤ 4) (h0 : nT T ≠ 0) : ∃ κ, f_M_begin b (m : Int) μ = some (wnT b m T, κ) ∧ IsV (κ 43) T ∧ zWf 0 μ κ := by
  have hn5 := nT_le hV
  have hn0 := nT_nn T
  have he : e_M_begin b (m : Int) μ = some (.inl ((0 : Int), μ)) := by
    unfold e_M_begin f_M_isGame f_M_isNone
    rw [M_in, z_if1 (by omega), M_in, z_if1 (by omega), if_neg (by omega), hW.1, z_if0 h0]
  suffices hq : zQ (t_M_begin b (m : Int)) (e_M_begin b (m : Int) μ) (fun q => ∃ κ, q = (wnT b m T, κ) ∧ IsV (κ 43) T ∧ zWf 0 μ κ) by
    obtain ⟨q, g1, κ, g2, g3⟩ := zQ_go hq
    exact ⟨κ, by rw [← g2]; exact g1, g3⟩
  cases m with
  | zero =>
    rw [he]
    refine zQ_step ?_
    show zQ _ (b_M_begin_23 b ((0 : Nat) : Int) 0 μ) _
    unfold b_M_begin_23
    rw [hW.1, if_pos (by omega), if_neg (by omega)]
    exact zQ_ret ⟨μ, rfl, hW, zWf_rf⟩
  | succ l =>
    have step : ∀ (t : Nat) (ι : zM), (t : Int) < nT T → IsV (ι 43) T → ∃ κ, IsV (κ 43) T ∧ zWf 0 ι κ ∧ b_M_begin_23 b ((l + 1 : Nat) : Int) (t : Int) ι = if wnP b l T t = true then some (.inr ((t : Int), κ)) else some (.inl (((t + 1 : Nat) : Int), κ)) := fun t ι ht hWι => by
      have hh := hT_nn T (t : Int)
      unfold b_M_begin_23
      rw [hWι.1, if_pos ht, if_pos (by omega), z32_id (z := ((l + 1 : Nat) : Int) - 1) (by omega) (by omega), z32_id (z := (t : Int) + 1) (by omega) (by omega), show ((l + 1 : Nat) : Int) - 1 = (l : Int) by omega, show (t : Int) + 1 = ((t + 1 : Nat) : Int) by omega]
      by_cases c : (hT T (t : Int) < 6 ∧ tot T < 12) ∧ stT (addT T (t : Int) 0 b) = true
      · obtain ⟨κ1, e1, e2, e3⟩ := M_isBuilt1 hWι hV (t := (t : Int)) (by omega) ht hb c.1 c.2
        have hV' := addT_V (k := 0) hV (t := (t : Int)) (by omega) ht c.1.1 c.1.2 ⟨by omega, by omega⟩ hb
        have hh6 := hT_le hV (t : Int)
        obtain ⟨κ2, f1, f2, f3⟩ := M_winsBy (n := l) e2 hV' hb (by omega)
        have e43 : κ2 43 (1 + (t : Int)).toNat = hT T (t : Int) + 1 := by
          have := f2.2.1 (t : Int) (by omega) (by rw [addT_n]; exact ht)
          rw [this, addT_h (by omega) ht, if_pos rfl]
        have hP : IsV (zst κ2 43 (1 + (t : Int)).toNat (hT T (t : Int)) 43) T := IsV_pop hV f2 (by omega) ht (by omega) hb.1 zst_at (fun c hc => zst43_o hc)
        have hF : zWf 0 ι (zst κ2 43 (1 + (t : Int)).toNat (hT T (t : Int))) := zWf_tr (zWf_tr (zWf_43 e3) f3) ⟨fun o a1 _ _ => zst_p a1, fun c hc => zst43_o (by omega), fun j hj => by omega⟩
        have hr2 : (0 : Int) ≤ 1 + (t : Int) ∧ 1 + (t : Int) < 10956 := by omega
        rw [e1, z_some_bind, if_neg (by show ¬ (1 : Int) = 0; omega), f1, z_some_bind]
        unfold j_M_begin_62
        dsimp only
        rw [z32_id (z := 1 + (t : Int)) (by omega) (by omega), e43, z32_id (z := hT T (t : Int) + 1 - 1) (by omega) (by omega), show hT T (t : Int) + 1 - 1 = hT T (t : Int) by omega, z32_id (z := (t : Int) + 1) (by omega) (by omega)]
        by_cases e : wnT b l (addT T (t : Int) 0 b) = -9
        · rw [if_pos e, if_pos rfl, if_pos hr2, if_pos hr2, if_neg (by omega), wnP_iff.mpr ⟨c.1, c.2, e⟩]
          exact ⟨_, hP, hF, rfl⟩
        · have hp : wnP b l T t = false := by
            cases hq : wnP b l T t with
            | false => rfl
            | true => exact absurd (wnP_iff.mp hq).2.2 e
          rw [if_neg e, if_neg (by omega), if_pos hr2, if_pos hr2, if_pos rfl, hp]
          exact ⟨_, hP, hF, rfl⟩
      · have hp : wnP b l T t = false := by
          cases hq : wnP b l T t with
          | false => rfl
          | true => exact absurd ⟨(wnP_iff.mp hq).1, (wnP_iff.mp hq).2.1⟩ c
        obtain ⟨κ1, e1, e2, e3⟩ := M_isBuilt0 hWι hV (t := (t : Int)) (by omega) ht hb c
        rw [e1, z_some_bind, if_pos rfl, hp]
        exact ⟨κ1, e2, zWf_43 e3, rfl⟩
    rcases z_first (fun t => wnP b l T t = false) (nT T).toNat with g | ⟨k, g1, g2, g3⟩
    · have hw : wnT b (l + 1) T = -9 := wnT_none.mpr (fun t ht => g t (by omega))
      rw [hw]
      refine zQ_for (fun t q => ∃ κ, q = ((t : Int), κ) ∧ IsV (κ 43) T ∧ zWf 0 μ κ) (nT T).toNat he ⟨μ, rfl, hW, zWf_rf⟩ ?_ ?_
      · rintro t _ ht ⟨ι, rfl, q1, q2⟩
        obtain ⟨κ, s1, s2, s3⟩ := step t ι (by omega) q1
        rw [g t ht, if_neg (by simp)] at s3
        exact ⟨_, s3, κ, rfl, s1, zWf_tr q2 s2⟩
      · rintro _ ⟨ι, rfl, q1, q2⟩
        show zQ _ (b_M_begin_23 b ((l + 1 : Nat) : Int) ((nT T).toNat : Int) ι) _
        unfold b_M_begin_23
        rw [q1.1, if_neg (by omega)]
        exact zQ_ret ⟨ι, rfl, q1, q2⟩
    · have hp : wnP b l T k = true := by simpa using g3
      have hw : wnT b (l + 1) T = (k : Int) := by
        rw [wnT_s, zff_hit _ _ _ k (nT T).toNat 0 g1 (fun j hj => by rw [Nat.zero_add]; exact g2 j hj) (by rw [Nat.zero_add]; exact hp), Nat.zero_add]
      rw [hw]
      refine zQ_for (fun t q => ∃ κ, q = ((t : Int), κ) ∧ IsV (κ 43) T ∧ zWf 0 μ κ) k he ⟨μ, rfl, hW, zWf_rf⟩ ?_ ?_
      · rintro t _ ht ⟨ι, rfl, q1, q2⟩
        obtain ⟨κ, s1, s2, s3⟩ := step t ι (by omega) q1
        rw [g2 t ht, if_neg (by simp)] at s3
        exact ⟨_, s3, κ, rfl, s1, zWf_tr q2 s2⟩
      · rintro _ ⟨ι, rfl, q1, q2⟩
        obtain ⟨κ, s1, s2, s3⟩ := step k ι (by omega) q1
        rw [if_pos hp] at s3
        show zQ _ (b_M_begin_23 b ((l + 1 : Nat) : Int) (k : Int) ι) _
        rw [s3]
        exact zQ_ret ⟨κ, rfl, s1, zWf_tr q2 s2⟩
theorem A_begin (h : Rel μ) : zAg (f_X_begin b n μ) (f_M_begin b n) := by
  obtain ⟨T, hV, hR, hW⟩ := Rel_T h
  unfold f_X_begin f_R_towerCount
  rw [X_isBorne]
  by_cases c1 : 0 ≤ b ∧ b < 10
  · rw [z_if1 c1]
    by_cases c2 : 0 ≤ n ∧ n ≤ 4
    · rw [if_neg (show ¬ n < 0 by omega), if_neg (show ¬ 4 < n by omega), hR.1]
      by_cases c3 : nT T = 0
      · rw [if_pos c3]
        refine zAg_same h (zE_go ?_)
        unfold e_M_begin f_M_isGame f_M_isNone
        rw [M_in, z_if1 (by omega), M_in, z_if1 (by omega), if_neg (by omega), hW.1, z_if1 c3]
        exact zE_ret
      · obtain ⟨m, rfl⟩ := Int.eq_ofNat_of_zero_le c2.1
        obtain ⟨ν1, e1, e2, e3⟩ := R_takeFrom (o := 13) (μ := μ) hR hV (by omega)
        obtain ⟨ν, f1, f2, f3⟩ := X_winning c1 m 6 T ν1 (by omega) (by omega) e2 hV
        have ho : zOut μ ν 13 15 := zOut_trans e3 f3
        obtain ⟨κ, g1, g2, g3⟩ := M_begin (m := m) (W_of hW (ho 43 (by omega))) hV c1 (by omega) c3
        rw [if_neg c3, e1, z_some_bind, f1]
        refine ⟨_, ν, rfl, κ, g1, Rel_try h hV hR (fun o a1 a2 a3 => by rw [g3.1 o a1 (by omega) (by omega), ho o (by omega)]) (fun c hc => by rw [g3.2.1 c hc, ho 43 (by omega)]) g2⟩
    · have e : ∀ {α : Type} (x y : α), (if n < 0 then x else if 4 < n then x else y) = x := fun x y => by
        by_cases d : n < 0
        · rw [if_pos d]
        · rw [if_neg d, if_pos (by omega)]
      rw [e]
      refine zAg_same h (zE_go ?_)
      unfold e_M_begin f_M_isGame
      rw [M_in, z_if1 (by omega), M_in, z_if0 (by omega), if_pos rfl]
      exact zE_ret
  · rw [z_if0 c1]
    refine zAg_same h (zE_go ?_)
    unfold e_M_begin f_M_isGame
    rw [M_in, z_if0 (by omega), if_pos rfl]
    exact zE_ret
theorem A_game (h : Rel μ) : zAg (f_X_game b n μ) (f_M_game b n) := by
  obtain ⟨T, hV, hR, hW⟩ := Rel_T h
  unfold f_X_game f_R_towerCount
  rw [X_isBorne]
  by_cases c1 : 0 ≤ b ∧ b < 10
  · rw [z_if1 c1]
    by_cases c2 : 0 ≤ n ∧ n ≤ 4
    · rw [if_neg (show ¬ n < 0 by omega), if_neg (show ¬ 4 < n by omega), hR.1]
      by_cases c3 : nT T = 0
      · rw [if_pos c3]
        refine zAg_same h ?_
        unfold f_M_game f_M_isGame f_M_isNone
        rw [M_in, z_if1 (by omega), M_in, z_if1 (by omega), if_neg (by omega), hW.1, z_if1 c3]
      · obtain ⟨m, rfl⟩ := Int.eq_ofNat_of_zero_le c2.1
        obtain ⟨ν1, e1, e2, e3⟩ := R_takeFrom (o := 13) (μ := μ) hR hV (by omega)
        obtain ⟨ν, f1, f2, f3⟩ := X_winning c1 m 6 T ν1 (by omega) (by omega) e2 hV
        have ho : zOut μ ν 13 15 := zOut_trans e3 f3
        have hWν := W_of hW (ho 43 (by omega))
        obtain ⟨κ, g1, g2, g3⟩ := M_winsBy (n := m) hWν hV c1 (by omega)
        have hrel : Rel κ := Rel_try h hV hR (fun o a1 a2 a3 => by rw [g3.1 o a1 (by omega) (by omega), ho o (by omega)]) (fun c hc => by rw [g3.2.1 c hc, ho 43 (by omega)]) g2
        have hm : f_M_game b (m : Int) ν = some ((if wnT b m T = -9 then 0 else 1), κ) := by
          unfold f_M_game f_M_isGame f_M_isNone
          rw [M_in, z_if1 (by omega), M_in, z_if1 (by omega), if_neg (by omega), hWν.1, z_if0 c3, g1, z_some_bind]
          by_cases e : wnT b m T = -9
          · rw [if_pos e, if_pos rfl]
          · rw [if_neg e, if_neg (by omega)]
        rw [if_neg c3, e1, z_some_bind, f1, z_some_bind]
        refine ⟨(if wnT b m T = -9 then 0 else 1), ν, ?_, κ, hm, hrel⟩
        by_cases e : wnT b m T = -9
        · rw [if_pos e, if_pos e]
        · rw [if_neg e, if_neg e]
    · have e : ∀ {α : Type} (x y : α), (if n < 0 then x else if 4 < n then x else y) = x := fun x y => by
        by_cases d : n < 0
        · rw [if_pos d]
        · rw [if_neg d, if_pos (by omega)]
      rw [e]
      refine zAg_same h ?_
      unfold f_M_game f_M_isGame
      rw [M_in, z_if1 (by omega), M_in, z_if0 (by omega), if_pos rfl]
  · rw [z_if0 c1]
    refine zAg_same h ?_
    unfold f_M_game f_M_isGame
    rw [M_in, z_if0 (by omega), if_pos rfl]
end GM
