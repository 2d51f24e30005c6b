/-! by turns: who builds last -/
def wnT (b : Int) : Nat → zT → Int
  | 0, _ => -9
  | l + 1, T => zff (fun t => decide (hT T (t : Int) < 6 ∧ tot T < 12) && (stT (addT T (t : Int) 0 b) && decide (wnT b l (addT T (t : Int) 0 b) = -9))) (fun t => (t : Int)) (-9) (nT T).toNat 0
def wnP (b : Int) (l : Nat) (T : zT) (t : Nat) : Bool := decide (hT T (t : Int) < 6 ∧ tot T < 12) && (stT (addT T (t : Int) 0 b) && decide (wnT b l (addT T (t : Int) 0 b) = -9))
theorem wnT_s (b : Int) (l : Nat) (T : zT) : wnT b (l + 1) T = zff (wnP b l T) (fun t => (t : Int)) (-9) (nT T).toNat 0 := rfl
theorem wnP_iff {b : Int} {l : Nat} {T : zT} {t : Nat} : wnP b l T t = true ↔ (hT T (t : Int) < 6 ∧ tot T < 12) ∧ stT (addT T (t : Int) 0 b) = true ∧ wnT b l (addT T (t : Int) 0 b) = -9 := by
  unfold wnP
  rw [Bool.and_eq_true, Bool.and_eq_true, decide_eq_true_eq, decide_eq_true_eq]
theorem zff_hit {ρ : Type} (p : Nat → Bool) (g : Nat → ρ) (d : ρ) : ∀ (j m i : Nat), j < m → (∀ k, k < j → p (i + k) = false) → p (i + j) = true → zff p g d m i = g (i + j)
  | 0, m + 1, i, _, _, h => by
    unfold zff
    rw [Nat.add_zero] at h
    rw [if_pos h, Nat.add_zero]
  | j + 1, m + 1, i, hj, hk, h => by
    have h0 := hk 0 (by omega)
    rw [Nat.add_zero] at h0
    unfold zff
    rw [if_neg (by rw [h0]; simp), zff_hit p g d j m (i + 1) (by omega) (fun k hk2 => by rw [show i + 1 + k = i + (k + 1) by omega]; exact hk (k + 1) (by omega)) (by rw [show i + 1 + j = i + (j + 1) by omega]; exact h), show i + 1 + j = i + (j + 1) by omega]
theorem wnT_none {b : Int} {l : Nat} {T : zT} : wnT b (l + 1) T = -9 ↔ ∀ t : Nat, (t : Int) < nT T → wnP b l T t = false := by
  have hn := nT_nn T
  rw [wnT_s, zff_iff _ _ _ (fun k _ => by omega)]
  constructor
  · intro h t ht; exact h t (by omega) (by omega)
  · intro h t _ ht; exact h t (by omega)
section WI
variable {T : zT} {b : Int}
theorem X_winning (hb : 0 ≤ b ∧ b < 10) : ∀ (l N : Nat) (T : zT) (ν : zM), l < N → l ≤ 4 → IsR ν 13 T → VT T → ∃ κ, f_X_winningTower N 13 b (l : Int) ν = some (wnT b l T, κ) ∧ IsR κ 13 T ∧ zOut ν κ 13 15 := by
  intro l
  induction l with
  | zero =>
    intro N T ν hN _ hR hV
    obtain ⟨M, rfl⟩ : ∃ M, N = M + 1 := ⟨N - 1, by omega⟩
    have e : f_X_winningTower (M + 1) 13 b ((0 : Nat) : Int) ν = zgo (t_X_winningTower (f_X_winningTower M) 13 b ((0 : Nat) : Int)) (e_X_winningTower (f_X_winningTower M) 13 b ((0 : Nat) : Int) ν) := rfl
    refine ⟨ν, ?_, hR, zOut_rf⟩
    rw [e]
    refine zE_go ?_
    unfold e_X_winningTower
    rw [if_neg (by omega)]
    exact zE_ret
  | succ l ih =>
    intro N T ν hN hl hR hV
    obtain ⟨M, rfl⟩ : ∃ M, N = M + 1 := ⟨N - 1, by omega⟩
    have hn5 := nT_le hV
    have hn0 := nT_nn T
    have step : ∀ (t : Nat) (ι : zM), (t : Int) < nT T → IsR ι 13 T → ∃ κ, IsR κ 13 T ∧ zOut ι κ 13 15 ∧ b_X_winningTower_9 (f_X_winningTower M) 13 b ((l + 1 : Nat) : Int) (t : Int) ι = if wnP b l T t = true then some (.inr ((t : Int), κ)) else some (.inl (((t + 1 : Nat) : Int), κ)) := fun t ι ht hRι => by
      unfold b_X_winningTower_9 f_R_towerCount
      rw [hRι.1, if_pos ht, z32_id (z := ((l + 1 : Nat) : Int) - 1) (by omega) (by omega), z32_id (z := (t : Int) + 1) (by omega) (by omega), show ((l + 1 : Nat) : Int) - 1 = (l : Int) by omega, show (t : Int) + 1 = ((t + 1 : Nat) : Int) by omega]
      by_cases c : hT T (t : Int) < 6 ∧ tot T < 12
      · obtain ⟨κ1, e1, e2, e3⟩ := R_push (o := 13) (k := 0) hRι hV (t := (t : Int)) (by omega) ht c.1 c.2 ⟨by omega, by omega⟩ hb
        have hV' := addT_V (k := 0) hV (t := (t : Int)) (by omega) ht c.1 c.2 ⟨by omega, by omega⟩ hb
        rw [e1, z_some_bind, if_neg (by show ¬ (1 : Int) = 0; omega), R_isSteady e2 hV', z_some_bind]
        by_cases d : anyT (addT T (t : Int) 0 b) (swT (addT T (t : Int) 0 b)) = true
        · have hp : wnP b l T t = false := by
            cases hq : wnP b l T t with
            | false => rfl
            | true => have := (wnP_iff.mp hq).2.1; unfold stT at this; rw [d] at this; exact absurd this (by simp)
          obtain ⟨κ2, g1, g2, g3⟩ := R_pushpop e2 hV' (by omega) ht
          unfold j_X_winningTower_51 j_X_winningTower_52
          rw [if_pos d, if_pos rfl, g1, z_some_bind, if_pos rfl, hp, z32_id (z := (t : Int) + 1) (by omega) (by omega)]
          exact ⟨κ2, g2, zOut_trans e3 g3, rfl⟩
        · have hst : stT (addT T (t : Int) 0 b) = true := by unfold stT; simp at d; rw [d]; rfl
          obtain ⟨κ2, f1, f2, f3⟩ := ih M (addT T (t : Int) 0 b) κ1 (by omega) (by omega) e2 hV'
          obtain ⟨κ3, g1, g2, g3⟩ := R_pushpop f2 hV' (by omega) ht
          rw [if_neg d, if_neg (by omega), f1, z_some_bind]
          unfold j_X_winningTower_51 j_X_winningTower_52
          by_cases e : wnT b l (addT T (t : Int) 0 b) = -9
          · rw [if_pos e, g1, z_some_bind, if_neg (by omega), wnP_iff.mpr ⟨c, hst, e⟩]
            exact ⟨κ3, g2, zOut_trans (zOut_trans e3 f3) g3, rfl⟩
          · have hp : wnP b l T t = false := by
              cases hq : wnP b l T t with
              | false => rfl
              | true => exact absurd (wnP_iff.mp hq).2.2 e
            rw [if_neg e, g1, z_some_bind, if_pos rfl, hp, z32_id (z := (t : Int) + 1) (by omega) (by omega)]
            exact ⟨κ3, g2, zOut_trans (zOut_trans e3 f3) g3, rfl⟩
      · have hp : wnP b l T t = false := by
          cases hq : wnP b l T t with
          | false => rfl
          | true => exact absurd (wnP_iff.mp hq).1 c
        rw [R_push0 hRι hV (fun z => c z.2), z_some_bind, if_pos rfl, hp]
        exact ⟨ι, hRι, zOut_rf, rfl⟩
    suffices hq : zQ (t_X_winningTower (f_X_winningTower M) 13 b ((l + 1 : Nat) : Int)) (e_X_winningTower (f_X_winningTower M) 13 b ((l + 1 : Nat) : Int) ν) (fun r => ∃ κ, r = (wnT b (l + 1) T, κ) ∧ IsR κ 13 T ∧ zOut ν κ 13 15) by
      obtain ⟨r, g1, κ, g2, g3⟩ := zQ_go hq
      exact ⟨κ, by rw [← g2]; exact g1, g3⟩
    have h0 : e_X_winningTower (f_X_winningTower M) 13 b ((l + 1 : Nat) : Int) ν = some (.inl ((0 : Int), ν)) := by
      unfold e_X_winningTower
      rw [if_pos (by omega)]
    rcases z_first (fun t => wnP b l T t = false) (nT T).toNat with g | ⟨n, g1, g2, g3⟩
    · have hw : wnT b (l + 1) T = -9 := wnT_none.mpr (fun t ht => g t (by omega))
      rw [hw]
      refine zQ_for (fun t q => ∃ κ, q = ((t : Int), κ) ∧ IsR κ 13 T ∧ zOut ν κ 13 15) (nT T).toNat h0 ⟨ν, rfl, hR, zOut_rf⟩ ?_ ?_
      · rintro t _ ht ⟨ι, rfl, q1, q2⟩
        obtain ⟨κ, s1, s2, s3⟩ := step t ι (by omega) q1
        rw [g t ht, if_neg (by simp)] at s3
        exact ⟨_, s3, κ, rfl, s1, zOut_trans q2 s2⟩
      · rintro _ ⟨ι, rfl, q1, q2⟩
        show zQ _ (b_X_winningTower_9 (f_X_winningTower M) 13 b ((l + 1 : Nat) : Int) ((nT T).toNat : Int) ι) _
        unfold b_X_winningTower_9 f_R_towerCount
        rw [q1.1, if_neg (by omega)]
        exact zQ_ret ⟨ι, rfl, q1, q2⟩
    · have hp : wnP b l T n = true := by simpa using g3
      have hw : wnT b (l + 1) T = (n : Int) := by
        rw [wnT_s, zff_hit _ _ _ n (nT T).toNat 0 g1 (fun k hk => by rw [Nat.zero_add]; exact g2 k hk) (by rw [Nat.zero_add]; exact hp), Nat.zero_add]
      rw [hw]
      refine zQ_for (fun t q => ∃ κ, q = ((t : Int), κ) ∧ IsR κ 13 T ∧ zOut ν κ 13 15) n h0 ⟨ν, rfl, hR, zOut_rf⟩ ?_ ?_
      · rintro t _ ht ⟨ι, rfl, q1, q2⟩
        obtain ⟨κ, s1, s2, s3⟩ := step t ι (by omega) q1
        rw [g2 t ht, if_neg (by simp)] at s3
        exact ⟨_, s3, κ, rfl, s1, zOut_trans q2 s2⟩
      · rintro _ ⟨ι, rfl, q1, q2⟩
        obtain ⟨κ, s1, s2, s3⟩ := step n ι (by omega) q1
        rw [if_pos hp] at s3
        show zQ _ (b_X_winningTower_9 (f_X_winningTower M) 13 b ((l + 1 : Nat) : Int) (n : Int) ι) _
        rw [s3]
        exact zQ_ret ⟨κ, rfl, s1, zOut_trans q2 s2⟩
end WI
