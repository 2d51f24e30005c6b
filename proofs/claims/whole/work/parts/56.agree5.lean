/-! ruined, sways -/
def ruT (T : zT) : Nat → Int
  | 0 => -9
  | k + 1 => if ruT T k = -9 then (k : Int) else if owesT T (ruT T k) < owesT T k then (k : Int) else ruT T k
theorem ruT_in (T : zT) : ∀ k, (k = 0 ∧ ruT T k = -9) ∨ (0 < k ∧ 0 ≤ ruT T k ∧ ruT T k < k)
  | 0 => Or.inl ⟨rfl, rfl⟩
  | k + 1 => by
    have h := ruT_in T k
    right
    unfold ruT
    split
    · omega
    · split <;> omega
def ctN (p : Nat → Bool) (n : Nat) : Int := zsum n (fun i => if p i then 1 else 0)
def fsN (p : Nat → Bool) : Nat → Int
  | 0 => -9
  | n + 1 => if ctN p n = 0 then (if p n then (n : Int) else -9) else fsN p n
theorem ctN_in (p : Nat → Bool) (n : Nat) : 0 ≤ ctN p n ∧ ctN p n ≤ 1 * n := zsum01 n p
theorem ctN_0 (p : Nat → Bool) : ∀ n, ctN p n = 0 → ∀ m, m < n → p m = false
  | 0, _, _, hm => absurd hm (by omega)
  | n + 1, h, m, hm => by
    have h1 := ctN_in p n
    unfold ctN at h
    rw [zsum_s] at h
    have h2 : zsum n (fun i => if p i then 1 else 0) = ctN p n := rfl
    rw [h2] at h
    by_cases c : p n = true
    · rw [if_pos c] at h; omega
    · rw [if_neg c] at h
      by_cases d : m = n
      · subst d; simpa using c
      · exact ctN_0 p n (by omega) m (by omega)
theorem fsN_in (p : Nat → Bool) : ∀ n, (ctN p n = 0 ∧ fsN p n = -9) ∨ (ctN p n ≠ 0 ∧ 0 ≤ fsN p n ∧ fsN p n < n ∧ p (fsN p n).toNat = true ∧ ∀ m, m < (fsN p n).toNat → p m = false)
  | 0 => Or.inl ⟨rfl, rfl⟩
  | n + 1 => by
    have h := fsN_in p n
    have h1 := ctN_in p n
    have e : ctN p (n + 1) = ctN p n + if p n then 1 else 0 := rfl
    unfold fsN
    by_cases c : ctN p n = 0
    · rw [if_pos c, e]
      by_cases d : p n = true
      · right
        rw [if_pos d, if_pos d]
        refine ⟨by omega, by omega, by omega, ?_, fun m hm => ctN_0 p n c m (by omega)⟩
        rw [show ((n : Nat) : Int).toNat = n by omega]; exact d
      · left
        rw [if_neg d, if_neg d]; exact ⟨by omega, rfl⟩
    · rw [if_neg c, e]
      right
      rcases h with h | h
      · exact absurd h.1 c
      · refine ⟨by split <;> omega, h.2.1, by omega, h.2.2.2.1, h.2.2.2.2⟩
theorem zset2_0 {p : Nat → Bool} {n : Nat} (h : ∀ m, m < n → p m = false) : zset2 n p = 0 := by
  unfold zset2
  rw [zsum_congr (g := fun _ => 0) (fun k hk => by rw [h k hk]; rfl)]
  clear h
  induction n with
  | zero => rfl
  | succ n ih => rw [zsum_s, ih]; rfl
theorem M_firstOf {p : Nat → Bool} {n : Nat} (hn : n ≤ 12) (h : ctN p n ≠ 0) : f_M_firstOf (zset2 n p) = some (fsN p n) := by
  have hb := zset2_b p n
  have hp := z_pow n (by omega)
  rcases fsN_in p n with c | ⟨_, c1, c2, c3, c4⟩
  · exact absurd c.1 h
  · refine zE_go (zE_for (fun k => (k : Int)) (fsN p n).toNat rfl (fun k hk => ?_) ?_)
    · show b_M_firstOf_2 (zset2 n p) (k : Int) = _
      unfold b_M_firstOf_2
      rw [M_has hb.1 (by omega) (by omega), zset2_bit, z_if0 (by rw [c4 k hk]; simp), z32_id (by omega) (by omega)]
      rfl
    · show zE _ (b_M_firstOf_2 (zset2 n p) ((fsN p n).toNat : Int)) _
      unfold b_M_firstOf_2
      rw [M_has hb.1 (by omega) (by omega), zset2_bit, z_if1 ⟨by omega, c3⟩, show (((fsN p n).toNat : Nat) : Int) = fsN p n by omega]
      exact zE_ret
section AG5
variable {μ : zM} {T : zT} {t s k n v : Int}
theorem A_ruined (h : Rel μ) : zAg (f_X_ruined μ) (f_M_ruined) := by
  obtain ⟨T, hV, hR, hW⟩ := Rel_T h
  have ht := tot_le hV
  obtain ⟨ν, e1, e2, e3⟩ := L_reckon (μ := μ) hV (o := 8) (by omega) hR
  have hRν := IsR_out e3 (by omega) hR
  have hru := ruT_in T (tot T).toNat
  have eX : ∀ r, zE t_X_ruined (b_X_ruined_19 (ruT T (tot T).toNat) ((tot T).toNat : Int) ν) r → zE t_X_ruined (e_X_ruined μ) r := fun r hr => by
    refine zE_for (fun k => (ruT T k, (k : Int), ν)) (tot T).toNat ?_ (fun k hk => ?_) hr
    · unfold e_X_ruined
      rw [e1]; rfl
    · have hk2 := ruT_in T k
      show b_X_ruined_19 (ruT T k) (k : Int) ν = _
      unfold b_X_ruined_19 f_R_houseCount
      rw [hRν.2.1, if_pos (by omega), z32_id (by omega) (by omega)]
      show _ = some (Sum.inl (ruT T (k + 1), ((k + 1 : Nat) : Int), ν))
      have er : ruT T (k + 1) = if ruT T k = -9 then (k : Int) else if owesT T (ruT T k) < owesT T k then (k : Int) else ruT T k := rfl
      rw [er]
      by_cases c : ruT T k = -9
      · rw [if_pos c, if_pos c]; rfl
      · rw [if_neg c, if_neg c, L_owingOf hV e2, z_some_bind, L_owingOf hV e2, z_some_bind, if_pos (show 0 ≤ (k : Int) ∧ (k : Int) < tot T by omega), if_pos (show 0 ≤ ruT T k ∧ ruT T k < tot T by omega)]
        split <;> rfl
  have eM : ∀ κ, IsV (κ 43) T → ∃ ι, zOut κ ι 51 51 ∧ ∀ r, zE t_M_ruined (b_M_ruined_11 (ruT T (tot T).toNat) (if ruT T (tot T).toNat = -9 then -1 else owesT T (ruT T (tot T).toNat)) ((tot T).toNat : Int) ι) r → zE t_M_ruined (e_M_ruined κ) r := fun κ hWκ => by
    obtain ⟨ι, g1, g2, g3⟩ := M_layLamps hWκ hV
    have hWι := W_of hWκ (g3 43 (by omega))
    refine ⟨ι, g3, fun r hr => ?_⟩
    refine zE_for (fun k => (ruT T k, (if ruT T k = -9 then -1 else owesT T (ruT T k)), (k : Int), ι)) (tot T).toNat ?_ (fun k hk => ?_) hr
    · unfold e_M_ruined
      rw [g1]; rfl
    · have hk2 := ruT_in T k
      have hk3 := owesT_in hV (k : Int)
      show b_M_ruined_11 (ruT T k) (if ruT T k = -9 then -1 else owesT T (ruT T k)) (k : Int) ι = _
      unfold b_M_ruined_11 j_M_ruined_37
      rw [M_houses hWι hV, z_some_bind, if_pos (by omega), M_owesAll hV g2 (by omega) (by omega), z_some_bind, z32_id (by omega) (by omega)]
      show _ = some (Sum.inl (ruT T (k + 1), (if ruT T (k + 1) = -9 then -1 else owesT T (ruT T (k + 1))), ((k + 1 : Nat) : Int), ι))
      by_cases c : ruT T k = -9
      · have e : ruT T (k + 1) = (k : Int) := by unfold ruT; rw [if_pos c]
        rw [if_pos c, if_pos (by omega), if_pos (by omega), e, if_neg (by omega)]; rfl
      · rw [if_neg c]
        by_cases d : owesT T (ruT T k) < owesT T k
        · have e : ruT T (k + 1) = (k : Int) := by unfold ruT; rw [if_neg c, if_pos d]
          rw [if_pos d, if_pos d, e, if_neg (by omega)]; rfl
        · have e : ruT T (k + 1) = ruT T k := by conv => lhs; unfold ruT
                                                 rw [if_neg c, if_neg d]
          rw [if_neg d, if_neg d, e, if_neg c]; rfl
  by_cases c : ruT T (tot T).toNat = -9
  · have x1 : f_X_ruined μ = some (-9, ν) := zE_go (eX _ (by unfold b_X_ruined_19 f_R_houseCount; rw [hRν.2.1, if_neg (by omega), if_pos c, c]; exact zE_ret))
    obtain ⟨ι, i1, i2⟩ := eM ν (W_of hW (e3 43 (by omega)))
    have hWι := W_of (W_of hW (e3 43 (by omega))) (i1 43 (by omega))
    refine ⟨-9, ν, x1, ι, zE_go (i2 _ ?_), Rel_reckon h e3 i1⟩
    unfold b_M_ruined_11
    rw [M_houses hWι hV, z_some_bind, if_neg (by omega), if_pos c]
    exact zE_ret
  · have x1 : f_X_ruined μ = some (ruT T (tot T).toNat, zst ν 0 9 (owesT T (ruT T (tot T).toNat))) := zE_go (eX _ (by unfold b_X_ruined_19 f_R_houseCount; rw [hRν.2.1, if_neg (by omega), if_neg c, L_owingOf hV e2, z_some_bind, if_pos (by omega)]; exact zE_ret))
    have hW2 : IsV (zst ν 0 9 (owesT T (ruT T (tot T).toNat)) 43) T := W_of hW (by rw [zst_p (by omega), e3 43 (by omega)])
    obtain ⟨ι, i1, i2⟩ := eM _ hW2
    have hWι := W_of hW2 (i1 43 (by omega))
    refine ⟨_, _, x1, _, zE_go (i2 _ ?_), Rel_reckon_tells h e3 i1⟩
    unfold b_M_ruined_11 f_M_tells
    rw [M_houses hWι hV, z_some_bind, if_neg (by omega), if_neg c, if_neg c]
    exact zE_ret
theorem A_sways (h : Rel μ) : zAg (f_X_sways μ) (f_M_sways) := by
  obtain ⟨T, hV, hR, hW⟩ := Rel_T h
  have ht := tot_le hV
  have hn := nT_le hV
  have hn0 := nT_nn T
  have x1 : f_X_sways μ = some (fsN (fun i => swN T i) (tot T).toNat, zst μ 0 9 (ctN (fun i => swN T i) (tot T).toNat)) := by
    refine zE_go (zE_two (fun t => .inl (fsN (fun i => swN T i) (numT T t 0).toNat, ctN (fun i => swN T i) (numT T t 0).toNat, (t : Int), μ)) (fun t s => .inr (fsN (fun i => swN T i) (numT T t s).toNat, ctN (fun i => swN T i) (numT T t s).toNat, (t : Int), (s : Int), μ)) (nT T).toNat (fun t => (hT T t).toNat) rfl (fun t h1 => ?_) (fun t s h1 h2 => ?_) (fun t h1 => ?_) ?_)
    · show b_X_sways_16 _ _ (t : Int) μ = _
      unfold b_X_sways_16 f_R_towerCount
      rw [hR.1, if_pos (by omega)]
      rfl
    · have h3 := hT_le hV t
      have h4 := numT_in hV (t := t) (s := s) (by omega) (by omega)
      obtain ⟨q1, q2⟩ := tw_num hV (t := t) (s := s) (by omega) (by omega)
      have hc := ctN_in (fun i => swN T i) (numT T t s).toNat
      have e3 : numT T t ((s + 1 : Nat) : Int) = numT T t s + 1 := by rw [numT_s, numT_s (s := (s : Int))]; omega
      have e4 : swN T (((numT T t s).toNat : Nat) : Int) = swT T t s := by unfold swN; rw [show (((numT T t s).toNat : Nat) : Int) = numT T t s by omega, q1, q2]
      show b_X_sways_28 (fsN (fun i => swN T i) (numT T t s).toNat) (ctN (fun i => swN T i) (numT T t s).toNat) (t : Int) (s : Int) μ = _
      unfold b_X_sways_28
      rw [R_heightOf hR hV, z_some_bind, if_pos (by omega), R_isSwaying hR hV (by omega) (by omega), z_some_bind, z32_id (z := (s : Int) + 1) (by omega) (by omega), z32_id (z := ctN (fun i => swN T i) (numT T t s).toNat + 1) (by omega) (by omega), R_numberOf hR hV (by omega) (by omega) (by omega) (by omega), z_some_bind]
      rw [e3, show (numT T t s + 1).toNat = (numT T t s).toNat + 1 by omega]
      show _ = some (Sum.inl (Sum.inr (fsN (fun i => swN T i) ((numT T t s).toNat + 1), ctN (fun i => swN T i) (numT T t s).toNat + (if swN T (((numT T t s).toNat : Nat) : Int) then 1 else 0), (t : Int), ((s + 1 : Nat) : Int), μ)))
      have ef : fsN (fun i => swN T i) ((numT T t s).toNat + 1) = if ctN (fun i => swN T i) (numT T t s).toNat = 0 then (if swN T (((numT T t s).toNat : Nat) : Int) then (((numT T t s).toNat : Nat) : Int) else -9) else fsN (fun i => swN T i) (numT T t s).toNat := rfl
      rw [ef, e4]
      by_cases c : swT T t s = true
      · rw [z_if1 c, if_pos c, if_pos c]
        by_cases d : ctN (fun i => swN T i) (numT T t s).toNat = 0
        · rw [if_pos d, if_pos d, show (((numT T t s).toNat : Nat) : Int) = numT T t s by omega]; rfl
        · rw [if_neg d, if_neg d]; rfl
      · rw [z_if0 c, if_neg c, if_neg c, Int.add_zero]
        by_cases d : ctN (fun i => swN T i) (numT T t s).toNat = 0
        · rcases fsN_in (fun i => swN T i) (numT T t s).toNat with f | f
          · rw [if_pos d, f.2]; rfl
          · exact absurd d f.1
        · rw [if_neg d]; rfl
    · have e := numT_next (T := T) (t := t) (by omega)
      have h3 := hT_nn T t
      show b_X_sways_28 (fsN (fun i => swN T i) (numT T t ((hT T t).toNat : Int)).toNat) (ctN (fun i => swN T i) (numT T t ((hT T t).toNat : Int)).toNat) (t : Int) ((hT T t).toNat : Int) μ = _
      unfold b_X_sways_28
      rw [R_heightOf hR hV, z_some_bind, if_neg (by omega), z32_id (by omega) (by omega), show ((hT T t).toNat : Int) = hT T t by omega, ← e]
      rfl
    · show zE _ (b_X_sways_16 (fsN (fun i => swN T i) (numT T ((nT T).toNat : Int) 0).toNat) (ctN (fun i => swN T i) (numT T ((nT T).toNat : Int) 0).toNat) ((nT T).toNat : Int) μ) _
      unfold b_X_sways_16 f_R_towerCount
      rw [hR.1, if_neg (by omega), show ((nT T).toNat : Int) = nT T by omega, tot_num hV]
      exact zE_ret
  have hc := ctN_in (fun i => swN T i) (tot T).toNat
  have hb := zset2_b (fun n => swN T n) (tot T).toNat
  have hp := z_pow (tot T).toNat (by omega)
  refine ⟨_, _, x1, _, ?_, Rel_tells (v := ctN (fun i => swN T i) (tot T).toNat) h⟩
  have hW2 := W_of (ν := zst μ 0 9 (ctN (fun i => swN T i) (tot T).toNat)) hW (zst_p (by omega))
  have ep := zpop_set (tot T).toNat (fun n => swN T n) (by omega)
  unfold f_M_sways f_M_tells
  rw [M_swaying hW2 hV, z_some_bind]
  by_cases c : ctN (fun i => swN T i) (tot T).toNat = 0
  · rw [zset2_0 (ctN_0 _ _ c), if_pos rfl, c]
    rcases fsN_in (fun i => swN T i) (tot T).toNat with f | f
    · rw [f.2]; rfl
    · exact absurd c f.1
  · rw [if_neg (fun z => c (by rw [z] at ep; exact ep.symm.trans rfl)), M_ones hb.1 (by omega), z_some_bind, M_firstOf (by omega) c, z_some_bind, ep]
    rfl
end AG5
