/-! high: plain houses on one tower till it sways or there's no room -/
def upT (T : zT) (t b : Int) : Nat → zT
  | 0 => T
  | m + 1 => addT (upT T t b m) t 0 b
def okT (T : zT) (t b : Int) (m : Nat) : Prop := (hT T t + m < 6 ∧ tot T + m < 12) ∧ stT (upT T t b (m + 1)) = true
section HI
variable {μ : zM} {T : zT} {t b : Int}
theorem upT_in (hV : VT T) (h1 : 0 ≤ t) (h2 : t < nT T) (hb : 0 ≤ b ∧ b < 10) : ∀ m : Nat, hT T t + m ≤ 6 → tot T + m ≤ 12 → VT (upT T t b m) ∧ nT (upT T t b m) = nT T ∧ hT (upT T t b m) t = hT T t + m ∧ tot (upT T t b m) = tot T + m
  | 0, _, _ => ⟨hV, rfl, by show hT T t = _; omega, by show tot T = _; omega⟩
  | m + 1, a1, a2 => by
    obtain ⟨q1, q2, q3, q4⟩ := upT_in hV h1 h2 hb m (by omega) (by omega)
    have e : upT T t b (m + 1) = addT (upT T t b m) t 0 b := rfl
    rw [e]
    refine ⟨addT_V q1 h1 (by omega) (by omega) (by omega) ⟨by omega, by omega⟩ hb, by rw [addT_n, q2], ?_, ?_⟩
    · rw [addT_h h1 (by omega), if_pos rfl, q3]; omega
    · rw [addT_t h1 (by omega), q4]; omega
/-- how many fit: n is the first that does not, or 6 -/
theorem X_high (hR : IsR μ 8 T) (hV : VT T) (h1 : 0 ≤ t) (h2 : t < nT T) (hb : 0 ≤ b ∧ b < 10) {n : Nat} (hn : n ≤ 6) (hok : ∀ m, m < n → okT T t b m) (hnot : ¬ okT T t b n) : ∃ ν, zOut μ ν 13 22 ∧ f_X_high t b μ = some ((n : Int), ν) := by
  obtain ⟨ν0, e1, e2, e3⟩ := R_takeFrom (o := 13) (μ := μ) hR hV (by omega)
  have hle : hT T t + n ≤ 6 ∧ tot T + n ≤ 12 := by
    have g1 := hT_le hV t
    have g2 := tot_le hV
    cases n with
    | zero => omega
    | succ n => have := (hok n (by omega)).1; omega
  suffices hq : zQ (t_X_high t b) (e_X_high t b μ) (fun r => ∃ ν, zOut μ ν 13 22 ∧ r = ((n : Int), ν)) by
    obtain ⟨r, g1, ν, g2, g3⟩ := zQ_go hq
    exact ⟨ν, g2, by rw [← g3]; exact g1⟩
  refine zQ_for (fun m q => ∃ ν, q = ((m : Int), ν) ∧ IsR ν 13 (upT T t b m) ∧ zOut μ ν 13 22) n (s0 := (0, ν0)) ?_ ⟨ν0, rfl, e2, zOut_le e3 (by omega) (by omega)⟩ ?_ ?_
  · unfold e_X_high
    rw [R_isTower hR, z_if1 ⟨h1, h2⟩, X_isBorne, z_if1 hb, e1]; rfl
  · rintro m _ hm ⟨ν, rfl, q1, q2⟩
    obtain ⟨o1, o2⟩ := hok m hm
    obtain ⟨u1, u2, u3, u4⟩ := upT_in hV h1 h2 hb m (by omega) (by omega)
    have ev : VT (upT T t b (m + 1)) := (upT_in hV h1 h2 hb (m + 1) (by omega) (by omega)).1
    obtain ⟨κ, f1, f2, f3⟩ := R_push (o := 13) (k := 0) q1 u1 (t := t) h1 (by omega) (by omega) (by omega) ⟨by omega, by omega⟩ hb
    have f2' : IsR κ 13 (upT T t b (m + 1)) := f2
    show ∃ u, b_X_high_39 t b (m : Int) ν = some (.inl u) ∧ _
    unfold b_X_high_39
    rw [if_pos (by omega), f1, z_some_bind, if_neg (by omega), R_isSteady f2' ev, z_some_bind]
    have es : anyT (upT T t b (m + 1)) (swT (upT T t b (m + 1))) = false := by unfold stT at o2; simpa using o2
    rw [es, if_neg (by simp), z32_id (by omega) (by omega)]
    exact ⟨_, rfl, κ, rfl, f2', zOut_trans q2 (zOut_le f3 (by omega) (by omega))⟩
  · rintro _ ⟨ν, rfl, q1, q2⟩
    obtain ⟨u1, u2, u3, u4⟩ := upT_in hV h1 h2 hb n hle.1 hle.2
    show zQ _ (b_X_high_39 t b (n : Int) ν) _
    unfold b_X_high_39
    by_cases n6 : n = 6
    · rw [if_neg (by omega)]
      exact zQ_ret ⟨ν, q2, rfl⟩
    rw [if_pos (by omega)]
    by_cases c : hT T t + n < 6 ∧ tot T + n < 12
    · have ev : VT (upT T t b (n + 1)) := (upT_in hV h1 h2 hb (n + 1) (by omega) (by omega)).1
      obtain ⟨κ, f1, f2, f3⟩ := R_push (o := 13) (k := 0) q1 u1 (t := t) h1 (by omega) (by omega) (by omega) ⟨by omega, by omega⟩ hb
      have f2' : IsR κ 13 (upT T t b (n + 1)) := f2
      rw [f1, z_some_bind, if_neg (by omega), R_isSteady f2' ev, z_some_bind]
      have es : anyT (upT T t b (n + 1)) (swT (upT T t b (n + 1))) = true := by
        cases hh : anyT (upT T t b (n + 1)) (swT (upT T t b (n + 1))) with
        | true => rfl
        | false => exact absurd ⟨c, by unfold stT; rw [hh]; rfl⟩ hnot
      rw [es, if_pos (by simp)]
      exact zQ_ret ⟨κ, zOut_trans q2 (zOut_le f3 (by omega) (by omega)), rfl⟩
    · rw [R_push0 q1 u1 (fun z => c ⟨by omega, by omega⟩), z_some_bind, if_pos rfl]
      exact zQ_ret ⟨ν, q2, rfl⟩
theorem M_high (hW : IsV (μ 43) T) (hV : VT T) (h1 : 0 ≤ t) (h2 : t < nT T) (hb : 0 ≤ b ∧ b < 10) {n : Nat} (hn : n ≤ 6) (hok : ∀ m, m < n → okT T t b m) (hnot : ¬ okT T t b n) : ∃ κ, zRest μ κ ∧ f_M_high t b μ = some ((n : Int), κ) := by
  obtain ⟨ν0, e1, e2⟩ := M_lays (μ := μ)
  have hle : hT T t + n ≤ 6 ∧ tot T + n ≤ 12 := by
    have g1 := hT_le hV t
    have g2 := tot_le hV
    cases n with
    | zero => omega
    | succ n => have := (hok n (by omega)).1; omega
  suffices hq : zQ (t_M_high t b) (e_M_high t b μ) (fun r => ∃ ν, zRest μ ν ∧ r = ((n : Int), ν)) by
    obtain ⟨r, g1, ν, g2, g3⟩ := zQ_go hq
    exact ⟨ν, g2, by rw [← g3]; exact g1⟩
  refine zQ_for (fun m q => ∃ ν, q = ((m : Int), (1 : Int), ν) ∧ IsV (ν 43) (upT T t b m) ∧ zHeld μ ν) n (s0 := (0, 1, ν0)) ?_ ⟨ν0, rfl, zRest_W e2 hV hW, e2.1⟩ ?_ ?_
  · unfold e_M_high
    rw [M_isTower hW hV, z_if1 ⟨h1, h2⟩, M_in, z_if1 (by omega), e1]; rfl
  · rintro m _ hm ⟨ν, rfl, q1, q2⟩
    obtain ⟨o1, o2⟩ := hok m hm
    obtain ⟨u1, u2, u3, u4⟩ := upT_in hV h1 h2 hb m (by omega) (by omega)
    have ev : VT (upT T t b (m + 1)) := (upT_in hV h1 h2 hb (m + 1) (by omega) (by omega)).1
    obtain ⟨κ, f1, f2, f3, _⟩ := M_adds (b := 0) (t := t) (k := 0) (a := b) (by omega) (by rw [zAt_0]; exact q1) u1 h1 (by omega) (by omega) (by omega) hb.1
    rw [zAt_0] at f2
    have f2' : IsV (κ 43) (upT T t b (m + 1)) := f2
    have f1' : f_M_adds 0 t 0 b ν = some κ := f1
    show ∃ u, b_M_high_31 t b (m : Int) 1 ν = some (.inl u) ∧ _
    unfold b_M_high_31 j_M_high_64
    rw [if_neg (by omega), M_hasRoom q1 u1 h1 (by omega), z_some_bind, z_if1 (by omega), f1', z_some_bind, M_swaying f2' ev, z_some_bind, if_pos ((sw_iff ev).mpr o2), if_neg (by omega), z32_id (by omega) (by omega)]
    exact ⟨_, rfl, κ, rfl, f2', zHeld_43 q2 f3⟩
  · rintro _ ⟨ν, rfl, q1, q2⟩
    obtain ⟨u1, u2, u3, u4⟩ := upT_in hV h1 h2 hb n hle.1 hle.2
    show zQ _ (b_M_high_31 t b (n : Int) 1 ν) _
    unfold b_M_high_31 j_M_high_64
    rw [if_neg (by omega), M_hasRoom q1 u1 h1 (by omega), z_some_bind]
    by_cases c : hT T t + n < 6 ∧ tot T + n < 12
    · have ev : VT (upT T t b (n + 1)) := (upT_in hV h1 h2 hb (n + 1) (by omega) (by omega)).1
      obtain ⟨κ, f1, f2, f3, _⟩ := M_adds (b := 0) (t := t) (k := 0) (a := b) (by omega) (by rw [zAt_0]; exact q1) u1 h1 (by omega) (by omega) (by omega) hb.1
      rw [zAt_0] at f2
      have f2' : IsV (κ 43) (upT T t b (n + 1)) := f2
      have f1' : f_M_adds 0 t 0 b ν = some κ := f1
      obtain ⟨θ, i1, i2⟩ := M_putsBack (zHeld_43 q2 f3)
      rw [z_if1 (by omega), f1', z_some_bind, M_swaying f2' ev, z_some_bind, if_neg (fun z => hnot ⟨c, (sw_iff ev).mp z⟩), if_pos rfl, Int.add_zero, z32_id (by omega) (by omega)]
      refine zQ_step ?_
      show zQ _ (b_M_high_31 t b (n : Int) 0 κ) _
      unfold b_M_high_31
      rw [if_pos rfl, i1, z_some_bind]
      exact zQ_ret ⟨θ, i2, rfl⟩
    · obtain ⟨θ, i1, i2⟩ := M_putsBack q2
      rw [z_if0 (by omega), i1, z_some_bind]
      exact zQ_ret ⟨θ, i2, rfl⟩
theorem A_high (h : Rel μ) : zAg (f_X_high t b μ) (f_M_high t b) := by
  obtain ⟨T, hV, hR, hW⟩ := Rel_T h
  by_cases c1 : 0 ≤ t ∧ t < nT T
  · by_cases c2 : 0 ≤ b ∧ b < 10
    · have hex : ∃ n, n < 6 + 1 ∧ (∀ m, m < n → okT T t b m) ∧ ¬ okT T t b n := by
        have key : ∀ N : Nat, (∀ m, m < N → okT T t b m) ∨ ∃ n, n < N ∧ (∀ m, m < n → okT T t b m) ∧ ¬ okT T t b n := by
          intro N
          induction N with
          | zero => left; intro m hm; omega
          | succ N ih =>
            rcases ih with g | ⟨n, g1, g2, g3⟩
            · by_cases d : okT T t b N
              · left; intro m hm
                by_cases e : m = N
                · subst e; exact d
                · exact g m (by omega)
              · right; exact ⟨N, by omega, g, d⟩
            · right; exact ⟨n, by omega, g2, g3⟩
        rcases key 7 with g | ⟨n, g1, g2, g3⟩
        · have := (g 6 (by omega)).1.1
          have := hT_nn T t
          omega
        · exact ⟨n, g1, g2, g3⟩
      obtain ⟨n, n1, n2, n3⟩ := hex
      obtain ⟨ν, e1, e2⟩ := X_high hR hV c1.1 c1.2 c2 (by omega) n2 n3
      obtain ⟨κ, g1, g2⟩ := M_high (μ := ν) (W_of hW (e1 43 (by omega))) hV c1.1 c1.2 c2 (by omega) n2 n3
      exact ⟨_, ν, e2, κ, g2, Rel_rest h e1 g1⟩
    · have e : f_X_high t b μ = some (-1, μ) := zE_go (by unfold e_X_high; rw [R_isTower hR, z_if1 c1, X_isBorne, z_if0 c2]; exact zE_ret)
      rw [e]
      refine zAg_same h (zE_go ?_)
      unfold e_M_high
      rw [M_isTower hW hV, z_if1 c1, M_in, z_if0 (by omega)]
      exact zE_ret
  · have e : f_X_high t b μ = some (-1, μ) := zE_go (by unfold e_X_high; rw [R_isTower hR, z_if0 c1]; exact zE_ret)
    rw [e]
    refine zAg_same h (zE_go ?_)
    unfold e_M_high
    rw [M_isTower hW hV, z_if0 c1]
    exact zE_ret
end HI
