/-! best -/
def bsT (T : zT) (k b : Int) : Nat → Int × Int
  | 0 => (-9, 0)
  | t + 1 => if hT T t < 6 ∧ tot T < 12 then (if stT (addT T t k b) = true then (if (bsT T k b t).1 = -9 then ((t : Int), alT (addT T t k b)) else if alT (addT T t k b) < (bsT T k b t).2 then ((t : Int), alT (addT T t k b)) else bsT T k b t) else bsT T k b t) else bsT T k b t
theorem bsT_s (T : zT) (k b : Int) (t : Nat) : bsT T k b (t + 1) = if hT T t < 6 ∧ tot T < 12 then (if stT (addT T t k b) = true then (if (bsT T k b t).1 = -9 then ((t : Int), alT (addT T t k b)) else if alT (addT T t k b) < (bsT T k b t).2 then ((t : Int), alT (addT T t k b)) else bsT T k b t) else bsT T k b t) else bsT T k b t := rfl
theorem bsT_in {T : zT} {k b : Int} (hV : VT T) (hk : 0 ≤ k ∧ k < 6) (hb : 0 ≤ b ∧ b < 10) : ∀ t : Nat, (t : Int) ≤ nT T → ((bsT T k b t).1 = -9 ∨ (0 ≤ (bsT T k b t).1 ∧ 0 ≤ (bsT T k b t).2 ∧ (bsT T k b t).2 ≤ 120))
  | 0, _ => Or.inl rfl
  | t + 1, h => by
    have ih := bsT_in hV hk hb t (by omega)
    rw [bsT_s]
    by_cases c : hT T t < 6 ∧ tot T < 12
    · have ha := alT_in (addT_V hV (t := t) (by omega) (by omega) c.1 c.2 hk hb)
      rw [if_pos c]
      by_cases d : stT (addT T t k b) = true
      · rw [if_pos d]
        by_cases e : (bsT T k b t).1 = -9
        · rw [if_pos e]; right; dsimp only; omega
        · rw [if_neg e]
          by_cases f : alT (addT T t k b) < (bsT T k b t).2
          · rw [if_pos f]; right; dsimp only; omega
          · rw [if_neg f]; exact ih
      · rw [if_neg d]; exact ih
    · rw [if_neg c]; exact ih
section BS
variable {μ : zM} {T : zT} {k b : Int}
/-- a house pushed and popped again aside -/
theorem R_pushpop {ν : zM} {t : Int} (hR : IsR ν 13 (addT T t k b)) (hV : VT (addT T t k b)) (h1 : 0 ≤ t) (h2 : t < nT T) : ∃ κ, f_R_pop 13 t ν = some κ ∧ IsR κ 13 T ∧ zOut ν κ 13 15 := by
  have h0 := hT_nn T t
  have e := addT_h (T := T) (k := k) (b := b) (x := t) h1 h2
  rw [if_pos rfl] at e
  obtain ⟨κ, e1, e2, e3⟩ := R_pop hR hV (t := t) (by omega)
  rw [e, show hT T t + 1 - 1 = hT T t by omega, gonT_addT h1 h2] at e2
  exact ⟨κ, e1, e2, e3⟩
theorem zOut_le {ν κ : zM} {a c a' c' : Nat} (h : zOut ν κ a c) (h1 : a' ≤ a) (h2 : c ≤ c') : zOut ν κ a' c' := fun o ho => h o (by omega)
theorem X_best (hR : IsR μ 8 T) (hV : VT T) (hk : 0 ≤ k ∧ k < 6) (hb : 0 ≤ b ∧ b < 10) (h0 : nT T ≠ 0) : ∃ ν, zOut μ ν 13 22 ∧ f_X_best k b μ = some ((bsT T k b (nT T).toNat).1, if (bsT T k b (nT T).toNat).1 = -9 then ν else zst ν 0 9 (bsT T k b (nT T).toNat).2) := by
  have hn := nT_le hV
  have hn0 := nT_nn T
  obtain ⟨ν0, e1, e2, e3⟩ := R_takeFrom (o := 13) (μ := μ) hR hV (by omega)
  suffices hq : zQ (t_X_best k b) (e_X_best k b μ) (fun r => ∃ ν, zOut μ ν 13 22 ∧ r = ((bsT T k b (nT T).toNat).1, if (bsT T k b (nT T).toNat).1 = -9 then ν else zst ν 0 9 (bsT T k b (nT T).toNat).2)) by
    obtain ⟨r, g1, ν, g2, g3⟩ := zQ_go hq
    exact ⟨ν, g2, by rw [← g3]; exact g1⟩
  refine zQ_for (fun t q => ∃ ν, q = ((bsT T k b t).1, (bsT T k b t).2, (t : Int), ν) ∧ IsR ν 13 T ∧ zOut μ ν 13 22) (nT T).toNat (s0 := (-9, 0, 0, ν0)) ?_ ⟨ν0, rfl, e2, zOut_le e3 (by omega) (by omega)⟩ ?_ ?_
  · unfold e_X_best f_R_towerCount
    rw [X_isKind, z_if1 hk, X_isBorne, z_if1 hb, hR.1, if_neg h0, e1]; rfl
  · rintro t _ ht ⟨ν, rfl, q1, q2⟩
    show ∃ u, b_X_best_55 k b (bsT T k b t).1 (bsT T k b t).2 (t : Int) ν = some (.inl u) ∧ _
    unfold b_X_best_55 f_R_towerCount
    rw [q1.1, if_pos (by omega), z32_id (z := (t : Int) + 1) (by omega) (by omega), bsT_s]
    by_cases c : hT T t < 6 ∧ tot T < 12
    · obtain ⟨κ, f1, f2, f3⟩ := R_push (o := 13) q1 hV (t := t) (by omega) (by omega) c.1 c.2 hk hb
      have hV' := addT_V hV (t := t) (by omega) (by omega) c.1 c.2 hk hb
      obtain ⟨ι, g1, g2, g3⟩ := X_lampsWhereSteady f2 hV'
      obtain ⟨θ, i1, i2, i3⟩ := R_pushpop g2 hV' (by omega) (by omega)
      have ho : zOut μ θ 13 22 := zOut_trans (zOut_trans (zOut_trans q2 (zOut_le f3 (by omega) (by omega))) (zOut_le g3 (by omega) (by omega))) (zOut_le i3 (by omega) (by omega))
      have ha := alT_in hV'
      rw [f1, z_some_bind, if_neg (by omega), g1, z_some_bind, i1, z_some_bind, if_pos c]
      dsimp only
      by_cases d : stT (addT T t k b) = true
      · rw [if_pos d, if_pos d, if_neg (by omega)]
        by_cases e : (bsT T k b t).1 = -9
        · rw [if_pos e, if_pos e]; exact ⟨_, rfl, θ, rfl, i2, ho⟩
        · rw [if_neg e, if_neg e]
          by_cases f : alT (addT T t k b) < (bsT T k b t).2
          · rw [if_pos f, if_pos f]; exact ⟨_, rfl, θ, rfl, i2, ho⟩
          · rw [if_neg f, if_neg f]; exact ⟨_, rfl, θ, rfl, i2, ho⟩
      · rw [if_neg d, if_neg d, if_pos rfl]; exact ⟨_, rfl, θ, rfl, i2, ho⟩
    · rw [R_push0 q1 hV (fun z => c z.2), z_some_bind, if_pos rfl, if_neg c]
      exact ⟨_, rfl, ν, rfl, q1, q2⟩
  · rintro _ ⟨ν, rfl, q1, q2⟩
    show zQ _ (b_X_best_55 k b (bsT T k b (nT T).toNat).1 (bsT T k b (nT T).toNat).2 ((nT T).toNat : Int) ν) _
    unfold b_X_best_55 f_R_towerCount
    rw [q1.1, if_neg (by omega)]
    by_cases e : (bsT T k b (nT T).toNat).1 = -9
    · rw [if_pos e]; exact zQ_ret ⟨ν, q2, by rw [if_pos e]⟩
    · rw [if_neg e]; exact zQ_ret ⟨ν, q2, by rw [if_neg e]⟩
/-- what the model finds when a rock's tried: its lamps, or very many -/
theorem M_try {ν : zM} (hW : IsV (ν 43) T) (hV : VT T) {ρ : Type} (f : Int → zM → Option ρ) : (f_M_swaying ν).bind (fun q5 => if q5 = 0 then (f_M_allLamps ν).bind fun q6 => f q6.1 q6.2 else f 1000000 ν) = (if stT T = true then (f_M_allLamps ν).bind fun q6 => f q6.1 q6.2 else f 1000000 ν) := by
  rw [M_swaying hW hV, z_some_bind]
  by_cases c : stT T = true
  · rw [if_pos ((sw_iff hV).mpr c), if_pos c]
  · rw [if_neg (fun z => c ((sw_iff hV).mp z)), if_neg c]
theorem M_best (hW : IsV (μ 43) T) (hV : VT T) (hk : 0 ≤ k ∧ k < 6) (hb : 0 ≤ b ∧ b < 10) (h0 : nT T ≠ 0) : ∃ κ, zRest μ κ ∧ f_M_best k b μ = some ((bsT T k b (nT T).toNat).1, if (bsT T k b (nT T).toNat).1 = -9 then κ else zst κ 42 10 (bsT T k b (nT T).toNat).2) := by
  have hn := nT_le hV
  have hn0 := nT_nn T
  obtain ⟨ν0, e1, e2⟩ := M_lays (μ := μ)
  suffices hq : zQ (t_M_best k b) (e_M_best k b μ) (fun r => ∃ ν, zRest μ ν ∧ r = ((bsT T k b (nT T).toNat).1, if (bsT T k b (nT T).toNat).1 = -9 then ν else zst ν 42 10 (bsT T k b (nT T).toNat).2)) by
    obtain ⟨r, g1, ν, g2, g3⟩ := zQ_go hq
    exact ⟨ν, g2, by rw [← g3]; exact g1⟩
  refine zQ_for (fun t q => ∃ ν, q = ((bsT T k b t).1, (if (bsT T k b t).1 = -9 then 1000000 else (bsT T k b t).2), (t : Int), ν) ∧ zRest μ ν) (nT T).toNat (s0 := (-9, 1000000, 0, ν0)) ?_ ⟨ν0, rfl, e2⟩ ?_ ?_
  · unfold e_M_best f_M_isNone f_M_isKind
    rw [M_in, z_if1 (by omega), M_in, z_if1 (by omega), hW.1, z_if0 h0, e1]; rfl
  · rintro t _ ht ⟨ν, rfl, q1⟩
    have hWν := zRest_W q1 hV hW
    have hin := bsT_in hV hk hb t (by omega)
    show ∃ u, b_M_best_45 k b (bsT T k b t).1 (if (bsT T k b t).1 = -9 then 1000000 else (bsT T k b t).2) (t : Int) ν = some (.inl u) ∧ _
    unfold b_M_best_45
    rw [hWν.1, if_pos (by omega), M_hasRoom hWν hV (by omega) (by omega), z_some_bind, z32_id (z := (t : Int) + 1) (by omega) (by omega)]
    by_cases c : hT T t < 6 ∧ tot T < 12
    · have hW0 : IsV (zAt ν 0) T := by rw [zAt_0]; exact hWν
      obtain ⟨κ, f1, f2, f3, _⟩ := M_adds (b := 0) (t := t) (k := k) (a := b) (by omega) hW0 hV (by omega) (by omega) c.1 hk.1 hb.1
      have hV' := addT_V hV (t := t) (by omega) (by omega) c.1 c.2 hk hb
      have ha := alT_in hV'
      rw [zAt_0] at f2
      have f1' : f_M_adds 0 (t : Int) k b ν = some κ := f1
      have hH := zHeld_43 q1.1 f3
      rw [z_if1 c, f1', z_some_bind, M_try f2 hV' (fun a m => j_M_best_90 k b (bsT T k b t).1 (if (bsT T k b t).1 = -9 then 1000000 else (bsT T k b t).2) (t : Int) a m)]
      by_cases d : stT (addT T t k b) = true
      · obtain ⟨⟨al, ι⟩, g1, g2, _, g4⟩ := M_allLamps f2 hV'
        dsimp only at g2 g4
        subst g2
        have hH2 := zHeld_51 hH g4
        obtain ⟨θ, i1, i2⟩ := M_putsBack hH2
        rw [if_pos d, g1, z_some_bind]
        unfold j_M_best_90 j_M_best_105
        rw [i1, z_some_bind, z_some_bind, z32_id (z := (t : Int) + 1) (by omega) (by omega)]
        by_cases e : (bsT T k b t).1 = -9
        · have es : bsT T k b (t + 1) = ((t : Int), alT (addT T t k b)) := by rw [bsT_s, if_pos c, if_pos d, if_pos e]
          rw [if_pos e, if_pos (by omega), if_pos (by omega)]
          refine ⟨_, rfl, θ, ?_, i2⟩
          rw [es, if_neg (by omega)]; rfl
        · rw [if_neg e]
          by_cases f : alT (addT T t k b) < (bsT T k b t).2
          · have es : bsT T k b (t + 1) = ((t : Int), alT (addT T t k b)) := by rw [bsT_s, if_pos c, if_pos d, if_neg e, if_pos f]
            rw [if_pos f, if_pos f]
            refine ⟨_, rfl, θ, ?_, i2⟩
            rw [es, if_neg (by omega)]; rfl
          · have es : bsT T k b (t + 1) = bsT T k b t := by rw [bsT_s, if_pos c, if_pos d, if_neg e, if_neg f]
            rw [if_neg f, if_neg f]
            refine ⟨_, rfl, θ, ?_, i2⟩
            rw [es, if_neg e]; rfl
      · have es : bsT T k b (t + 1) = bsT T k b t := by rw [bsT_s, if_pos c, if_neg d]
        obtain ⟨θ, i1, i2⟩ := M_putsBack hH
        rw [if_neg d]
        unfold j_M_best_90 j_M_best_105
        rw [i1, z_some_bind, z_some_bind, z32_id (z := (t : Int) + 1) (by omega) (by omega)]
        have nl : ¬ (1000000 : Int) < (if (bsT T k b t).1 = -9 then 1000000 else (bsT T k b t).2) := by split <;> omega
        rw [if_neg nl, if_neg nl]
        refine ⟨_, rfl, θ, ?_, i2⟩
        rw [es]; rfl
    · have es : bsT T k b (t + 1) = bsT T k b t := by rw [bsT_s, if_neg c]
      rw [z_if0 c]
      refine ⟨_, rfl, ν, ?_, q1⟩
      rw [es]; rfl
  · rintro _ ⟨ν, rfl, q1⟩
    have hWν := zRest_W q1 hV hW
    show zQ _ (b_M_best_45 k b (bsT T k b (nT T).toNat).1 (if (bsT T k b (nT T).toNat).1 = -9 then 1000000 else (bsT T k b (nT T).toNat).2) ((nT T).toNat : Int) ν) _
    unfold b_M_best_45 f_M_tells
    rw [hWν.1, if_neg (by omega)]
    by_cases e : (bsT T k b (nT T).toNat).1 = -9
    · rw [if_pos e]; exact zQ_ret ⟨ν, q1, by rw [if_pos e, e]⟩
    · rw [if_neg e, if_neg e]; exact zQ_ret ⟨ν, q1, by rw [if_neg e]⟩
theorem A_best (h : Rel μ) : zAg (f_X_best k b μ) (f_M_best k b) := by
  obtain ⟨T, hV, hR, hW⟩ := Rel_T h
  by_cases c1 : 0 ≤ k ∧ k < 6
  · by_cases c2 : 0 ≤ b ∧ b < 10
    · by_cases c3 : nT T = 0
      · have e : f_X_best k b μ = some (-4, μ) := zE_go (by unfold e_X_best f_R_towerCount; rw [X_isKind, z_if1 c1, X_isBorne, z_if1 c2, hR.1, if_pos c3]; exact zE_ret)
        rw [e]
        refine zAg_same h (zE_go ?_)
        unfold e_M_best f_M_isNone f_M_isKind
        rw [M_in, z_if1 (by omega), M_in, z_if1 (by omega), hW.1, z_if1 c3]
        exact zE_ret
      · obtain ⟨ν, e1, e2⟩ := X_best hR hV c1 c2 c3
        by_cases e : (bsT T k b (nT T).toNat).1 = -9
        · obtain ⟨κ, g1, g2⟩ := M_best (μ := ν) (W_of hW (e1 43 (by omega))) hV c1 c2 c3
          rw [if_pos e] at e2 g2
          exact ⟨_, ν, e2, κ, g2, Rel_rest h e1 g1⟩
        · obtain ⟨κ, g1, g2⟩ := M_best (μ := zst ν 0 9 (bsT T k b (nT T).toNat).2) (W_of hW (by rw [zst_p (by omega), e1 43 (by omega)])) hV c1 c2 c3
          rw [if_neg e] at e2 g2
          exact ⟨_, _, e2, _, g2, Rel_rest_tells h e1 g1⟩
    · have e : f_X_best k b μ = some (-1, μ) := zE_go (by unfold e_X_best; rw [X_isKind, z_if1 c1, X_isBorne, z_if0 c2]; exact zE_ret)
      rw [e]
      refine zAg_same h (zE_go ?_)
      unfold e_M_best f_M_isKind
      rw [M_in, z_if1 (by omega), M_in, z_if0 (by omega)]
      exact zE_ret
  · have e : f_X_best k b μ = some (-1, μ) := zE_go (by unfold e_X_best; rw [X_isKind, z_if0 c1]; exact zE_ret)
    rw [e]
    refine zAg_same h (zE_go ?_)
    unfold e_M_best f_M_isKind
    rw [M_in, z_if0 (by omega)]
    exact zE_ret
end BS
