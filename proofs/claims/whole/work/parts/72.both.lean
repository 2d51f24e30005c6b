/-! both: two houses put on -/
def boS (T : zT) (k l b t u : Int) (q : Int × Int) : Int × Int := if hT T t < 6 ∧ tot T < 12 then (if hT (addT T t k b) u < 6 ∧ tot (addT T t k b) < 12 then (if stT (addT (addT T t k b) u l b) = true then (if q.1 = -9 then (10 * t + u, alT (addT (addT T t k b) u l b)) else if alT (addT (addT T t k b) u l b) < q.2 then (10 * t + u, alT (addT (addT T t k b) u l b)) else q) else q) else q) else q
def boI (T : zT) (k l b t : Int) (q : Int × Int) : Nat → Int × Int
  | 0 => q
  | u + 1 => boS T k l b t u (boI T k l b t q u)
def boT (T : zT) (k l b : Int) : Nat → Int × Int
  | 0 => (-9, 0)
  | t + 1 => boI T k l b t (boT T k l b t) (nT T).toNat
theorem boI_none {T : zT} {k l b t : Int} {q : Int × Int} (h : ¬ (hT T t < 6 ∧ tot T < 12)) : ∀ u, boI T k l b t q u = q
  | 0 => rfl
  | u + 1 => by
    show boS T k l b t u (boI T k l b t q u) = q
    rw [boI_none h u]; unfold boS; rw [if_neg h]
def boOk (q : Int × Int) : Prop := q.1 = -9 ∨ (0 ≤ q.1 ∧ 0 ≤ q.2 ∧ q.2 ≤ 120)
theorem boS_ok {T : zT} {k l b t u : Int} {q : Int × Int} (hV : VT T) (hk : 0 ≤ k ∧ k < 6) (hl : 0 ≤ l ∧ l < 6) (hb : 0 ≤ b ∧ b < 10) (h1 : 0 ≤ t) (h2 : t < nT T) (h3 : 0 ≤ u) (h4 : u < nT T) (hq : boOk q) : boOk (boS T k l b t u q) := by
  unfold boS
  by_cases c : hT T t < 6 ∧ tot T < 12
  · rw [if_pos c]
    have hV1 := addT_V hV h1 h2 c.1 c.2 hk hb
    by_cases d : hT (addT T t k b) u < 6 ∧ tot (addT T t k b) < 12
    · rw [if_pos d]
      have ha := alT_in (addT_V hV1 h3 (by rw [addT_n]; exact h4) d.1 d.2 hl hb)
      by_cases e : stT (addT (addT T t k b) u l b) = true
      · rw [if_pos e]
        by_cases f : q.1 = -9
        · rw [if_pos f]; right; dsimp only; omega
        · rw [if_neg f]
          by_cases g : alT (addT (addT T t k b) u l b) < q.2
          · rw [if_pos g]; right; dsimp only; omega
          · rw [if_neg g]; exact hq
      · rw [if_neg e]; exact hq
    · rw [if_neg d]; exact hq
  · rw [if_neg c]; exact hq
theorem boI_ok {T : zT} {k l b t : Int} {q : Int × Int} (hV : VT T) (hk : 0 ≤ k ∧ k < 6) (hl : 0 ≤ l ∧ l < 6) (hb : 0 ≤ b ∧ b < 10) (h1 : 0 ≤ t) (h2 : t < nT T) (hq : boOk q) : ∀ u : Nat, (u : Int) ≤ nT T → boOk (boI T k l b t q u)
  | 0, _ => hq
  | u + 1, h => boS_ok hV hk hl hb h1 h2 (by omega) (by omega) (boI_ok hV hk hl hb h1 h2 hq u (by omega))
theorem boT_ok {T : zT} {k l b : Int} (hV : VT T) (hk : 0 ≤ k ∧ k < 6) (hl : 0 ≤ l ∧ l < 6) (hb : 0 ≤ b ∧ b < 10) : ∀ t : Nat, (t : Int) ≤ nT T → boOk (boT T k l b t)
  | 0, _ => Or.inl rfl
  | t + 1, h => boI_ok hV hk hl hb (by omega) (by omega) (boT_ok hV hk hl hb t (by omega)) _ (by have := nT_nn T; omega)
section BO
variable {μ : zM} {T : zT} {k l b : Int}
theorem X_both (hR : IsR μ 8 T) (hV : VT T) (hk : 0 ≤ k ∧ k < 6) (hl : 0 ≤ l ∧ l < 6) (hb : 0 ≤ b ∧ b < 10) (h0 : nT T ≠ 0) : ∃ ν, zOut μ ν 13 22 ∧ f_X_both k l b μ = some ((boT T k l b (nT T).toNat).1, if (boT T k l b (nT T).toNat).1 = -9 then ν else zst ν 0 9 (boT T k l b (nT T).toNat).2) := by
  have hn := nT_le hV
  have hn0 := nT_nn T
  obtain ⟨ν0, e1, e2, e3⟩ := R_takeFrom (o := 13) (μ := μ) hR hV (by omega)
  suffices hq : zQ (t_X_both k l b) (e_X_both k l b μ) (fun r => ∃ ν, zOut μ ν 13 22 ∧ r = ((boT T k l b (nT T).toNat).1, if (boT T k l b (nT T).toNat).1 = -9 then ν else zst ν 0 9 (boT T k l b (nT T).toNat).2)) by
    obtain ⟨r, g1, ν, g2, g3⟩ := zQ_go hq
    exact ⟨ν, g2, by rw [← g3]; exact g1⟩
  refine zQ_nest (fun t q => ∃ ν, q = .inl (nT T, (boT T k l b t).1, (boT T k l b t).2, (t : Int), ν) ∧ IsR ν 13 T ∧ zOut μ ν 13 22) (nT T).toNat (s0 := .inl (nT T, -9, 0, 0, ν0)) ?_ ⟨ν0, rfl, e2, zOut_le e3 (by omega) (by omega)⟩ ?_ ?_
  · unfold e_X_both f_R_towerCount
    rw [X_isKind, z_if1 hk, X_isKind, z_if1 hl, X_isBorne, z_if1 hb, hR.1, if_neg h0, e1]; rfl
  · rintro t _ ht ⟨ν, rfl, q1, q2⟩ hgo
    have eN : boT T k l b (t + 1) = boI T k l b t (boT T k l b t) (nT T).toNat := rfl
    show zQ _ (b_X_both_67 k l b (nT T) (boT T k l b t).1 (boT T k l b t).2 (t : Int) ν) _
    unfold b_X_both_67
    rw [if_pos (by omega), z32_id (z := (t : Int) + 1) (by omega) (by omega)]
    by_cases c : hT T t < 6 ∧ tot T < 12
    · obtain ⟨κ, f1, f2, f3⟩ := R_push (o := 13) q1 hV (t := t) (by omega) (by omega) c.1 c.2 hk hb
      have hV1 := addT_V hV (t := t) (by omega) (by omega) c.1 c.2 hk hb
      have hN1 : nT (addT T t k b) = nT T := addT_n
      rw [f1, z_some_bind, if_neg (by omega)]
      refine zQ_for (fun u q => ∃ ι, q = .inr (nT T, (boI T k l b t (boT T k l b t) u).1, (boI T k l b t (boT T k l b t) u).2, (t : Int), (u : Int), ι) ∧ IsR ι 13 (addT T t k b) ∧ zOut μ ι 13 22) (nT T).toNat rfl ⟨κ, rfl, f2, zOut_trans q2 (zOut_le f3 (by omega) (by omega))⟩ ?_ ?_
      · rintro u _ hu ⟨ι, rfl, w1, w2⟩
        have eS : boI T k l b t (boT T k l b t) (u + 1) = boS T k l b t u (boI T k l b t (boT T k l b t) u) := rfl
        show ∃ s, b_X_both_94 k l b (nT T) (boI T k l b t (boT T k l b t) u).1 (boI T k l b t (boT T k l b t) u).2 (t : Int) (u : Int) ι = some (.inl s) ∧ _
        unfold b_X_both_94
        rw [if_pos (by omega), z32_id (z := (u : Int) + 1) (by omega) (by omega), z32_id (z := 10 * (t : Int)) (by omega) (by omega), z32_id (z := 10 * (t : Int) + u) (by omega) (by omega), eS]
        unfold boS
        rw [if_pos c]
        by_cases d : hT (addT T t k b) u < 6 ∧ tot (addT T t k b) < 12
        · obtain ⟨κ2, g1, g2, g3⟩ := R_push (o := 13) w1 hV1 (t := u) (by omega) (by omega) d.1 d.2 hl hb
          have hV2 := addT_V hV1 (t := u) (by omega) (by omega) d.1 d.2 hl hb
          obtain ⟨θ, i1, i2, i3⟩ := X_lampsWhereSteady g2 hV2
          obtain ⟨φ, j1, j2, j3⟩ := R_pushpop i2 hV2 (by omega) (by omega)
          have ho : zOut μ φ 13 22 := zOut_trans (zOut_trans (zOut_trans w2 (zOut_le g3 (by omega) (by omega))) (zOut_le i3 (by omega) (by omega))) (zOut_le j3 (by omega) (by omega))
          have ha := alT_in hV2
          rw [g1, z_some_bind, if_neg (by omega), i1, z_some_bind, j1, z_some_bind, if_pos d]
          dsimp only
          by_cases e : stT (addT (addT T t k b) u l b) = true
          · rw [if_pos e, if_pos e, if_neg (by omega)]
            by_cases f : (boI T k l b t (boT T k l b t) u).1 = -9
            · rw [if_pos f, if_pos f]; exact ⟨_, rfl, φ, rfl, j2, ho⟩
            · rw [if_neg f, if_neg f]
              by_cases g : alT (addT (addT T t k b) u l b) < (boI T k l b t (boT T k l b t) u).2
              · rw [if_pos g, if_pos g]; exact ⟨_, rfl, φ, rfl, j2, ho⟩
              · rw [if_neg g, if_neg g]; exact ⟨_, rfl, φ, rfl, j2, ho⟩
          · rw [if_neg e, if_neg e, if_pos rfl]; exact ⟨_, rfl, φ, rfl, j2, ho⟩
        · rw [R_push0 w1 hV1 (fun z => d z.2), z_some_bind, if_pos rfl, if_neg d]
          exact ⟨_, rfl, ι, rfl, w1, w2⟩
      · rintro _ ⟨ι, rfl, w1, w2⟩
        obtain ⟨φ, j1, j2, j3⟩ := R_pushpop w1 hV1 (by omega) (by omega)
        show zQ _ (b_X_both_94 k l b (nT T) (boI T k l b t (boT T k l b t) (nT T).toNat).1 (boI T k l b t (boT T k l b t) (nT T).toNat).2 (t : Int) ((nT T).toNat : Int) ι) _
        unfold b_X_both_94
        rw [if_neg (by omega), j1, z_some_bind, z32_id (by omega) (by omega)]
        exact hgo _ ⟨φ, by rw [eN]; rfl, j2, zOut_trans w2 (zOut_le j3 (by omega) (by omega))⟩
    · rw [R_push0 q1 hV (fun z => c z.2), z_some_bind, if_pos rfl]
      exact hgo _ ⟨ν, by rw [eN, boI_none c]; rfl, q1, q2⟩
  · rintro _ ⟨ν, rfl, q1, q2⟩
    show zQ _ (b_X_both_67 k l b (nT T) (boT T k l b (nT T).toNat).1 (boT T k l b (nT T).toNat).2 ((nT T).toNat : Int) ν) _
    unfold b_X_both_67
    rw [if_neg (by omega)]
    by_cases e : (boT T k l b (nT T).toNat).1 = -9
    · rw [if_pos e]; exact zQ_ret ⟨ν, q2, by rw [if_pos e]⟩
    · rw [if_neg e]; exact zQ_ret ⟨ν, q2, by rw [if_neg e]⟩
end BO
