/-! the now-story: deeds noted, taken back -/
theorem zRY_congr {y r h c a w v : Nat → Int} {d : Int} (H : zRY y r h c a w d) (e : ∀ k, k < 2706 → v k = w k) : zRY y r h c a v d := by
  obtain ⟨h1, h2, h3, T, hV, hR, hW, hD⟩ := H
  refine ⟨h1, h2, h3, T, hV, hR, IsV_congr hV (fun k hk => e k (by omega)) hW, fun i hi => ?_⟩
  obtain ⟨D, g1, g2, g3, g4⟩ := hD i hi
  exact ⟨D, g1, g2, g3, IsV_congr g1 (fun k hk => e _ (by omega)) g4⟩
theorem zR5_43 {μ κ : zM} (h : zR5 μ) (h1 : ∀ o, 27 ≤ o → o ≤ 41 → κ o = μ o) (h2 : ∀ c, 2706 ≤ c → c < 10824 → κ 43 c = μ 43 c) (h3 : κ 44 = μ 44) : zR5 κ := by
  intro k hk
  have := h k hk
  unfold zRK at this ⊢
  rw [h1 (27 + 5 * k) (by omega) (by omega), h1 (28 + 5 * k) (by omega) (by omega), h1 (29 + 5 * k) (by omega) (by omega), h1 (30 + 5 * k) (by omega) (by omega), h1 (31 + 5 * k) (by omega) (by omega), h3]
  rcases this with c | c
  · exact Or.inl c
  · exact Or.inr (zRY_congr c (fun q hq => h2 _ (by omega) (by omega)))
theorem zR1_of {μ κ : zM} (h : zR1 μ) (h1 : κ 0 = μ 0) (h2 : κ 26 = μ 26) (h3 : ∀ k, k ≠ 1 → κ 42 k = μ 42 k) (h4 : κ 50 = μ 50) : zR1 κ := by
  unfold zR1 zRA at h ⊢
  rw [h1, h2, h4, h3 8 (by omega), h3 10 (by omega), h3 11 (by omega), h3 12 (by omega)]
  exact h
/-- what a change of the now-story may touch -/
def zNow (μ κ : zM) : Prop := (∀ o, (o ≤ 6 ∨ o = 26 ∨ (27 ≤ o ∧ o ≤ 41) ∨ (44 ≤ o ∧ o ≤ 48) ∨ o = 50) → κ o = μ o) ∧ (∀ k, k ≠ 1 → κ 42 k = μ 42 k) ∧ ∀ c, 2706 ≤ c → c < 10824 → κ 43 c = μ 43 c
theorem Rel_now {μ κ : zM} (h : Rel μ) (hN : zNow μ κ) (h4 : zR4 κ) : Rel κ := by
  obtain ⟨q1, q2, q3, q4, q5⟩ := h
  obtain ⟨n1, n2, n3⟩ := hN
  exact ⟨zR1_of q1 (n1 0 (by omega)) (n1 26 (by omega)) n2 (n1 50 (by omega)), zR2_of q2 (fun o h1 h2 => n1 o (by omega)) (n1 45 (by omega)) (n1 46 (by omega)), zR3_of q3 (fun o h1 h2 => n1 o (by omega)) (n1 47 (by omega)) (n1 48 (by omega)), h4, zR5_43 q5 (fun o h1 h2 => n1 o (by omega)) n3 (n1 44 (by omega))⟩
theorem IsA_of {a : Nat → Int} {i : Nat} {r h c : Nat → Int} {T : zT} (hR : IsRf r h c T) (ha : ∀ q : Nat, q < 30 → a (30 * i + q) = c q) : IsA a i T := by
  intro x y hx hx2 hy hy2
  rw [show (30 * (i : Int) + (x * 6 + y)).toNat = 30 * i + (x * 6 + y).toNat by omega, ha _ (by omega)]
  exact hR.2.2.2 x y hx hx2 hy hy2
theorem IsA_congr {a e : Nat → Int} {i : Nat} {D : zT} (h : IsA a i D) (ha : ∀ q : Nat, q < 30 → e (30 * i + q) = a (30 * i + q)) : IsA e i D := by
  intro x y hx hx2 hy hy2
  rw [show (30 * (i : Int) + (x * 6 + y)).toNat = 30 * i + (x * 6 + y).toNat by omega, ha _ (by omega), show 30 * i + (x * 6 + y).toNat = (30 * (i : Int) + (x * 6 + y)).toNat by omega]
  exact h x y hx hx2 hy hy2
section ST
variable {μ : zM} {T : zT} {t s k b n d : Int}
theorem Y_noteDeed (hd : μ 7 2 = d) (h0 : 0 ≤ d) (h1 : d < 40) : f_Y_noteDeed 7 μ = some (zst (zcp μ 10 0 11 (30 * d).toNat 30) 7 2 (d + 1)) := by
  have z11 : zsz (7 + 4) = 1200 := rfl
  unfold f_Y_noteDeed f_Y_hasRoomFor f_R_saveTo
  rw [hd, z32_id (z := d + 1) (by omega) (by omega), z_ifn0 (by omega), z32_id (z := d * 30) (by omega) (by omega), z11, z32_id (z := (1200 : Int) - 30) (by omega) (by omega), if_neg (show ¬ d * 30 < 0 by omega), if_neg (by omega), if_pos (by omega), z_some_bind]
  show some (zst (zcp μ 10 0 11 (d * 30).toNat 30) 7 2 (z32 (zcp μ 10 0 11 (d * 30).toNat 30 7 2 + 1))) = _
  have e : zcp μ 10 0 11 (d * 30).toNat 30 7 2 = d := by unfold zcp; rw [if_neg (by omega)]; exact hd
  rw [e, z32_id (by omega) (by omega), Int.mul_comm]
theorem M_minds (hd : μ 42 1 = d) (h0 : 0 ≤ d) (h1 : d < 40) : ∃ ν, f_M_minds μ = some ν ∧ (∀ p, p ≠ 43 → p ≠ 42 → ν p = μ p) ∧ (∀ k, k ≠ 1 → ν 42 k = μ 42 k) ∧ ν 42 1 = d + 1 ∧ ∀ c : Nat, ν 43 c = if 66 * (d + 1) ≤ c ∧ (c : Int) < 66 * (d + 1) + 66 then μ 43 (c - 66 * (d + 1)).toNat else μ 43 c := by
  obtain ⟨ν, e1, e2, e3⟩ := M_copyAll (μ := μ) (i := 0) (j := (66 * (d + 1)).toNat) (n := 66) (by omega) (by omega) (by omega)
  refine ⟨zst ν 42 1 (d + 1), ?_, fun p a b => by rw [zst_p b]; exact e2 p a, fun q hq => by rw [zst_o (Or.inr hq), e2 42 (by omega)], zst_at, fun c => ?_⟩
  · unfold f_M_minds
    rw [show (((66 * (d + 1)).toNat : Nat) : Int) = 66 * (d + 1) by omega] at e1
    rw [hd, z32_id (z := d + 1) (by omega) (by omega), z32_id (z := 66 * (d + 1)) (by omega) (by omega)]
    have e1' : f_M_copyAll 0 (66 * (d + 1)) 66 μ = some ν := e1
    rw [e1', z_some_bind, e2 42 (by omega), hd, z32_id (by omega) (by omega)]
  · rw [zst_p (by omega), e3]
    by_cases f : 66 * (d + 1) ≤ c ∧ (c : Int) < 66 * (d + 1) + 66
    · rw [if_pos f, if_pos (by omega)]; congr 1; omega
    · rw [if_neg f, if_neg (by omega)]
/-- a deed more, the rock now as T' says -/
theorem Rel_deed {κ : zM} {T' : zT} (h : Rel μ) (hd : μ 42 1 = d) (h1 : d < 40) (hV : VT T) (hR : IsR μ 8 T) (hW : IsV (μ 43) T) (hV' : VT T') (hl : nT T' = nT T) (hR' : IsR κ 8 T') (hW' : IsV (κ 43) T') (hN : zNow μ κ) (k7 : κ 7 2 = d + 1) (k42 : κ 42 1 = d + 1) (k11 : κ 11 = zcp μ 10 0 11 (30 * d).toNat 30 11) (k43 : ∀ c : Nat, 66 ≤ c → c < 2706 → κ 43 c = if 66 * (d + 1) ≤ c ∧ (c : Int) < 66 * (d + 1) + 66 then μ 43 (c - 66 * (d + 1)).toNat else μ 43 c) : Rel κ := by
  refine Rel_now h hN ?_
  obtain ⟨a1, a2, a3, U, hVU, hRU, hWU, hD⟩ := h.2.2.2.1
  rw [hd] at a1 a2 a3 hD
  have hlen : U.length = T.length := by
    have e1 : μ 8 0 = nT U := hRU.1
    have e2 : μ 8 0 = nT T := hR.1
    unfold nT at e1 e2; omega
  have hlen' : T'.length = T.length := by unfold nT at hl; omega
  refine ⟨by rw [k7, k42], by omega, by omega, T', hV', hR', hW', fun i hi => ?_⟩
  rw [k42] at hi
  by_cases c : (i : Int) = d
  · refine ⟨T, hV, by omega, IsA_of hR (fun q hq => ?_), IsV_congr hV (fun q hq => ?_) hW⟩
    · rw [k11]; unfold zcp
      rw [if_pos (by omega)]; congr 1; omega
    · show κ 43 (66 * (i + 1) + q) = μ 43 q
      rw [k43 _ (by omega) (by omega), if_pos (by omega)]; congr 1; omega
  · obtain ⟨D, g1, g2, g3, g4⟩ := hD i (by omega)
    refine ⟨D, g1, by omega, IsA_congr g3 (fun q hq => ?_), IsV_congr g1 (fun q hq => ?_) g4⟩
    · rw [k11]; unfold zcp
      rw [if_neg (by omega)]
    · show κ 43 (66 * (i + 1) + q) = μ 43 (66 * (i + 1) + q)
      rw [k43 _ (by omega) (by omega), if_neg (by omega)]
theorem X_isKind : f_X_isKind k = if 0 ≤ k ∧ k < 6 then 1 else 0 := by
  unfold f_X_isKind
  repeat' split
  all_goals first | rfl | (exfalso; omega)
theorem X_isBorne : f_X_isBorne b = if 0 ≤ b ∧ b < 10 then 1 else 0 := by
  unfold f_X_isBorne
  repeat' split
  all_goals first | rfl | (exfalso; omega)
theorem Y_room (hd : μ 7 2 = d) (h0 : 0 ≤ d) (h1 : d ≤ 40) : f_Y_hasRoomFor 7 1 μ = if d = 40 then 0 else 1 := by
  unfold f_Y_hasRoomFor
  rw [hd, z32_id (by omega) (by omega)]
  by_cases c : d = 40
  · rw [if_pos c, if_pos (by omega)]
  · rw [if_neg c, if_neg (by omega)]
theorem A_build (h : Rel μ) : zAg (f_X_build t k b μ) (f_M_build t k b) := by
  obtain ⟨T, hV, hR, hW⟩ := Rel_T h
  obtain ⟨a1, a2, a3, _⟩ := h.2.2.2.1
  have hn := nT_le hV
  have hh := hT_nn T t
  have ht := tot_le hV
  unfold f_X_build
  rw [R_isTower hR, X_isKind, X_isBorne]
  by_cases c1 : 0 ≤ t ∧ t < nT T
  · rw [z_if1 c1]
    by_cases c2 : 0 ≤ k ∧ k < 6
    · rw [z_if1 c2]
      by_cases c3 : 0 ≤ b ∧ b < 10
      · rw [z_if1 c3, R_hasRoom hR hV, z_some_bind, Y_room a1 a2 a3]
        by_cases c4 : hT T t < 6 ∧ tot T < 12
        · rw [z_if1 ⟨c1, c4⟩]
          by_cases c5 : μ 42 1 = 40
          · rw [z_ifn1 c5]
            refine zAg_same h ?_
            unfold f_M_build
            rw [M_isTower hW hV, z_if1 c1, M_in, z_if1 (by omega), M_in, z_if1 (by omega), M_hasRoom hW hV c1.1 c1.2, z_some_bind, z_if1 c4, if_pos c5]
          · rw [z_ifn0 c5, Y_noteDeed a1 a2 (by omega), z_some_bind]
            have p8 : ∀ p, p ≠ 7 → p ≠ 11 → zst (zcp μ 10 0 11 (30 * μ 42 1).toNat 30) 7 2 (μ 42 1 + 1) p = μ p := fun p hp hq => by
              rw [zst_p hp]; funext q; unfold zcp; rw [if_neg (fun z => hq z.1)]
            have p11 : zst (zcp μ 10 0 11 (30 * μ 42 1).toNat 30) 7 2 (μ 42 1 + 1) 11 = zcp μ 10 0 11 (30 * μ 42 1).toNat 30 11 := zst_p (by omega)
            have p7 : zst (zcp μ 10 0 11 (30 * μ 42 1).toNat 30) 7 2 (μ 42 1 + 1) 7 2 = μ 42 1 + 1 := zst_at
            generalize zst (zcp μ 10 0 11 (30 * μ 42 1).toNat 30) 7 2 (μ 42 1 + 1) = μ1 at p8 p11 p7 ⊢
            have hR1 : IsR μ1 8 T := by
              rw [← IsRf_R, p8 8 (by omega) (by omega), p8 9 (by omega) (by omega), p8 10 (by omega) (by omega)]; exact hR
            obtain ⟨μ2, e1, e2, e3⟩ := R_push hR1 hV c1.1 c1.2 c4.1 c4.2 c2 c3
            have hV' := addT_V hV c1.1 c1.2 c4.1 c4.2 c2 c3
            rw [e1, z_some_bind, R_heightOf e2 hV', z_some_bind, addT_h c1.1 c1.2, if_pos rfl, z32_id (by omega) (by omega)]
            have q42 : μ2 42 = μ 42 := by rw [e3 42 (by omega), p8 42 (by omega) (by omega)]
            have q43 : μ2 43 = μ 43 := by rw [e3 43 (by omega), p8 43 (by omega) (by omega)]
            have hW2 : IsV (μ2 43) T := by rw [q43]; exact hW
            obtain ⟨μ3, f1, f2, f3, f4, f5⟩ := M_minds (μ := μ2) (d := μ 42 1) (by rw [q42]) a2 (by omega)
            have hW3 : IsV (zAt μ3 0) T := IsV_congr hV (fun c hc => by unfold zAt; rw [f5, if_neg (by omega), Nat.zero_add]) hW2
            obtain ⟨κ, g1, g2, g3, g4⟩ := M_adds (b := 0) (by omega) hW3 hV c1.1 c1.2 c4.1 c2.1 c3.1
            rw [Nat.zero_add] at g4
            refine ⟨_, μ2, rfl, κ, ?_, ?_⟩
            · have hW0 : IsV (μ2 43) T := hW2
              unfold f_M_build
              rw [M_isTower hW0 hV, z_if1 c1, M_in, z_if1 (by omega), M_in, z_if1 (by omega), M_hasRoom hW0 hV c1.1 c1.2, z_some_bind, z_if1 c4, q42, if_neg c5, f1, z_some_bind]
              have g1' : f_M_adds 0 t k b μ3 = some κ := g1
              rw [g1', z_some_bind, z32_id (z := 1 + t) (by omega) (by omega), if_pos (by omega), g4, z32_id (by omega) (by omega)]
            · have r7 : ∀ p, p ≠ 42 → p ≠ 43 → κ p = μ2 p := fun p hp hq => by rw [g3.1 p hq, f2 p hq hp]
              have k43 : ∀ c : Nat, 66 ≤ c → κ 43 c = if 66 * (μ 42 1 + 1) ≤ c ∧ (c : Int) < 66 * (μ 42 1 + 1) + 66 then μ 43 (c - 66 * (μ 42 1 + 1)).toNat else μ 43 c := fun c hc => by
                rw [g3.2 c (by omega), f5, q43]
              refine Rel_deed (T := T) (T' := addT T t k b) h rfl (by omega) hV hR hW hV' addT_n ?_ (by rw [zAt_0] at g2; exact g2) ⟨fun o ho => ?_, fun q hq => ?_, fun c hc hc2 => ?_⟩ ?_ ?_ ?_ (fun c hc hc2 => k43 c hc)
              · rw [← IsRf_R, r7 8 (by omega) (by omega), r7 9 (by omega) (by omega), r7 10 (by omega) (by omega)]; exact e2
              · rw [r7 o (by omega) (by omega), e3 o (by omega), p8 o (by omega) (by omega)]
              · rw [g3.1 42 (by omega), f3 q hq, q42]
              · rw [k43 c (by omega), if_neg (by omega)]
              · rw [r7 7 (by omega) (by omega), e3 7 (by omega)]; exact p7
              · rw [g3.1 42 (by omega), f4]
              · rw [r7 11 (by omega) (by omega), e3 11 (by omega)]; exact p11
        · rw [z_if0 (fun z => c4 z.2)]
          refine zAg_same h ?_
          unfold f_M_build
          rw [M_isTower hW hV, z_if1 c1, M_in, z_if1 (by omega), M_in, z_if1 (by omega), M_hasRoom hW hV c1.1 c1.2, z_some_bind, z_if0 c4]
      · rw [z_if0 c3]
        refine zAg_same h ?_
        unfold f_M_build
        rw [M_isTower hW hV, z_if1 c1, M_in, z_if1 (by omega), M_in, z_if0 (by omega)]
    · rw [z_if0 c2]
      refine zAg_same h ?_
      unfold f_M_build
      rw [M_isTower hW hV, z_if1 c1, M_in, z_if0 (by omega)]
  · rw [z_if0 c1]
    refine zAg_same h ?_
    unfold f_M_build
    rw [M_isTower hW hV, z_if0 c1]
end ST
