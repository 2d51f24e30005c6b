/-! leave, bear, undo -/
section ST2
variable {μ : zM} {T : zT} {t s k b n d : Int}
theorem A_leave (h : Rel μ) : zAg (f_X_leave t s μ) (f_M_leave t s) := by
  obtain ⟨T, hV, hR, hW⟩ := Rel_T h
  obtain ⟨a1, a2, a3, _⟩ := h.2.2.2.1
  have hn := nT_le hV
  have hh := hT_nn T t
  have hh2 := hT_le hV t
  have ht := tot_le hV
  unfold f_X_leave
  rw [X_isNoPlace hR]
  by_cases c1 : (0 ≤ t ∧ t < nT T) ∧ 0 ≤ s
  · rw [z_ifn1 c1]
    by_cases c2 : 0 ≤ s ∧ s < hT T t
    · rw [R_hasI hR hV c2.1 c2.2, z_some_bind, if_neg (by omega), Y_room a1 a2 a3]
      by_cases c5 : μ 42 1 = 40
      · rw [z_ifn1 c5]
        refine zAg_same h ?_
        unfold f_M_leave
        rw [M_isTold hW hV, z_if1 c1, M_isThere hW hV, z_some_bind, z_if1 c2, if_pos c5]
      · rw [z_ifn0 c5, Y_noteDeed a1 a2 (by omega), z_some_bind]
        have p8 : ∀ p, p ≠ 7 → p ≠ 11 → zst (zcp μ 10 0 11 (30 * μ 42 1).toNat 30) 7 2 (μ 42 1 + 1) p = μ p := fun p hp hq => by
          rw [zst_p hp]; funext q; unfold zcp; rw [if_neg (fun z => hq z.1)]
        have p11 : zst (zcp μ 10 0 11 (30 * μ 42 1).toNat 30) 7 2 (μ 42 1 + 1) 11 = zcp μ 10 0 11 (30 * μ 42 1).toNat 30 11 := zst_p (by omega)
        have p7 : zst (zcp μ 10 0 11 (30 * μ 42 1).toNat 30) 7 2 (μ 42 1 + 1) 7 2 = μ 42 1 + 1 := zst_at
        generalize zst (zcp μ 10 0 11 (30 * μ 42 1).toNat 30) 7 2 (μ 42 1 + 1) = μ1 at p8 p11 p7 ⊢
        have hR1 : IsR μ1 8 T := by
          rw [← IsRf_R, p8 8 (by omega) (by omega), p8 9 (by omega) (by omega), p8 10 (by omega) (by omega)]; exact hR
        obtain ⟨μ2, e1, e2, e3⟩ := R_remove hR1 hV c2.1 c2.2
        have hV' := gonT_V hV c2.1 c2.2
        rw [e1, z_some_bind, R_heightOf e2 hV', z_some_bind, gonT_h c2.1 c2.2, if_pos rfl, z32_id (by omega) (by omega)]
        have q42 : μ2 42 = μ 42 := by rw [e3 42 (by omega), p8 42 (by omega) (by omega)]
        have q43 : μ2 43 = μ 43 := by rw [e3 43 (by omega), p8 43 (by omega) (by omega)]
        have hW2 : IsV (μ2 43) T := by rw [q43]; exact hW
        obtain ⟨μ3, f1, f2, f3, f4, f5⟩ := M_minds (μ := μ2) (d := μ 42 1) (by rw [q42]) a2 (by omega)
        have hW3 : IsV (μ3 43) T := IsV_congr hV (fun c hc => by rw [f5, if_neg (by omega)]) hW2
        obtain ⟨κ, g1, g2, g3⟩ := M_goes hW3 hV c2.1 c2.2
        have g4 : κ 43 (1 + t).toNat = hT T t - 1 := by
          have := g2.2.1 t c1.1.1 (by rw [gonT_n]; exact c1.1.2)
          rw [gonT_h c2.1 c2.2, if_pos rfl] at this
          exact this
        refine ⟨_, μ2, rfl, κ, ?_, ?_⟩
        · unfold f_M_leave
          rw [M_isTold hW2 hV, z_if1 c1, M_isThere hW2 hV, z_some_bind, z_if1 c2, q42, if_neg c5, f1, z_some_bind, g1, z_some_bind, z32_id (z := 1 + t) (by omega) (by omega), if_pos (by omega), g4, z32_id (by omega) (by omega)]
        · have r7 : ∀ p, p ≠ 42 → p ≠ 43 → κ p = μ2 p := fun p hp hq => by rw [g3.1 p hq, f2 p hq hp]
          have k43 : ∀ c : Nat, 66 ≤ c → κ 43 c = if 66 * (μ 42 1 + 1) ≤ c ∧ (c : Int) < 66 * (μ 42 1 + 1) + 66 then μ 43 (c - 66 * (μ 42 1 + 1)).toNat else μ 43 c := fun c hc => by
            rw [g3.2 c (by omega), f5, q43]
          refine Rel_deed (T := T) (T' := gonT T t s) h rfl (by omega) hV hR hW hV' gonT_n ?_ g2 ⟨fun o ho => ?_, fun q hq => ?_, fun c hc hc2 => ?_⟩ ?_ ?_ ?_ (fun c hc hc2 => k43 c hc)
          · rw [← IsRf_R, r7 8 (by omega) (by omega), r7 9 (by omega) (by omega), r7 10 (by omega) (by omega)]; exact e2
          · rw [r7 o (by omega) (by omega), e3 o (by omega), p8 o (by omega) (by omega)]
          · rw [g3.1 42 (by omega), f3 q hq, q42]
          · rw [k43 c (by omega), if_neg (by omega)]
          · rw [r7 7 (by omega) (by omega), e3 7 (by omega)]; exact p7
          · rw [g3.1 42 (by omega), f4]
          · rw [r7 11 (by omega) (by omega), e3 11 (by omega)]; exact p11
    · rw [R_hasO hR hV c2, z_some_bind, if_pos rfl]
      refine zAg_found h (by omega) (by omega) (fun ν hν => ?_)
      have hWν := W_of hW (hν 43 (by omega) (by omega))
      unfold f_M_leave
      rw [M_isTold hWν hV, z_if1 c1, M_isThere hWν hV, z_some_bind, z_if0 c2]
  · rw [z_ifn0 c1]
    refine zAg_same h ?_
    unfold f_M_leave
    rw [M_isTold hW hV, z_if0 c1]
theorem A_bear (h : Rel μ) : zAg (f_X_bear t s b μ) (f_M_bear t s b) := by
  obtain ⟨a1, a2, a3, T, hV, hRf, hW, hD⟩ := h.2.2.2.1
  have hR : IsR μ 8 T := hRf
  have hn := nT_le hV
  have hh := hT_nn T t
  have hh2 := hT_le hV t
  unfold f_X_bear
  rw [X_isNoPlace hR, X_isBorne]
  by_cases c1 : (0 ≤ t ∧ t < nT T) ∧ 0 ≤ s
  · rw [z_ifn1 c1]
    by_cases c3 : 0 ≤ b ∧ b < 10
    · rw [z_if1 c3]
      by_cases c2 : 0 ≤ s ∧ s < hT T t
      · have hin := cT_in hV c1.1.1 c2.1 c2.2
        obtain ⟨ν, e1, e2, e3⟩ := R_change (k := cT T t s) (b := b) hR hV c2.1 c2.2 ⟨hin.1, hin.2.1⟩ c3
        have hV' := chgT_V (s := s) hV c1.1.1 c1.1.2 ⟨hin.1, hin.2.1⟩ c3
        rw [R_hasI hR hV c2.1 c2.2, z_some_bind, if_neg (by omega), R_borneAt hR hV c2.1 c2.2, z_some_bind, R_kindAt hR hV c2.1 c2.2, z_some_bind, e1, z_some_bind]
        have hW2 : IsV (ν 43) T := W_of hW (e3 43 (by omega))
        have q43 : ν 43 = μ 43 := e3 43 (by omega)
        refine ⟨_, ν, rfl, zst ν 43 (36 + 6 * t + s).toNat b, ?_, Rel_now h ⟨fun o ho => by rw [zst_p (by omega), e3 o (by omega)], fun q hq => by rw [zst_p (by omega), e3 42 (by omega)], fun c hc hc2 => by rw [zst43_o (by omega), q43]⟩ ⟨by rw [zst_p (by omega), zst_p (by omega), e3 7 (by omega), e3 42 (by omega)]; exact a1, by rw [zst_p (by omega), e3 42 (by omega)]; exact a2, by rw [zst_p (by omega), e3 42 (by omega)]; exact a3, chgT T t s (cT T t s) b, hV', ?_, ⟨?_, fun x hx hx2 => ?_, fun x y hx hx2 hy hy2 => ?_⟩, fun i hi => ?_⟩⟩
        · unfold f_M_bear
          rw [M_isTold hW2 hV, z_if1 c1, M_in, z_if1 (by omega), M_isThere hW2 hV, z_some_bind, z_if1 c2, M_bearsAt hW2 hV c2.1 c2.2, z_some_bind, z32_id (z := 6 * t) (by omega) (by omega), z32_id (z := 36 + 6 * t) (by omega) (by omega), z32_id (z := 36 + 6 * t + s) (by omega) (by omega), if_pos (by omega)]
        · rw [zst_p (by omega), zst_p (by omega), zst_p (by omega)]; exact e2
        · rw [zst43_o (by omega), q43, chgT_n]; exact hW.1
        · rw [chgT_n] at hx2
          rw [zst43_o (by omega), q43, chgT_h c1.1.1 c1.1.2]; exact hW.2.1 x hx hx2
        · rw [chgT_n] at hx2
          rw [chgT_h c1.1.1 c1.1.2] at hy2
          have h6 := hT_le hV x
          obtain ⟨d1, d2⟩ := chgT_c (T := T) (k := cT T t s) (b := b) c2.1 c2.2 hx hy hin.1 c3.1
          obtain ⟨w1, w2⟩ := hW.2.2 x y hx hx2 hy hy2
          rw [d1, d2, zst43_o (c := (6 + 6 * x + y).toNat) (by omega), q43, w1]
          by_cases c : x = t ∧ y = s
          · obtain ⟨rfl, rfl⟩ := c
            rw [zst_at]
            have n1 : x = x ∧ y = y := ⟨rfl, rfl⟩
            rw [if_pos n1, if_pos n1]; exact ⟨rfl, rfl⟩
          · rw [if_neg c, if_neg c, zst43_o (by omega), q43]; exact ⟨rfl, w2⟩
        · rw [zst_p (by omega), e3 42 (by omega)] at hi
          obtain ⟨D, g1, g2, g3, g4⟩ := hD i hi
          refine ⟨D, g1, ?_, ?_, IsV_congr g1 (fun q hq => ?_) g4⟩
          · have := chgT_n (T := T) (t := t) (s := s) (k := cT T t s) (b := b)
            unfold nT at this; omega
          · rw [zst_p (by omega), e3 11 (by omega)]; exact g3
          · show zst ν 43 (36 + 6 * t + s).toNat b 43 (66 * (i + 1) + q) = _
            rw [zst43_o (by omega), q43]
      · rw [R_hasO hR hV c2, z_some_bind, if_pos rfl]
        refine zAg_found h (by omega) (by omega) (fun ν hν => ?_)
        have hWν := W_of hW (hν 43 (by omega) (by omega))
        unfold f_M_bear
        rw [M_isTold hWν hV, z_if1 c1, M_in, z_if1 (by omega), M_isThere hWν hV, z_some_bind, z_if0 c2]
    · rw [z_if0 c3]
      refine zAg_same h ?_
      unfold f_M_bear
      rw [M_isTold hW hV, z_if1 c1, M_in, z_if0 (by omega)]
  · rw [z_ifn0 c1]
    refine zAg_same h ?_
    unfold f_M_bear
    rw [M_isTold hW hV, z_if0 c1]
/-- a rock laid back from what was noted -/
theorem R_housesIn {o : Nat} {H : Int} (h1 : 0 ≤ t) (h2 : t < 5) (h3 : 0 ≤ H) (h4 : H ≤ 6) (hc : ∀ y : Int, 0 ≤ y → y < 6 → (μ (o + 2) (t * 6 + y).toNat = 0 ↔ ¬ y < H)) : f_R_housesIn o t μ = some H := by
  refine zE_go (zE_for (fun k => (min (k : Int) H, (k : Int))) 6 ?_ (fun k hk => ?_) ?_)
  · show some (Sum.inl ((0 : Int), (0 : Int))) = some (.inl (min ((0 : Nat) : Int) H, ((0 : Nat) : Int)))
    rw [show min ((0 : Nat) : Int) H = 0 by omega]; rfl
  · have hk2 := hc k (by omega) (by omega)
    show b_R_housesIn_4 o t (min (k : Int) H) (k : Int) μ = _
    unfold b_R_housesIn_4
    rw [if_pos (by omega), z32_id (z := t * 6) (by omega) (by omega), z32_id (z := t * 6 + k) (by omega) (by omega), if_neg (by omega), if_pos (by omega), if_pos (by omega), z32_id (z := (k : Int) + 1) (by omega) (by omega), z32_id (z := min (k : Int) H + 1) (by omega) (by omega)]
    by_cases c : (k : Int) < H
    · rw [if_neg (fun z => (hk2.mp z) c), show min ((k + 1 : Nat) : Int) H = min (k : Int) H + 1 by omega]; rfl
    · rw [if_pos (hk2.mpr c), show min ((k + 1 : Nat) : Int) H = min (k : Int) H by omega]; rfl
  · show zE _ (b_R_housesIn_4 o t (min ((6 : Nat) : Int) H) ((6 : Nat) : Int) μ) _
    unfold b_R_housesIn_4
    rw [if_neg (by omega), show min ((6 : Nat) : Int) H = H by omega]
    exact zE_ret
theorem tot_5 (hV : VT T) : zsum 5 (fun j => hT T j) = tot T := by
  have hn := nT_le hV
  have h0 := nT_nn T
  rw [zsum_tail (k := (nT T).toNat) (fun j hj => hT_out (Or.inr (by omega))) (by omega), ← tot_num hV]
  unfold numT; omega
theorem R_loadFrom {D : zT} (hV : VT D) (h1 : 0 ≤ n) (h2 : n < 40) (hA : IsA (μ 11) n.toNat D) (hn : μ 8 0 = nT D) : ∃ ν, f_R_loadFrom 8 11 (n * 30) μ = some ν ∧ IsR ν 8 D ∧ zOut μ ν 8 10 := by
  have z11 : zsz 11 = 1200 := rfl
  have cell : ∀ x y : Int, 0 ≤ x → x < 5 → 0 ≤ y → y < 6 → (zcp μ 11 (n * 30).toNat 10 0 30) 10 (x * 6 + y).toNat = if y < hT D x then 10 * cT D x y + bT D x y + 1 else 0 := fun x y hx hx2 hy hy2 => by
    rw [← hA x y hx hx2 hy hy2]
    unfold zcp
    rw [if_pos (by omega)]; congr 1; omega
  refine zQ_go (zQ_for (fun m q => ∃ ν, q = ((m : Int), ν) ∧ zOut μ ν 8 10 ∧ ν 8 0 = nT D ∧ ν 8 1 = zsum m (fun j => hT D j) ∧ (∀ x : Nat, x < m → ν 9 x = hT D x) ∧ ν 10 = zcp μ 11 (n * 30).toNat 10 0 30 10) 5 (s0 := (0, zst (zcp μ 11 (n * 30).toNat 10 0 30) 8 1 0)) ?_ ⟨_, rfl, zst_out (fun p hp => by funext q; unfold zcp; rw [if_neg (by omega)]) (by omega) (by omega), ?_, zst_at, fun x hx => by omega, zst_p (by omega)⟩ ?_ ?_)
  · unfold e_R_loadFrom
    rw [if_neg (by omega), z11, z32_id (z := (1200 : Int) - 30) (by omega) (by omega), if_neg (by omega), if_pos (by omega)]
    rfl
  · rw [zst_o (by omega)]; unfold zcp; rw [if_neg (by omega)]; exact hn
  · rintro m _ hm ⟨ν, rfl, q1, q2, q3, q4, q5⟩
    have h5 := hT_le hV m
    have h6 := hT_nn D m
    have hz := zsum_hT hV m
    have e1 : f_R_housesIn 8 (m : Int) ν = some (hT D m) := R_housesIn (o := 8) (by omega) (by omega) h6 h5 (fun y hy hy2 => by
      show ν 10 ((m : Int) * 6 + y).toNat = 0 ↔ _
      rw [q5, cell m y (by omega) (by omega) hy hy2]
      by_cases c : y < hT D m
      · have hin := cT_in hV (x := m) (by omega) hy c
        rw [if_pos c]; constructor
        · intro z; omega
        · intro z; exact absurd c z
      · rw [if_neg c]; exact ⟨fun _ => c, fun _ => rfl⟩)
    have e2 : zst ν (8 + 1) ((m : Int)).toNat (hT D m) 8 1 = zsum m (fun j => hT D j) := by rw [zst_o (by omega)]; exact q3
    show ∃ u, b_R_loadFrom_33 8 11 (n * 30) (m : Int) ν = some (.inl u) ∧ _
    unfold b_R_loadFrom_33
    rw [if_pos (by omega), e1, z_some_bind, if_pos (by omega), if_pos (by omega), e2, zst_at, z32_id (z := (m : Int) + 1) (by omega) (by omega), z32_id (by omega) (by omega)]
    refine ⟨_, rfl, _, rfl, zst_out (zst_out q1 (by omega) (by omega)) (by omega) (by omega), by rw [zst_o (by omega), zst_o (by omega)]; exact q2, by rw [zst_at, zsum_s], fun x hx => ?_, by rw [zst_p (by omega), zst_p (by omega)]; exact q5⟩
    rw [zst_o (by omega)]
    by_cases c : x = m
    · rw [c, show ((m : Nat) : Int).toNat = m by omega]; exact zst_at
    · rw [zst_o (by omega)]; exact q4 x (by omega)
  · rintro _ ⟨ν, rfl, q1, q2, q3, q4, q5⟩
    show zQ _ (b_R_loadFrom_33 8 11 (n * 30) ((5 : Nat) : Int) ν) _
    unfold b_R_loadFrom_33
    rw [if_neg (by omega)]
    refine zQ_ret ⟨⟨q2, by rw [q3, tot_5 hV], fun x hx hx2 => ?_, fun x y hx hx2 hy hy2 => ?_⟩, q1⟩
    · have := q4 x.toNat (by omega)
      rw [show ((x.toNat : Nat) : Int) = x by omega] at this
      exact this
    · show ν 10 (x * 6 + y).toNat = _
      rw [q5]; exact cell x y hx hx2 hy hy2
theorem A_undo (h : Rel μ) : zAg (f_X_undo n μ) (f_M_undo n) := by
  obtain ⟨a1, a2, a3, T, hV, hRf, hW, hD⟩ := h.2.2.2.1
  have hR : IsR μ 8 T := hRf
  unfold f_X_undo
  rw [a1]
  by_cases c1 : n < 0
  · rw [if_pos c1]
    refine zAg_same h ?_
    unfold f_M_undo
    rw [M_in, z_if0 (by omega)]
  · rw [if_neg c1]
    by_cases c2 : μ 42 1 < n
    · rw [if_pos c2]
      refine zAg_same h ?_
      unfold f_M_undo
      rw [M_in, z_if0 (by omega)]
    · rw [if_neg c2]
      unfold f_Y_goBackTo
      rw [if_neg c1, a1, z32_id (z := μ 42 1 - n) (by omega) (by omega)]
      by_cases c3 : n < μ 42 1
      · obtain ⟨D, g1, g2, g3, g4⟩ := hD n.toNat (by omega)
        have hnD : nT D = nT T := by unfold nT; omega
        obtain ⟨ν, e1, e2, e3⟩ := R_loadFrom (μ := μ) (n := n) g1 (by omega) (by omega) g3 (by rw [hR.1, hnD])
        have e1' : f_R_loadFrom (7 + 1) (7 + 4) (n * 30) μ = some ν := e1
        rw [if_pos c3, z32_id (z := n * 30) (by omega) (by omega), e1', z_some_bind, z_some_bind]
        obtain ⟨κ, f1, f2, f3⟩ := M_copyAll (μ := zst ν 7 2 n) (i := (66 * (n + 1)).toNat) (j := 0) (n := 66) (by omega) (by omega) (by omega)
        have q42 : zst ν 7 2 n 42 = μ 42 := by rw [zst_p (by omega), e3 42 (by omega)]
        have q43 : zst ν 7 2 n 43 = μ 43 := by rw [zst_p (by omega), e3 43 (by omega)]
        have k42 : κ 42 = μ 42 := by rw [f2 42 (by omega), q42]
        refine ⟨_, _, rfl, zst κ 42 1 n, ?_, ?_⟩
        · unfold f_M_undo
          rw [show (((66 * (n + 1)).toNat : Nat) : Int) = 66 * (n + 1) by omega] at f1
          have f1' : f_M_copyAll (66 * (n + 1)) 0 66 (zst ν 7 2 n) = some κ := f1
          rw [M_in, q42, z_if1 (by omega), z32_id (z := μ 42 1 - n) (by omega) (by omega), if_pos (by omega), z32_id (z := n + 1) (by omega) (by omega), z32_id (z := 66 * (n + 1)) (by omega) (by omega), f1', z_some_bind]
        · have k43 : ∀ c : Nat, 66 ≤ c → zst κ 42 1 n 43 c = μ 43 c := fun c hc => by rw [zst_p (by omega), f3, if_neg (by omega), q43]
          have r7 : ∀ p, p ≠ 42 → p ≠ 43 → p ≠ 7 → zst κ 42 1 n p = ν p := fun p hp hq hr => by rw [zst_p hp, f2 p hq, zst_p hr]
          refine Rel_now h ⟨fun o ho => ?_, fun q hq => by rw [zst_o (Or.inr hq), k42], fun c hc _ => k43 c (by omega)⟩ ⟨?_, by rw [zst_at]; omega, by rw [zst_at]; omega, D, g1, ?_, ?_, fun i hi => ?_⟩
          · rw [r7 o (by omega) (by omega) (by omega), e3 o (by omega)]
          · rw [zst_at, zst_p (by omega), f2 7 (by omega), zst_at]
          · rw [r7 8 (by omega) (by omega) (by omega), r7 9 (by omega) (by omega) (by omega), r7 10 (by omega) (by omega) (by omega)]; exact e2
          · refine IsV_congr g1 (fun c hc => ?_) g4
            rw [zst_p (by omega), f3, if_pos (by omega), q43]
            show μ 43 _ = μ 43 (66 * (n.toNat + 1) + c)
            congr 1; omega
          · rw [zst_at] at hi
            obtain ⟨E, u1, u2, u3, u4⟩ := hD i (by omega)
            refine ⟨E, u1, by omega, by rw [r7 11 (by omega) (by omega) (by omega), e3 11 (by omega)]; exact u3, IsV_congr u1 (fun q hq => k43 _ (by omega)) u4⟩
      · rw [if_neg c3, z_some_bind]
        refine zAg_same h ?_
        unfold f_M_undo
        rw [M_in, z_if1 (by omega), z32_id (z := μ 42 1 - n) (by omega) (by omega), if_neg (by omega)]
end ST2
