/-! a text is read: the pure reader -/
noncomputable def rdT (f : Nat → Int) (n : Int) : Nat → zT → Nat → Int × zT
  | 0, T, _ => (if nT T = 0 then n else -9, T)
  | m + 1, T, i => if (i : Int) < n then (if f i = 114 then (if nT T < 5 then rdT f n m (T ++ [[]]) (i + 1) else ((i : Int), T)) else if f i = 32 then rdT f n m T (i + 1) else if f_M_kindOf (f i) = -1 then ((i : Int), T) else if 0 < nT T ∧ hT T (nT T - 1) < 6 ∧ tot T < 12 then (if (i : Int) + 1 < n ∧ 48 ≤ f (i + 1) ∧ f (i + 1) < 58 then rdT f n m (addT T (nT T - 1) (f_M_kindOf (f i)) (f (i + 1) - 48)) (i + 2) else ((i : Int) + 1, T)) else ((i : Int), T)) else (if nT T = 0 then n else -9, T)
theorem rdT_s (f : Nat → Int) (n : Int) (m : Nat) (T : zT) (i : Nat) : rdT f n (m + 1) T i = if (i : Int) < n then (if f i = 114 then (if nT T < 5 then rdT f n m (T ++ [[]]) (i + 1) else ((i : Int), T)) else if f i = 32 then rdT f n m T (i + 1) else if f_M_kindOf (f i) = -1 then ((i : Int), T) else if 0 < nT T ∧ hT T (nT T - 1) < 6 ∧ tot T < 12 then (if (i : Int) + 1 < n ∧ 48 ≤ f (i + 1) ∧ f (i + 1) < 58 then rdT f n m (addT T (nT T - 1) (f_M_kindOf (f i)) (f (i + 1) - 48)) (i + 2) else ((i : Int) + 1, T)) else ((i : Int), T)) else (if nT T = 0 then n else -9, T) := rfl
theorem rdT_congr {f g : Nat → Int} {n : Int} (h : ∀ j : Nat, (j : Int) < n → f j = g j) : ∀ (m : Nat) (T : zT) (i : Nat), rdT f n m T i = rdT g n m T i
  | 0, _, _ => rfl
  | m + 1, T, i => by
    rw [rdT_s, rdT_s, rdT_congr h m, rdT_congr h m, rdT_congr h m]
    by_cases c : (i : Int) < n
    · rw [if_pos c, if_pos c, h i c]
      by_cases d : (i : Int) + 1 < n
      · rw [h (i + 1) (by omega)]
      · have d1 : ¬ ((i : Int) + 1 < n ∧ 48 ≤ f (i + 1) ∧ f (i + 1) < 58) := fun z => d z.1
        have d2 : ¬ ((i : Int) + 1 < n ∧ 48 ≤ g (i + 1) ∧ g (i + 1) < 58) := fun z => d z.1
        rw [if_neg d1, if_neg d2]
    · rw [if_neg c, if_neg c]
theorem kindOf_in (v : Int) : f_M_kindOf v = -1 ∨ (0 ≤ f_M_kindOf v ∧ f_M_kindOf v < 6) := by
  unfold f_M_kindOf
  repeat' split
  all_goals omega
theorem ext_h (S : zT) (x : Int) : hT (S ++ [[]]) x = hT S x := by
  unfold hT
  by_cases c : 0 ≤ x
  · rw [if_pos c, if_pos c, getD_app]
    by_cases d : x.toNat = S.length
    · rw [if_pos d, d, List.getD_eq_getElem?_getD, List.getElem?_eq_none (by omega)]; rfl
    · rw [if_neg d]
  · rw [if_neg c, if_neg c]
theorem ext_n (S : zT) : nT (S ++ [[]]) = nT S + 1 := by unfold nT; rw [List.length_append]; rfl
theorem ext_c {S : zT} {x y : Int} (h1 : 0 ≤ x) (h2 : x < nT S) : cT (S ++ [[]]) x y = cT S x y ∧ bT (S ++ [[]]) x y = bT S x y := by
  unfold nT at h2
  unfold cT bT
  rw [getD_app, if_neg (by omega)]
  exact ⟨rfl, rfl⟩
theorem IsV_ext {v w : Nat → Int} {S : zT} (hW : IsV w S) (h0 : v 0 = nT S + 1) (hnew : v (1 + nT S).toNat = 0) (hsame : ∀ c, c ≠ 0 → v c = w c) : IsV v (S ++ [[]]) := by
  refine ⟨by rw [h0, ext_n], fun x h1 h2 => ?_, fun x y h1 h2 h3 h4 => ?_⟩
  · rw [ext_n] at h2
    rw [ext_h]
    by_cases c : x = nT S
    · subst c; rw [hnew, hT_out (Or.inr (Int.le_refl _))]
    · rw [hsame _ (by omega)]; exact hW.2.1 x h1 (by omega)
  · rw [ext_h] at h4
    have hp := hT_pos (T := S) (t := x) (by omega)
    obtain ⟨e1, e2⟩ := ext_c (S := S) (y := y) h1 hp.2
    rw [e1, e2, hsame _ (by omega), hsame _ (by omega)]
    exact hW.2.2 x y h1 hp.2 h3 h4
theorem zO43_tr {μ ν κ : zM} {a b : Nat} (h : zO43 μ ν a b) (g : zO43 ν κ a b) : zO43 μ κ a b := ⟨fun p hp => by rw [g.1 p hp, h.1 p hp], fun c hc => by rw [g.2 c hc, h.2 c hc]⟩
section RD
variable {μ : zM} {T : zT} {t v n : Int}
theorem X_kindOf : f_X_kindOfLetter v μ = some (f_M_kindOf v) := by
  have e : zff (fun k => decide ((zSV 0).getD k 0 = v)) (fun k => (k : Int)) (-1) 6 0 = f_M_kindOf v := by
    by_cases c0 : v = 104
    · subst c0; rfl
    by_cases c1 : v = 103
    · subst c1; rfl
    by_cases c2 : v = 108
    · subst c2; rfl
    by_cases c3 : v = 97
    · subst c3; rfl
    by_cases c4 : v = 101
    · subst c4; rfl
    by_cases c5 : v = 109
    · subst c5; rfl
    have d0 : ¬ (104 : Int) = v := fun h => c0 h.symm
    have d1 : ¬ (103 : Int) = v := fun h => c1 h.symm
    have d2 : ¬ (108 : Int) = v := fun h => c2 h.symm
    have d3 : ¬ (97 : Int) = v := fun h => c3 h.symm
    have d4 : ¬ (101 : Int) = v := fun h => c4 h.symm
    have d5 : ¬ (109 : Int) = v := fun h => c5 h.symm
    unfold f_M_kindOf
    rw [if_neg c0, if_neg c1, if_neg c2, if_neg c3, if_neg c4, if_neg c5]
    show (if decide ((104 : Int) = v) = true then _ else if decide ((103 : Int) = v) = true then _ else if decide ((108 : Int) = v) = true then _ else if decide ((97 : Int) = v) = true then _ else if decide ((101 : Int) = v) = true then _ else if decide ((109 : Int) = v) = true then _ else (-1 : Int)) = -1
    simp [d0, d1, d2, d3, d4, d5]
  rw [← e]
  refine zE_go (zE_find (fun k => (k : Int)) (fun k => decide ((zSV 0).getD k 0 = v)) (fun k => (k : Int)) (-1) 6 rfl (fun k hk => ?_) ?_)
  · show b_X_kindOfLetter_2 v (k : Int) μ = _
    unfold b_X_kindOfLetter_2
    rw [if_pos (by omega), if_pos (by omega), show ((k : Nat) : Int).toNat = k by omega, z32_id (z := (k : Int) + 1) (by omega) (by omega)]
    by_cases c : (zSV 0).getD k 0 = v
    · rw [if_pos c, if_pos (decide_eq_true c)]
    · rw [if_neg c, if_neg (by simpa using c)]; rfl
  · show b_X_kindOfLetter_2 v ((6 : Nat) : Int) μ = _
    unfold b_X_kindOfLetter_2
    rw [if_neg (by omega)]
theorem R_addTower0 {o : Nat} (hR : IsR μ o T) (h : ¬ nT T < 5) : f_R_addTower o μ = some (0, μ) := by
  unfold f_R_addTower
  rw [hR.1, if_neg h]
theorem S_getA {o cap k : Nat} {fill r i : Int} (hc : zSC o cap k) (hs : zSS μ o cap k fill) (h1 : 0 ≤ r) (h2 : r < k) : ∃ a, f_S_get o r i μ = some a := by
  by_cases c : 0 ≤ i ∧ i < μ (o + 1) r.toNat
  · exact ⟨_, S_get hc hs h1 h2 c.1 c.2⟩
  · exact ⟨_, by unfold f_S_get; rw [S_has hc h1 h2, z_some_bind, z_if0 c]⟩
theorem X_read (hs : zSS μ 4 60 4 32) (hB : ∀ j : Nat, (j : Int) < n → -128 ≤ μ 6 (60 * t.toNat + j) ∧ μ 6 (60 * t.toNat + j) < 128) (h1 : 0 ≤ t) (h2 : t < ((4 : Nat) : Int)) (hn : μ (4 + 1) t.toNat = n) (hn60 : n ≤ 60) : ∀ (m : Nat) (T : zT) (i : Nat) (ν : zM), n - i ≤ m → (i : Int) ≤ n → IsR ν 13 T → VT T → zOut μ ν 13 15 → zQ (t_X_readAside t) (some (.inl (n, (i : Int), ν))) (fun r => ∃ κ, r = ((rdT (fun j => μ 6 (60 * t.toNat + j)) n m T i).1, κ) ∧ IsR κ 13 (rdT (fun j => μ 6 (60 * t.toNat + j)) n m T i).2 ∧ VT (rdT (fun j => μ 6 (60 * t.toNat + j)) n m T i).2 ∧ zOut μ κ 13 15) := by
  intro m
  induction m with
  | zero =>
    intro T i ν hm hi hR hV ho
    refine zQ_step ?_
    show zQ _ (b_X_readAside_18 t n (i : Int) ν) _
    unfold b_X_readAside_18 f_R_towerCount
    rw [if_neg (by omega), hR.1]
    by_cases c : nT T = 0
    · rw [if_pos c]; exact zQ_ret ⟨ν, by unfold rdT; rw [if_pos c], hR, hV, ho⟩
    · rw [if_neg c]; exact zQ_ret ⟨ν, by unfold rdT; rw [if_neg c], hR, hV, ho⟩
  | succ m ih =>
    intro T i ν hm hi hR hV ho
    refine zQ_step ?_
    rw [rdT_s]
    show zQ _ (b_X_readAside_18 t n (i : Int) ν) _
    unfold b_X_readAside_18 f_R_towerCount
    by_cases c0 : (i : Int) < n
    · have hsν : zSS ν 4 60 4 32 := ⟨by rw [ho 4 (by omega)]; exact hs.1, by rw [ho 4 (by omega)]; exact hs.2.1, fun q hq => by rw [ho (4 + 1) (by omega)]; exact hs.2.2 q hq⟩
      have e5 : ν (4 + 1) t.toNat = n := by rw [ho (4 + 1) (by omega)]; exact hn
      have e6 : ν (4 + 2) = μ 6 := ho 6 (by omega)
      have hx : (((60 : Nat) : Int) * t + (i : Int)).toNat = 60 * t.toNat + i := by omega
      rw [if_pos c0, if_pos c0, S_get zSC_4 hsν h1 h2 (by omega) (by rw [e5]; exact c0), z_some_bind, e6, hx]
      have hn5 := nT_le hV
      have hn0 := nT_nn T
      by_cases c1 : μ 6 (60 * t.toNat + i) = 114
      · rw [if_pos c1, if_pos c1]
        by_cases c2 : nT T < 5
        · obtain ⟨κ, f1, f2, f3, f4⟩ := R_addTower (o := 13) hR hV c2
          rw [if_pos c2, f1, z_some_bind, if_neg (by show ¬ (1 : Int) = 0; omega)]
          unfold j_X_readAside_53
          rw [if_pos c1, z32_id (z := (i : Int) + 1) (by omega) (by omega)]
          exact ih (T ++ [[]]) (i + 1) κ (by omega) (by omega) f2 f3 (zOut_trans ho f4)
        · rw [if_neg c2, R_addTower0 hR c2, z_some_bind, if_pos rfl]
          exact zQ_ret ⟨ν, rfl, hR, hV, ho⟩
      · rw [if_neg c1, if_neg c1]
        unfold j_X_readAside_53 f_R_towerCount
        rw [if_neg c1]
        by_cases c2 : μ 6 (60 * t.toNat + i) = 32
        · rw [if_pos c2, if_pos c2, z32_id (z := (i : Int) + 1) (by omega) (by omega)]
          exact ih T (i + 1) ν (by omega) (by omega) hR hV ho
        · rw [if_neg c2, if_neg c2, X_kindOf, z_some_bind]
          by_cases c3 : f_M_kindOf (μ 6 (60 * t.toNat + i)) = -1
          · rw [if_pos c3, if_pos c3]
            exact zQ_ret ⟨ν, rfl, hR, hV, ho⟩
          · have hk : 0 ≤ f_M_kindOf (μ 6 (60 * t.toNat + i)) ∧ f_M_kindOf (μ 6 (60 * t.toNat + i)) < 6 := by
              rcases kindOf_in (μ 6 (60 * t.toNat + i)) with q | q
              · exact absurd q c3
              · exact q
            rw [if_neg c3, if_neg c3, hR.1, z32_id (z := nT T - 1) (by omega) (by omega), R_hasRoom hR hV, z_some_bind]
            by_cases c4 : 0 < nT T ∧ hT T (nT T - 1) < 6 ∧ tot T < 12
            · obtain ⟨a, ea⟩ := S_getA (i := (i : Int) + 1) zSC_4 hsν h1 h2
              rw [if_pos c4, z_if1 (show (0 ≤ nT T - 1 ∧ nT T - 1 < nT T) ∧ hT T (nT T - 1) < 6 ∧ tot T < 12 from ⟨⟨by omega, by omega⟩, c4.2⟩), z32_id (z := (i : Int) + 1) (by omega) (by omega), z32_id (z := (i : Int) + 2) (by omega) (by omega), ea, z_some_bind]
              by_cases c5 : (i : Int) + 1 < n
              · have hx1 : (((60 : Nat) : Int) * t + ((i : Int) + 1)).toNat = 60 * t.toNat + (i + 1) := by omega
                rw [S_get zSC_4 hsν h1 h2 (by omega) (by rw [e5]; exact c5), e6, hx1] at ea
                have hb := hB (i + 1) (by omega)
                have ea2 : a = μ 6 (60 * t.toNat + (i + 1)) := (Option.some.inj ea).symm
                subst ea2
                rw [if_pos c5, z32_id (z := μ 6 (60 * t.toNat + (i + 1)) - 48) (by omega) (by omega), X_isBorne]
                by_cases c6 : 48 ≤ μ 6 (60 * t.toNat + (i + 1)) ∧ μ 6 (60 * t.toNat + (i + 1)) < 58
                · obtain ⟨κ, f1, f2, f3⟩ := R_push (o := 13) (t := nT T - 1) (k := f_M_kindOf (μ 6 (60 * t.toNat + i))) (b := μ 6 (60 * t.toNat + (i + 1)) - 48) hR hV (by omega) (by omega) c4.2.1 c4.2.2 hk (by omega)
                  have hV' := addT_V (t := nT T - 1) (k := f_M_kindOf (μ 6 (60 * t.toNat + i))) (b := μ 6 (60 * t.toNat + (i + 1)) - 48) hV (by omega) (by omega) c4.2.1 c4.2.2 hk (by omega)
                  rw [z_if1 (by omega), f1, z_some_bind, if_pos ⟨c5, c6⟩]
                  exact ih _ (i + 2) κ (by omega) (by omega) f2 hV' (zOut_trans ho f3)
                · rw [z_if0 (by omega), if_neg (fun z => c6 z.2)]
                  exact zQ_ret ⟨ν, rfl, hR, hV, ho⟩
              · rw [if_neg c5, if_neg (fun z => c5 z.1)]
                exact zQ_ret ⟨ν, rfl, hR, hV, ho⟩
            · rw [if_neg c4, z_if0 (fun z => c4 ⟨by omega, z.2⟩)]
              exact zQ_ret ⟨ν, rfl, hR, hV, ho⟩
    · rw [if_neg c0, if_neg c0, hR.1]
      by_cases c : nT T = 0
      · rw [if_pos c, if_pos c]; exact zQ_ret ⟨ν, rfl, hR, hV, ho⟩
      · rw [if_neg c, if_neg c]; exact zQ_ret ⟨ν, rfl, hR, hV, ho⟩
theorem X_readAside (hs : zSS μ 4 60 4 32) (hB : ∀ j : Nat, (j : Int) < n → -128 ≤ μ 6 (60 * t.toNat + j) ∧ μ 6 (60 * t.toNat + j) < 128) (h1 : 0 ≤ t) (h2 : t < ((4 : Nat) : Int)) (hn : μ (4 + 1) t.toNat = n) (h0 : 0 ≤ n) (hn60 : n ≤ 60) : ∃ κ, f_X_readAside t μ = some ((rdT (fun j => μ 6 (60 * t.toNat + j)) n 60 [] 0).1, κ) ∧ IsR κ 13 (rdT (fun j => μ 6 (60 * t.toNat + j)) n 60 [] 0).2 ∧ VT (rdT (fun j => μ 6 (60 * t.toNat + j)) n 60 [] 0).2 ∧ zOut μ κ 13 15 := by
  obtain ⟨ν, e1, e2, e3⟩ := R_clear (μ := μ) (o := 13)
  obtain ⟨r, g1, κ, g2, g3⟩ := zQ_go (X_read hs hB h1 h2 hn hn60 60 [] 0 ν (by omega) (by omega) e2 VT_nil e3)
  refine ⟨κ, ?_, g3⟩
  unfold f_X_readAside e_X_readAside
  rw [S_sizeOf zSC_4 h1 h2, z_some_bind, e1, z_some_bind, hn, ← g2]
  exact g1
end RD
