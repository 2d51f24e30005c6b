/-! a text is read by the model -/
section RE
variable {μ : zM} {T : zT} {t v n k a : Int} {b : Nat}
theorem M_housesAt (hb : b ≤ 10824) (hW : IsV (zAt μ b) T) (hV : VT T) : f_M_housesOf (b : Int) μ = some (tot T) := by
  have h4 := nT_le hV
  have h5 := nT_nn T
  have w0 : μ 43 (b + 0) = nT T := hW.1
  rw [← tot_num hV]
  unfold numT
  refine zE_go (zE_for (fun k => (zsum k (fun j => hT T j), (k : Int))) (nT T).toNat rfl (fun k hk => ?_) ?_)
  · have hz := zsum_hT hV k
    have hz1 := hT_le hV k
    have hz2 := hT_nn T k
    have w1 : μ 43 (b + (1 + (k : Int)).toNat) = hT T k := hW.2.1 k (by omega) (by omega)
    show b_M_housesOf_4 (b : Int) _ _ μ = _
    unfold b_M_housesOf_4
    rw [z32_id (z := (b : Int) + 0) (by omega) (by omega), z32_id (z := (b : Int) + 1) (by omega) (by omega), z32_id (z := (b : Int) + 1 + (k : Int)) (by omega) (by omega), if_pos (by omega), show ((b : Int) + 0).toNat = b + 0 by omega, w0, if_pos (by omega), if_pos (by omega), show ((b : Int) + 1 + (k : Int)).toNat = b + (1 + (k : Int)).toNat by omega, w1, z32_id (by omega) (by omega), z32_id (by omega) (by omega), zsum_s]
    rfl
  · show zE _ (b_M_housesOf_4 (b : Int) _ _ μ) _
    unfold b_M_housesOf_4
    rw [z32_id (z := (b : Int) + 0) (by omega) (by omega), if_pos (by omega), show ((b : Int) + 0).toNat = b + 0 by omega, w0, if_neg (by omega), Int.zero_add]
    exact zE_ret
theorem M_adds_x (hb : b ≤ 10824) (hW : IsV (zAt μ b) T) (hV : VT T) (h1 : 0 ≤ t) (h2 : t < nT T) (h3 : hT T t < 6) : f_M_adds (b : Int) t k a μ = some (zst (zst (zst μ 43 ((b : Int) + 6 + 6 * t + hT T t).toNat k) 43 ((b : Int) + 36 + 6 * t + hT T t).toNat a) 43 (b + (1 + t).toNat) (hT T t + 1)) := by
  have hn := nT_le hV
  have hh := hT_nn T t
  have e0 : μ 43 (b + (1 + t).toNat) = hT T t := hW.2.1 t h1 h2
  have e1 : zst (zst μ 43 ((b : Int) + 6 + 6 * t + hT T t).toNat k) 43 ((b : Int) + 36 + 6 * t + hT T t).toNat a 43 (b + (1 + t).toNat) = hT T t := by
    rw [zst43_o (by omega), zst43_o (by omega), e0]
  unfold f_M_adds
  rw [z32_id (z := (b : Int) + 1) (by omega) (by omega), z32_id (z := (b : Int) + 1 + t) (by omega) (by omega), show ((b : Int) + 1 + t).toNat = b + (1 + t).toNat by omega, e0, z32_id (z := (b : Int) + 6) (by omega) (by omega), z32_id (z := (b : Int) + 36) (by omega) (by omega), z32_id (z := 6 * t) (by omega) (by omega), z32_id (z := (b : Int) + 6 + 6 * t) (by omega) (by omega), z32_id (z := (b : Int) + 36 + 6 * t) (by omega) (by omega), z32_id (z := (b : Int) + 6 + 6 * t + hT T t) (by omega) (by omega), z32_id (z := (b : Int) + 36 + 6 * t + hT T t) (by omega) (by omega), e1, z32_id (z := hT T t + 1) (by omega) (by omega), if_pos (by omega), if_pos (by omega), if_pos (by omega), if_pos (by omega), if_pos (by omega)]
theorem M_byteI (h1 : 0 ≤ t) (h2 : t < 4) (i : Nat) (h3 : (i : Int) < μ 48 t.toNat) (h4 : μ 48 t.toNat ≤ 60) : f_M_byteAt t (i : Int) μ = some (μ 47 (60 * t.toNat + i)) := by
  unfold f_M_byteAt
  rw [if_pos ⟨h1, h2⟩, if_pos h3, z32_id (z := 60 * t) (by omega) (by omega), z32_id (z := 60 * t + (i : Int)) (by omega) (by omega), if_pos (by omega), show (60 * t + (i : Int)).toNat = 60 * t.toNat + i by omega]
theorem M_byteO (h1 : 0 ≤ t) (h2 : t < 4) (h3 : ¬ v < μ 48 t.toNat) : f_M_byteAt t v μ = some (-1000) := by
  unfold f_M_byteAt
  rw [if_pos ⟨h1, h2⟩, if_neg h3]
/-- heights of towers to come are 0 -/
def zNew (ν : zM) (T : zT) : Prop := ∀ x : Nat, x < 5 → nT T ≤ x → ν 43 (10825 + x) = 0
theorem M_read (h1 : 0 ≤ t) (h2 : t < 4) (hn : μ 48 t.toNat = n) (hn60 : n ≤ 60) : ∀ (m : Nat) (T : zT) (i : Nat) (ν : zM), n - i ≤ m → (i : Int) ≤ n → IsV (zAt ν 10824) T → VT T → zNew ν T → zO43 μ ν 10824 10890 → zQ (t_M_faultOf t) (some (.inl (.inr ((i : Int), ν)))) (fun r => ∃ κ, r = ((rdT (fun j => μ 47 (60 * t.toNat + j)) n m T i).1, κ) ∧ IsV (zAt κ 10824) (rdT (fun j => μ 47 (60 * t.toNat + j)) n m T i).2 ∧ zO43 μ κ 10824 10890) := by
  intro m
  induction m with
  | zero =>
    intro T i ν hm hi hW hV hN ho
    have w0 : ν 43 10824 = nT T := hW.1
    have e48 : ν 48 t.toNat = n := by rw [ho.1 48 (by omega)]; exact hn
    refine zQ_step ?_
    show zQ _ (b_M_faultOf_27 t (i : Int) ν) _
    unfold b_M_faultOf_27
    rw [if_pos ⟨h1, h2⟩, e48, if_neg (by omega), w0]
    by_cases c : nT T = 0
    · rw [if_pos c, if_pos ⟨h1, h2⟩]; exact zQ_ret ⟨ν, by unfold rdT; rw [if_pos c], hW, ho⟩
    · rw [if_neg c]; exact zQ_ret ⟨ν, by unfold rdT; rw [if_neg c], hW, ho⟩
  | succ m ih =>
    intro T i ν hm hi hW hV hN ho
    have w0 : ν 43 10824 = nT T := hW.1
    have e48 : ν 48 t.toNat = n := by rw [ho.1 48 (by omega)]; exact hn
    have e47 : ν 47 = μ 47 := ho.1 47 (by omega)
    have hn5 := nT_le hV
    have hn0 := nT_nn T
    refine zQ_step ?_
    rw [rdT_s]
    show zQ _ (b_M_faultOf_27 t (i : Int) ν) _
    unfold b_M_faultOf_27
    by_cases c0 : (i : Int) < n
    · rw [if_pos ⟨h1, h2⟩, e48, if_pos c0, if_pos c0, M_byteI h1 h2 i (by rw [e48]; exact c0) (by rw [e48]; exact hn60), z_some_bind, e47, w0, z32_id (z := nT T - 1) (by omega) (by omega), z32_id (z := (i : Int) + 1) (by omega) (by omega), z32_id (z := nT T + 1) (by omega) (by omega)]
      by_cases c1 : μ 47 (60 * t.toNat + i) = 114
      · rw [if_pos c1, if_pos c1]
        by_cases c2 : nT T < 5
        · rw [if_pos c2, if_neg (by omega)]
          refine ih (T ++ [[]]) (i + 1) (zst ν 43 10824 (nT T + 1)) (by omega) (by omega) ?_ ?_ ?_ ?_
          · refine IsV_ext hW ?_ ?_ (fun c hc => ?_)
            · show zst ν 43 10824 (nT T + 1) 43 (10824 + 0) = _
              exact zst_at
            · show zst ν 43 10824 (nT T + 1) 43 (10824 + (1 + nT T).toNat) = 0
              have := hN (nT T).toNat (by omega) (by omega)
              rw [zst43_o (by omega), show 10824 + (1 + nT T).toNat = 10825 + (nT T).toNat by omega]
              exact this
            · show zst ν 43 10824 (nT T + 1) 43 (10824 + c) = ν 43 (10824 + c)
              exact zst43_o (by omega)
          · obtain ⟨v1, v2, v3, v4⟩ := hV
            unfold nT at c2
            refine ⟨by rw [List.length_append]; show T.length + 1 ≤ 5; omega, fun u hu => ?_, by simpa using v3, fun u hu => ?_⟩
            · rcases List.mem_append.mp hu with q | q
              · exact v2 u q
              · rw [List.mem_singleton.mp q]; show 0 ≤ 6; omega
            · rcases List.mem_append.mp hu with q | q
              · exact v4 u q
              · rw [List.mem_singleton.mp q]; intro x hx; exact absurd hx (by simp)
          · intro x hx hx2
            rw [ext_n] at hx2
            rw [zst43_o (by omega)]
            exact hN x hx (by omega)
          · exact ⟨fun p hp => by rw [zst_p hp, ho.1 p hp], fun c hc => by rw [zst43_o (by omega), ho.2 c hc]⟩
        · rw [if_neg c2, if_pos (by omega)]
          exact zQ_ret ⟨ν, rfl, hW, ho⟩
      · rw [if_neg c1, if_neg c1]
        by_cases c2 : μ 47 (60 * t.toNat + i) = 32
        · rw [if_pos c2, if_pos c2]
          exact ih T (i + 1) ν (by omega) (by omega) hW hV hN ho
        · rw [if_neg c2, if_neg c2]
          by_cases c3 : f_M_kindOf (μ 47 (60 * t.toNat + i)) = -1
          · rw [if_pos (by omega), if_pos c3]
            exact zQ_ret ⟨ν, rfl, hW, ho⟩
          · have hk : 0 ≤ f_M_kindOf (μ 47 (60 * t.toNat + i)) ∧ f_M_kindOf (μ 47 (60 * t.toNat + i)) < 6 := by
              rcases kindOf_in (μ 47 (60 * t.toNat + i)) with q | q
              · exact absurd q c3
              · exact q
            rw [if_neg (show ¬ f_M_kindOf (μ 47 (60 * t.toNat + i)) < 0 by omega), if_neg c3]
            by_cases c4 : 0 < nT T ∧ hT T (nT T - 1) < 6 ∧ tot T < 12
            · have wh : ν 43 (10824 + (1 + (nT T - 1)).toNat) = hT T (nT T - 1) := hW.2.1 (nT T - 1) (by omega) (by omega)
              rw [if_pos c4, if_neg (by omega), z32_id (z := 10825 + (nT T - 1)) (by omega) (by omega), if_pos (by omega), show (10825 + (nT T - 1)).toNat = 10824 + (1 + (nT T - 1)).toNat by omega, wh, if_neg (by omega), show f_M_housesOf 10824 ν = f_M_housesOf ((10824 : Nat) : Int) ν from rfl, M_housesAt (by omega) hW hV, z_some_bind, if_neg (by omega), z32_id (z := (i : Int) + 1 + 1) (by omega) (by omega)]
              by_cases c5 : (i : Int) + 1 < n
              · have e := M_byteI (μ := ν) h1 h2 (i + 1) (by rw [e48]; omega) (by rw [e48]; exact hn60)
                rw [show ((i + 1 : Nat) : Int) = (i : Int) + 1 by omega, e47] at e
                rw [e, z_some_bind, z_some_bind, M_in]
                by_cases c6 : 48 ≤ μ 47 (60 * t.toNat + (i + 1)) ∧ μ 47 (60 * t.toNat + (i + 1)) < 58
                · obtain ⟨κ, f1, f2, f3, _⟩ := M_adds (b := 10824) (t := nT T - 1) (k := f_M_kindOf (μ 47 (60 * t.toNat + i))) (a := μ 47 (60 * t.toNat + (i + 1)) - 48) (by omega) hW hV (by omega) (by omega) c4.2.1 hk.1 (by omega)
                  have hV' := addT_V (t := nT T - 1) (k := f_M_kindOf (μ 47 (60 * t.toNat + i))) (b := μ 47 (60 * t.toNat + (i + 1)) - 48) hV (by omega) (by omega) c4.2.1 c4.2.2 hk (by omega)
                  have fx := M_adds_x (b := 10824) (t := nT T - 1) (k := f_M_kindOf (μ 47 (60 * t.toNat + i))) (a := μ 47 (60 * t.toNat + (i + 1)) - 48) (by omega) hW hV (by omega) (by omega) c4.2.1
                  have fe := Option.some.inj (f1.symm.trans fx)
                  have f1' : f_M_adds 10824 (nT T - 1) (f_M_kindOf (μ 47 (60 * t.toNat + i))) (μ 47 (60 * t.toNat + (i + 1)) - 48) ν = some κ := f1
                  have hh0 := hT_nn T (nT T - 1)
                  rw [z_if1 (by omega), if_pos ⟨c5, c6⟩, z32_id (z := μ 47 (60 * t.toNat + (i + 1)) - 48) (by omega) (by omega), f1', z_some_bind]
                  refine ih _ (i + 2) κ (by omega) (by omega) f2 hV' ?_ (zO43_tr ho f3)
                  intro x hx hx2
                  rw [addT_n] at hx2
                  rw [fe, zst43_o (by omega), zst43_o (by omega), zst43_o (by omega)]
                  exact hN x hx hx2
                · rw [z_if0 (by omega), if_neg (fun z => c6 z.2)]
                  exact zQ_ret ⟨ν, rfl, hW, ho⟩
              · rw [M_byteO h1 h2 (by rw [e48]; exact c5), z_some_bind, M_in, z_if0 (by omega), if_neg (fun z => c5 z.1)]
                exact zQ_ret ⟨ν, rfl, hW, ho⟩
            · rw [if_neg c4]
              by_cases d1 : 0 < nT T
              · have wh : ν 43 (10824 + (1 + (nT T - 1)).toNat) = hT T (nT T - 1) := hW.2.1 (nT T - 1) (by omega) (by omega)
                have hl := hT_le hV (nT T - 1)
                have ht := tot_le hV
                rw [if_neg (by omega), z32_id (z := 10825 + (nT T - 1)) (by omega) (by omega), if_pos (by omega), show (10825 + (nT T - 1)).toNat = 10824 + (1 + (nT T - 1)).toNat by omega, wh]
                by_cases d2 : hT T (nT T - 1) = 6
                · rw [if_pos d2]; exact zQ_ret ⟨ν, rfl, hW, ho⟩
                · rw [if_neg d2, show f_M_housesOf 10824 ν = f_M_housesOf ((10824 : Nat) : Int) ν from rfl, M_housesAt (by omega) hW hV, z_some_bind, if_pos (by omega)]
                  exact zQ_ret ⟨ν, rfl, hW, ho⟩
              · rw [if_pos (by omega)]; exact zQ_ret ⟨ν, rfl, hW, ho⟩
    · rw [if_pos ⟨h1, h2⟩, e48, if_neg c0, w0, if_neg c0]
      by_cases c : nT T = 0
      · rw [if_pos c, if_pos ⟨h1, h2⟩, if_pos c]; exact zQ_ret ⟨ν, rfl, hW, ho⟩
      · rw [if_neg c, if_neg c]; exact zQ_ret ⟨ν, rfl, hW, ho⟩
theorem M_faultOf (h1 : 0 ≤ t) (h2 : t < 4) (hn : μ 48 t.toNat = n) (h0 : 0 ≤ n) (hn60 : n ≤ 60) : ∃ κ, f_M_faultOf t μ = some ((rdT (fun j => μ 47 (60 * t.toNat + j)) n 60 [] 0).1, κ) ∧ IsV (zAt κ 10824) (rdT (fun j => μ 47 (60 * t.toNat + j)) n 60 [] 0).2 ∧ zO43 μ κ 10824 10890 := by
  suffices hq : zQ (t_M_faultOf t) (e_M_faultOf t μ) (fun r => ∃ κ, r = ((rdT (fun j => μ 47 (60 * t.toNat + j)) n 60 [] 0).1, κ) ∧ IsV (zAt κ 10824) (rdT (fun j => μ 47 (60 * t.toNat + j)) n 60 [] 0).2 ∧ zO43 μ κ 10824 10890) by
    obtain ⟨r, g1, κ, g2, g3⟩ := zQ_go hq
    exact ⟨κ, by rw [← g2]; exact g1, g3⟩
  refine zQ_for (fun k q => ∃ ν, q = .inl ((k : Int), ν) ∧ zO43 μ ν 10824 10890 ∧ ∀ c : Nat, c < k → ν 43 (10824 + c) = 0) 66 (s0 := .inl (0, μ)) rfl ⟨μ, rfl, ⟨fun _ _ => rfl, fun _ _ => rfl⟩, fun c hc => by omega⟩ ?_ ?_
  · rintro k _ hk ⟨ν, rfl, q1, q2⟩
    show ∃ u, b_M_faultOf_2 t (k : Int) ν = some (.inl u) ∧ _
    unfold b_M_faultOf_2
    rw [if_pos (by omega), z32_id (z := 10824 + (k : Int)) (by omega) (by omega), if_pos (by omega), z32_id (z := (k : Int) + 1) (by omega) (by omega), show (10824 + (k : Int)).toNat = 10824 + k by omega]
    refine ⟨_, rfl, _, rfl, ⟨fun p hp => by rw [zst_p hp, q1.1 p hp], fun c hc => by rw [zst43_o (by omega), q1.2 c hc]⟩, fun c hc => ?_⟩
    by_cases d : c = k
    · subst d; exact zst_at
    · rw [zst43_o (by omega)]; exact q2 c (by omega)
  · rintro _ ⟨ν, rfl, q1, q2⟩
    show zQ _ (b_M_faultOf_2 t ((66 : Nat) : Int) ν) _
    unfold b_M_faultOf_2
    rw [if_neg (by omega)]
    refine M_read h1 h2 hn hn60 60 [] 0 ν (by omega) (by omega) ⟨q2 0 (by omega), fun x hx hx2 => ?_, fun x y hx hx2 => ?_⟩ VT_nil (fun x hx _ => ?_) q1
    · exact absurd hx2 (by show ¬ x < ((([] : zT).length : Nat) : Int); simp; omega)
    · exact absurd hx2 (by show ¬ x < ((([] : zT).length : Nat) : Int); simp; omega)
    · have := q2 (1 + x) (by omega)
      rw [show 10825 + x = 10824 + (1 + x) by omega]; exact this
end RE
