/-! a rock taken over without some of its houses -/
def flT (T : zT) (p : Nat → Bool) (j m : Nat) : List (Nat × Nat) := ((List.range m).filter (fun (s : Nat) => !p (numT T j s).toNat)).map (fun s => (T.getD j []).getD s (0, 0))
def tkT (T : zT) (p : Nat → Bool) (t : Nat) : zT := (List.range t).map (fun (j : Nat) => flT T p j (hT T j).toNat)
def wiT (T : zT) (p : Nat → Bool) : zT := tkT T p (nT T).toNat
theorem flT_s (T : zT) (p : Nat → Bool) (j m : Nat) : flT T p j (m + 1) = flT T p j m ++ if p (numT T j m).toNat then [] else [(T.getD j []).getD m (0, 0)] := by
  unfold flT
  rw [List.range_succ, List.filter_append, List.map_append]
  by_cases c : p (numT T j m).toNat = true
  · rw [if_pos c]; simp [c]
  · rw [if_neg c]; simp [c]
theorem tkT_len (T : zT) (p : Nat → Bool) (t : Nat) : (tkT T p t).length = t := by unfold tkT; simp
theorem tkT_s (T : zT) (p : Nat → Bool) (t : Nat) : tkT T p (t + 1) = tkT T p t ++ [flT T p t (hT T t).toNat] := by
  unfold tkT
  rw [List.range_succ, List.map_append]; rfl
theorem range_getD {α : Type} (L : List α) (d : α) : (List.range L.length).map (fun i => L.getD i d) = L := by
  apply List.ext_getElem
  · simp
  · intro i h1 h2
    simp [List.getD_eq_getElem?_getD, List.getElem?_eq_getElem h2]
theorem wiT_none {T : zT} : wiT T (fun _ => false) = T := by
  unfold wiT tkT
  have e : (nT T).toNat = T.length := by unfold nT; omega
  rw [e]
  have e2 : ∀ j : Nat, flT T (fun _ => false) j (hT T j).toNat = T.getD j [] := fun j => by
    unfold flT
    rw [hT_len (by omega), show (((j : Int)).toNat) = j by omega]
    have e3 : (List.range ((T.getD j []).length : Int).toNat).filter (fun (s : Nat) => !(fun _ => false) (numT T j s).toNat) = List.range (T.getD j []).length := by
      rw [show (((T.getD j []).length : Int)).toNat = (T.getD j []).length by omega]
      exact List.filter_eq_self.mpr (fun a _ => rfl)
    rw [e3]
    exact range_getD _ _
  rw [show (fun (j : Nat) => flT T (fun _ => false) j (hT T j).toNat) = fun j => T.getD j [] from funext e2]
  exact range_getD _ _
theorem getD_last {α : Type} (A : List α) (l d : α) : (A ++ [l]).getD A.length d = l := by
  rw [getD_app, if_pos rfl]
theorem set_last {α : Type} (A : List α) (l m : α) : (A ++ [l]).set A.length m = A ++ [m] := by
  rw [List.set_append_right _ _ (by omega), Nat.sub_self]; rfl
theorem addT_last {A : zT} {l : List (Nat × Nat)} {t : Int} (h : t.toNat = A.length) (x : Nat × Nat) (k b : Int) (hk : k.toNat = x.1) (hb : b.toNat = x.2) : addT (A ++ [l]) t k b = A ++ [l ++ [x]] := by
  unfold addT
  rw [h, getD_last, set_last, hk, hb]
section TK
variable {μ : zM} {T : zT} {o o1 : Nat} {v : Int} {p : Nat → Bool}
theorem R_clear : ∃ ν, f_R_clear o μ = some ν ∧ IsR ν o [] ∧ zOut μ ν o (o + 2) := by
  refine zQ_go (zQ_for (fun m q => ∃ ν, q = .inl ((m : Int), ν) ∧ ν o 0 = 0 ∧ ν o 1 = 0 ∧ (∀ x : Nat, x < m → ν (o + 1) x = 0) ∧ zOut μ ν o (o + 2)) 5 (s0 := .inl (0, zst (zst μ o 0 0) o 1 0)) rfl ⟨_, rfl, by rw [zst_o (by omega)]; exact zst_at, zst_at, fun x hx => by omega, zst_out (zst_out zOut_rf (by omega) (by omega)) (by omega) (by omega)⟩ ?_ ?_)
  · rintro m _ hm ⟨ν, rfl, q1, q2, q3, q4⟩
    show ∃ u, b_R_clear_12 o (m : Int) ν = some (.inl u) ∧ _
    unfold b_R_clear_12
    rw [if_pos (by omega), if_pos (by omega), z32_id (by omega) (by omega), show ((m : Nat) : Int).toNat = m by omega]
    refine ⟨_, rfl, _, rfl, by rw [zst_o (by omega)]; exact q1, by rw [zst_o (by omega)]; exact q2, fun x hx => ?_, zst_out q4 (by omega) (by omega)⟩
    by_cases c : x = m
    · subst c; exact zst_at
    · rw [zst_o (Or.inr c)]; exact q3 x (by omega)
  · rintro _ ⟨ν, rfl, q1, q2, q3, q4⟩
    show zQ _ (b_R_clear_12 o ((5 : Nat) : Int) ν) _
    unfold b_R_clear_12
    rw [if_neg (by omega)]
    refine zQ_for (fun m q => ∃ κ, q = .inr ((m : Int), κ) ∧ κ o 0 = 0 ∧ κ o 1 = 0 ∧ (∀ x : Nat, x < 5 → κ (o + 1) x = 0) ∧ (∀ x : Nat, x < m → κ (o + 2) x = 0) ∧ zOut μ κ o (o + 2)) 30 (s0 := .inr (0, ν)) rfl ⟨ν, rfl, q1, q2, q3, fun x hx => by omega, q4⟩ ?_ ?_
    · rintro m _ hm ⟨κ, rfl, w1, w2, w3, w4, w5⟩
      show ∃ u, b_R_clear_36 o (m : Int) κ = some (.inl u) ∧ _
      unfold b_R_clear_36
      rw [if_pos (by omega), if_pos (by omega), z32_id (by omega) (by omega), show ((m : Nat) : Int).toNat = m by omega]
      refine ⟨_, rfl, _, rfl, by rw [zst_o (by omega)]; exact w1, by rw [zst_o (by omega)]; exact w2, fun x hx => by rw [zst_o (by omega)]; exact w3 x hx, fun x hx => ?_, zst_out w5 (by omega) (by omega)⟩
      by_cases c : x = m
      · subst c; exact zst_at
      · rw [zst_o (Or.inr c)]; exact w4 x (by omega)
    · rintro _ ⟨κ, rfl, w1, w2, w3, w4, w5⟩
      show zQ _ (b_R_clear_36 o ((30 : Nat) : Int) κ) _
      unfold b_R_clear_36
      rw [if_neg (by omega)]
      have h0 : ∀ x : Int, hT [] x = 0 := fun x => by unfold hT; split <;> simp
      refine zQ_ret ⟨⟨w1, w2, fun x hx hx2 => by rw [w3 _ (by omega), h0], fun x y hx hx2 hy hy2 => ?_⟩, w5⟩
      rw [w4 _ (by omega), h0, if_neg (by omega)]
theorem R_addTower {S : zT} (hR : IsR μ o S) (hV : VT S) (h : nT S < 5) : ∃ ν, f_R_addTower o μ = some (1, ν) ∧ IsR ν o (S ++ [[]]) ∧ VT (S ++ [[]]) ∧ zOut μ ν o (o + 2) := by
  have h0 := nT_nn S
  obtain ⟨r1, r2, r3, r4⟩ := hR
  have hh : ∀ x, hT (S ++ [[]]) x = hT S x := fun x => by
    unfold hT
    by_cases c : 0 ≤ x
    · rw [if_pos c, if_pos c, getD_app]
      by_cases d : x.toNat = S.length
      · rw [if_pos d, d, List.getD_eq_getElem?_getD, List.getElem?_eq_none (by omega)]; rfl
      · rw [if_neg d]
    · rw [if_neg c, if_neg c]
  have hc : ∀ x y, y < hT S x → 0 ≤ x → cT (S ++ [[]]) x y = cT S x y ∧ bT (S ++ [[]]) x y = bT S x y := fun x y hy hx => by
    unfold cT bT
    rw [getD_app]
    by_cases d : x.toNat = S.length
    · rw [if_pos d, d, List.getD_eq_getElem?_getD (l := S), List.getElem?_eq_none (by omega)]; exact ⟨rfl, rfl⟩
    · rw [if_neg d]; exact ⟨rfl, rfl⟩
  have hn : nT (S ++ [[]]) = nT S + 1 := by unfold nT; simp
  have htt : tot (S ++ [[]]) = tot S := by unfold tot; simp
  refine ⟨zst μ o 0 (nT S + 1), ?_, ⟨?_, ?_, fun x hx hx2 => ?_, fun x y hx hx2 hy hy2 => ?_⟩, ?_, zst_out zOut_rf (by omega) (by omega)⟩
  · unfold f_R_addTower
    rw [r1, if_pos h, z32_id (by omega) (by omega)]
  · rw [zst_at, hn]
  · rw [zst_o (by omega), r2, htt]
  · rw [zst_o (by omega), r3 x hx hx2, hh]
  · rw [zst_o (by omega), r4 x y hx hx2 hy hy2, hh]
    by_cases c : y < hT S x
    · obtain ⟨c1, c2⟩ := hc x y c hx
      rw [if_pos c, if_pos c, c1, c2]
    · rw [if_neg c, if_neg c]
  · obtain ⟨v1, v2, v3, v4⟩ := hV
    refine ⟨by unfold nT at h; simp; omega, fun u hu => ?_, by simpa using v3, fun u hu => ?_⟩
    · rcases List.mem_append.mp hu with q | q
      · exact v2 u q
      · rw [List.mem_singleton.mp q]; simp
    · rcases List.mem_append.mp hu with q | q
      · exact v4 u q
      · rw [List.mem_singleton.mp q]; simp
theorem flT_le (T : zT) (p : Nat → Bool) (j m : Nat) : (flT T p j m).length ≤ m := by
  induction m with
  | zero => unfold flT; simp
  | succ m ih => rw [flT_s, List.length_append]; split <;> simp <;> omega
theorem VT_nil : VT [] := ⟨by simp, fun u hu => absurd hu (by simp), by simp, fun u hu => absurd hu (by simp)⟩
theorem R_takeWithout (hR : IsR μ o1 T) (hV : VT T) (ho : o1 + 2 < o ∨ o + 2 < o1) (hp : ∀ i : Nat, (i : Int) < tot T → zand (zshr v i) 1 = if p i then 1 else 0) : ∃ ν, f_R_takeWithout o o1 v μ = some ν ∧ IsR ν o (wiT T p) ∧ VT (wiT T p) ∧ tot (wiT T p) ≤ tot T ∧ zOut μ ν o (o + 2) := by
  have hn := nT_le hV
  have hn0 := nT_nn T
  have ht := tot_le hV
  obtain ⟨ν0, e1, e2, e3⟩ := R_clear (μ := μ) (o := o)
  refine zQ_go (zQ_nest (fun t q => ∃ ν, q = .inl (numT T t 0, (t : Int), ν) ∧ IsR ν o (tkT T p t) ∧ VT (tkT T p t) ∧ tot (tkT T p t) ≤ numT T t 0 ∧ zOut μ ν o (o + 2)) (nT T).toNat (s0 := .inl (0, 0, ν0)) ?_ ⟨ν0, rfl, e2, VT_nil, by show (0 : Int) ≤ _; have : numT T ((0 : Nat) : Int) 0 = 0 := rfl; omega, e3⟩ ?_ ?_)
  · unfold e_R_takeWithout
    rw [e1]; rfl
  · rintro t _ htn ⟨ν, rfl, q1, q2, q3, q4⟩ hgo
    have hR1 := IsR_out q4 ho hR
    have hh := hT_le hV t
    have hh0 := hT_nn T t
    have hl : nT (tkT T p t) = t := by unfold nT; rw [tkT_len]
    obtain ⟨ν1, f1, f2, f3, f4⟩ := R_addTower q1 q2 (by omega)
    have hnext := numT_next (T := T) (t := t) (by omega)
    have htot : tot (tkT T p t ++ [[]]) = tot (tkT T p t) := by unfold tot; simp
    show zQ _ (b_R_takeWithout_9 o o1 v (numT T t 0) (t : Int) ν) _
    unfold b_R_takeWithout_9
    rw [hR1.1, if_pos (by omega), f1, z_some_bind]
    refine zQ_for (fun m q => ∃ κ, q = .inr (numT T t m, (t : Int), (m : Int), κ) ∧ IsR κ o (tkT T p t ++ [flT T p t m]) ∧ VT (tkT T p t ++ [flT T p t m]) ∧ tot (tkT T p t ++ [flT T p t m]) ≤ numT T t m ∧ zOut μ κ o (o + 2)) (hT T t).toNat rfl ⟨ν1, rfl, f2, f3, by show tot (tkT T p t ++ [[]]) ≤ _; rw [htot]; exact q3, zOut_trans q4 f4⟩ ?_ ?_
    · rintro m _ hm ⟨κ, rfl, w1, w2, w3, w4⟩
      have hRκ := IsR_out w4 ho hR
      have hni := numT_in hV (t := t) (s := m) (by omega) (by omega)
      have hin := cT_in hV (x := t) (y := m) (by omega) (by omega) (by omega)
      have e4 : numT T t ((m + 1 : Nat) : Int) = numT T t m + 1 := by rw [numT_s, numT_s (s := (m : Int))]; omega
      have hpm := hp (numT T t m).toNat (by omega)
      rw [show (((numT T t m).toNat : Nat) : Int) = numT T t m by omega] at hpm
      have hnS : nT (tkT T p t ++ [flT T p t m]) = t + 1 := by unfold nT; rw [List.length_append, tkT_len]; rfl
      have hhS : hT (tkT T p t ++ [flT T p t m]) t ≤ m := by
        rw [hT_len (by omega), show ((t : Int)).toNat = (tkT T p t).length by rw [tkT_len]; omega, getD_last]
        have := flT_le T p t m
        omega
      show ∃ u, b_R_takeWithout_26 o o1 v (numT T t m) (t : Int) (m : Int) κ = some (.inl u) ∧ _
      unfold b_R_takeWithout_26
      rw [R_heightOf hRκ hV, z_some_bind, if_pos (by omega), hpm, z32_id (z := numT T t m + 1) (by omega) (by omega), z32_id (z := (m : Int) + 1) (by omega) (by omega)]
      by_cases c : p (numT T t m).toNat = true
      · have efl : flT T p t (m + 1) = flT T p t m := by rw [flT_s, if_pos c, List.append_nil]
        rw [z_if1 c]
        refine ⟨_, rfl, κ, by rw [e4]; rfl, by rw [efl]; exact w1, by rw [efl]; exact w2, by rw [efl, e4]; omega, w4⟩
      · have efl : addT (tkT T p t ++ [flT T p t m]) (t : Int) (cT T t m) (bT T t m) = tkT T p t ++ [flT T p t (m + 1)] := by
          rw [flT_s, if_neg c]
          exact addT_last (by rw [tkT_len]; omega) _ _ _ (by unfold cT; rfl) (by unfold bT; rfl)
        obtain ⟨ι, g1, g2, g3⟩ := R_push (k := cT T t m) (b := bT T t m) w1 w2 (t := t) (by omega) (by omega) (by omega) (by omega) ⟨hin.1, hin.2.1⟩ ⟨hin.2.2.1, hin.2.2.2⟩
        have gV := addT_V (k := cT T t m) (b := bT T t m) w2 (t := t) (by omega) (by omega) (by omega) (by omega) ⟨hin.1, hin.2.1⟩ ⟨hin.2.2.1, hin.2.2.2⟩
        have gt := addT_t (T := tkT T p t ++ [flT T p t m]) (t := t) (k := cT T t m) (b := bT T t m) (by omega) (by omega)
        rw [efl] at g2 gV gt
        rw [z_if0 c, R_kindAt hRκ hV (by omega) (by omega), z_some_bind, R_borneAt hRκ hV (by omega) (by omega), z_some_bind, g1, z_some_bind]
        exact ⟨_, rfl, ι, by rw [e4]; rfl, g2, gV, by rw [gt, e4]; omega, zOut_trans w4 g3⟩
    · rintro _ ⟨κ, rfl, w1, w2, w3, w4⟩
      have hRκ := IsR_out w4 ho hR
      rw [← tkT_s] at w1 w2 w3
      rw [show (((hT T t).toNat : Nat) : Int) = hT T t by omega, ← hnext] at w3
      show zQ _ (b_R_takeWithout_26 o o1 v (numT T t ((hT T t).toNat : Int)) (t : Int) ((hT T t).toNat : Int) κ) _
      unfold b_R_takeWithout_26
      rw [R_heightOf hRκ hV, z_some_bind, if_neg (by omega), z32_id (by omega) (by omega), show (((hT T t).toNat : Nat) : Int) = hT T t by omega, ← hnext]
      exact hgo _ ⟨κ, rfl, w1, w2, w3, w4⟩
  · rintro _ ⟨ν, rfl, q1, q2, q3, q4⟩
    have hR1 := IsR_out q4 ho hR
    show zQ _ (b_R_takeWithout_9 o o1 v (numT T ((nT T).toNat : Int) 0) ((nT T).toNat : Int) ν) _
    unfold b_R_takeWithout_9
    rw [hR1.1, if_neg (by omega)]
    rw [show (((nT T).toNat : Nat) : Int) = nT T by omega, tot_num hV] at q3
    exact zQ_ret ⟨q1, q2, q3, q4⟩
theorem z_sh0 : ∀ i : Nat, i < 12 → zand (zshr 0 (i : Int)) 1 = 0 := by decide +kernel
theorem R_takeFrom (hR : IsR μ o1 T) (hV : VT T) (ho : o1 + 2 < o ∨ o + 2 < o1) : ∃ ν, f_R_takeFrom o o1 μ = some ν ∧ IsR ν o T ∧ zOut μ ν o (o + 2) := by
  have ht := tot_le hV
  obtain ⟨ν, e1, e2, _, _, e3⟩ := R_takeWithout (v := 0) (p := fun _ => false) hR hV ho (fun i hi => by rw [z_sh0 i (by omega)]; rfl)
  rw [wiT_none] at e2
  refine ⟨ν, ?_, e2, e3⟩
  unfold f_R_takeFrom
  rw [e1]; rfl
end TK
