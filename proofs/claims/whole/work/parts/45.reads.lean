/-! more of the component's rock -/
section RR4
variable {μ : zM} {o : Nat} {T : zT} {t s k h : Int}
theorem zSV_e (h1 : 0 ≤ h) (h2 : h < 5) : (zSV 2).getD h.toNat 0 = eT h ∧ (zSV 3).getD h.toNat 0 = uT h := by
  have : h = 0 ∨ h = 1 ∨ h = 2 ∨ h = 3 ∨ h = 4 := by omega
  rcases this with rfl | rfl | rfl | rfl | rfl <;> exact ⟨rfl, rfl⟩
theorem eT_in (h : Int) : -1 ≤ eT h ∧ eT h ≤ 1 ∧ 0 ≤ uT h ∧ uT h ≤ 1 := by
  unfold eT uT
  repeat' split
  all_goals omega
/-- steps to a place on the sun's way -/
theorem z_mul_e (k : Nat) (hk : k ≤ 10) {e : Int} (h1 : -1 ≤ e) (h2 : e ≤ 1) : -((k : Int)) ≤ k * e ∧ k * e ≤ k := by
  have : e = -1 ∨ e = 0 ∨ e = 1 := by omega
  rcases this with rfl | rfl | rfl <;> omega
theorem R_shaderOf (hR : IsR μ o T) (hV : VT T) (h1 : 0 ≤ s) (h2 : s < 6) (h3 : 0 ≤ t) (h4 : t < 5) (h5 : 0 ≤ h) (h6 : h < 5) : f_R_shaderOf o t s h μ = some (shT T t s h) := by
  have h7 := nT_le hV
  have he := eT_in h
  refine zE_go (zE_find (fun k => (1 + k : Int)) (fun k => blkT T (t + (1 + k) * eT h) (s + (1 + k) * uT h)) (fun k => numT T (t + (1 + k) * eT h) (s + (1 + k) * uT h)) (-9) 5 ?_ (fun k hk => ?_) ?_)
  · unfold e_R_shaderOf
    simp (disch := omega) only [if_neg, if_pos]
    rfl
  · have hm1 := z_mul_e (1 + k) (by omega) he.1 he.2.1
    have hm2 := z_mul_e (1 + k) (by omega) (e := uT h) (by omega) he.2.2.2
    have e1 : ((1 + k : Nat) : Int) = 1 + k := by omega
    rw [e1] at hm1 hm2
    show b_R_shaderOf_26 o t s h _ μ = _
    unfold b_R_shaderOf_26
    rw [(zSV_e h5 h6).1, (zSV_e h5 h6).2, if_pos (by omega), if_pos (by omega), if_pos (by omega)]
    generalize hx : (1 + (k : Int)) * eT h = a at hm1 ⊢
    generalize hy : (1 + (k : Int)) * uT h = b at hm2 ⊢
    rw [z32_id (z := a) (by omega) (by omega), z32_id (z := b) (by omega) (by omega), z32_id (z := t + a) (by omega) (by omega), z32_id (z := s + b) (by omega) (by omega), z32_id (z := 1 + (k : Int) + 1) (by omega) (by omega)]
    by_cases c : 0 ≤ s + b ∧ s + b < hT T (t + a)
    · have hp := hT_pos (show 0 < hT T (t + a) by omega)
      have hl := hT_le hV (t + a)
      rw [R_hasI hR hV c.1 c.2, z_some_bind, if_neg (by omega), R_kindAt hR hV c.1 c.2, z_some_bind, X_isOf_1, z_some_bind, R_numberOf hR hV c.1 (by omega) hp.1 (by omega), z_some_bind]
      by_cases g : cT T (t + a) (s + b) = 1 ∨ cT T (t + a) (s + b) = 4
      · have hb : blkT T (t + a) (s + b) = false := by unfold blkT; simp [g]
        rw [if_pos g, if_neg (by omega), hb]
        simp [Int.add_assoc]
      · have hb : blkT T (t + a) (s + b) = true := by unfold blkT; simp only [decide_eq_true_eq]; exact ⟨c, g⟩
        rw [if_neg g, if_pos rfl, hb]
        rfl
    · have hb : blkT T (t + a) (s + b) = false := by unfold blkT; simp only [decide_eq_false_iff_not]; exact fun q => c q.1
      rw [R_hasO hR hV c, z_some_bind, if_pos rfl, hb]
      simp [Int.add_assoc]
  · show b_R_shaderOf_26 o t s h _ μ = _
    unfold b_R_shaderOf_26
    rw [if_neg (by omega)]
end RR4
/-- a house's number is known: from 0 on, below how many there are -/
theorem tot_num {T : zT} (hV : VT T) : numT T (nT T) 0 = tot T := by
  unfold numT tot nT
  rw [Int.zero_add]
  have key : ∀ (L M : zT), M ++ L = T → zsum L.length (fun j => hT T (M.length + j : Nat)) = ((L.map List.length).sum : Nat) := by
    intro L
    induction L with
    | nil => intro M _; simp [zsum_0]
    | cons a L ih =>
      intro M hM
      have h1 := ih (M ++ [a]) (by rw [List.append_assoc]; exact hM)
      have e2 : ∀ n, zsum (n + 1) (fun j => hT T (M.length + j : Nat)) = hT T (M.length : Nat) + zsum n (fun j => hT T ((M ++ [a]).length + j : Nat)) := by
        intro n
        induction n with
        | zero => simp [zsum_s, zsum_0]
        | succ n ihn =>
          rw [zsum_s, ihn, zsum_s, List.length_append, List.length_singleton, show M.length + (n + 1) = M.length + 1 + n by omega]
          omega
      rw [List.length_cons, e2, h1, List.map_cons, List.sum_cons]
      have e3 : hT T (M.length : Nat) = a.length := by
        unfold hT
        rw [if_pos (by omega), show ((M.length : Nat) : Int).toNat = M.length by omega, ← hM, List.getD_eq_getElem?_getD, List.getElem?_append_right (Nat.le_refl _)]
        simp
      rw [e3]
      omega
  have h0 := key T [] rfl
  simp only [List.length_nil, Nat.zero_add] at h0
  rw [show ((T.length : Int)).toNat = T.length by omega]
  exact h0
theorem numT_mono {T : zT} {a b : Int} (h : a ≤ b) : numT T a 0 ≤ numT T b 0 := by
  unfold numT
  have := zsum_mono (n := a.toNat) (m := b.toNat) (f := fun j => hT T j) (fun k _ => hT_nn T k) (by omega)
  omega
theorem numT_next {T : zT} {t : Int} (h : 0 ≤ t) : numT T (t + 1) 0 = numT T t (hT T t) := by
  unfold numT
  rw [show (t + 1).toNat = t.toNat + 1 by omega, zsum_s, show ((t.toNat : Nat) : Int) = t by omega]
  omega
theorem numT_s {T : zT} {t s : Int} : numT T t s = numT T t 0 + s := by unfold numT; omega
theorem tot_le {T : zT} (hV : VT T) : 0 ≤ tot T ∧ tot T ≤ 12 := by have := hV.2.2.1; unfold tot; omega
theorem numT_in {T : zT} (hV : VT T) {t s : Int} (h1 : 0 ≤ s) (h2 : s < hT T t) : 0 ≤ numT T t s ∧ numT T t s < tot T := by
  have h3 := hT_pos (show 0 < hT T t by omega)
  have h4 := numT_mono (T := T) (a := t + 1) (b := nT T) (by omega)
  rw [numT_next h3.1, tot_num hV, numT_s] at h4
  have h5 : 0 ≤ numT T t 0 := by
    unfold numT
    have := zsum_nn (n := t.toNat) (f := fun j => hT T j) (fun k _ => hT_nn T k)
    omega
  rw [numT_s]
  omega
theorem zff_mem {ρ : Type} (p : Nat → Bool) (g : Nat → ρ) (d : ρ) : ∀ m i, zff p g d m i = d ∨ ∃ k, i ≤ k ∧ k < i + m ∧ p k = true ∧ zff p g d m i = g k
  | 0, i => Or.inl rfl
  | m + 1, i => by
    unfold zff
    by_cases hp : p i = true
    · rw [if_pos hp]; exact Or.inr ⟨i, by omega, by omega, hp, rfl⟩
    · rw [if_neg hp]
      rcases zff_mem p g d m (i + 1) with h | ⟨k, h1, h2, h3, h4⟩
      · exact Or.inl h
      · exact Or.inr ⟨k, by omega, by omega, h3, h4⟩
/-- who shades: none, or a house by its number -/
theorem shT_in {T : zT} (hV : VT T) (t s h : Int) : shT T t s h = -9 ∨ (0 ≤ shT T t s h ∧ shT T t s h < tot T) := by
  unfold shT
  rcases zff_mem (fun k => blkT T (t + (1 + k) * eT h) (s + (1 + k) * uT h)) (fun k => numT T (t + (1 + k) * eT h) (s + (1 + k) * uT h)) (-9) 5 0 with e | ⟨k, -, -, h3, e⟩
  · exact Or.inl e
  · rw [e]
    unfold blkT at h3
    simp only [decide_eq_true_eq] at h3
    exact Or.inr (numT_in hV h3.1.1 h3.1.2)
/-- the hours in which none shades, as a set -/
def hoT (T : zT) (t s : Int) : Int := zset2 5 (fun h => decide (shT T t s h = -9))
theorem hoT_in (T : zT) (t s : Int) : 0 ≤ hoT T t s ∧ hoT T t s < 32 := zset2_b _ 5
section RR5
variable {μ : zM} {o : Nat} {T : zT} {t s k h : Int}
theorem R_hoursSeen (hR : IsR μ o T) (hV : VT T) (h1 : 0 ≤ s) (h2 : s < 6) (h3 : 0 ≤ t) (h4 : t < 5) : f_R_hoursSeen o t s μ = some (hoT T t s) := by
  refine zE_go (zE_for (fun k => (zset2 k (fun h => decide (shT T t s h = -9)), (k : Int))) 5 rfl (fun k hk => ?_) ?_)
  · have hz := zset2_b (fun h => decide (shT T t s h = -9)) k
    show b_R_hoursSeen_5 o t s _ _ μ = _
    unfold b_R_hoursSeen_5
    rw [if_pos (by omega), R_shaderOf hR hV h1 h2 h3 h4 (by omega) (by omega), z_some_bind, zset2_s, z32_id (by omega) (by omega)]
    by_cases c : shT T t s k = -9
    · rw [if_pos c, zor_add (by omega) hz.1 hz.2]
      simp [c]
    · rw [if_neg c]
      simp [c]
  · show zE _ (b_R_hoursSeen_5 o t s _ _ μ) _
    unfold b_R_hoursSeen_5
    rw [if_neg (by omega)]
    exact zE_ret
/-- the most storeys -/
def mxT (T : zT) : Nat → Int
  | 0 => 0
  | n + 1 => max (mxT T n) (hT T n)
theorem R_mostStoreys (hR : IsR μ o T) (hV : VT T) : f_R_mostStoreys o μ = some (mxT T (nT T).toNat) := by
  have h4 := nT_le hV
  have h5 := nT_nn T
  refine zE_go (zE_for (fun k => (mxT T k, (k : Int))) (nT T).toNat rfl (fun k hk => ?_) ?_)
  · show b_R_mostStoreys_4 o _ _ μ = _
    unfold b_R_mostStoreys_4
    rw [hR.1, if_pos (by omega), R_heightOf hR hV, z_some_bind, z32_id (by omega) (by omega)]
    rfl
  · show zE _ (b_R_mostStoreys_4 o _ _ μ) _
    unfold b_R_mostStoreys_4
    rw [hR.1, if_neg (by omega)]
    exact zE_ret
/-- how many houses are so: of the towers ahead of n, and of tower n those ahead of m -/
def ctT (T : zT) (p : Int → Int → Bool) (n m : Nat) : Int := zsum n (fun t => zsum (hT T t).toNat (fun s => if p t s then 1 else 0)) + zsum m (fun s => if p n s then 1 else 0)
theorem zsum01 (n : Nat) (p : Nat → Bool) : 0 ≤ zsum n (fun s => if p s then 1 else 0) ∧ zsum n (fun s => if p s then 1 else 0) ≤ 1 * n := ⟨zsum_nn (fun j _ => by split <;> omega), zsum_le (fun j _ => by split <;> omega)⟩
theorem ctT_in {T : zT} (hV : VT T) (p : Int → Int → Bool) (n m : Nat) : 0 ≤ ctT T p n m ∧ ctT T p n m ≤ 6 * n + 1 * m := by
  have h1 := zsum01 m (fun s => p n s)
  have h2 : 0 ≤ zsum n (fun t => zsum (hT T t).toNat (fun s => if p t s then 1 else 0)) := zsum_nn (fun t _ => (zsum01 _ (fun s => p t s)).1)
  have h3 : zsum n (fun t => zsum (hT T t).toNat (fun s => if p t s then 1 else 0)) ≤ 6 * n := zsum_le (fun t _ => by
    have h4 := (zsum01 (hT T t).toNat (fun s => p t s)).2
    have h5 := hT_le hV t
    have h6 := hT_nn T t
    omega)
  unfold ctT
  omega
theorem ctT_next (T : zT) (p : Int → Int → Bool) (n : Nat) : ctT T p (n + 1) 0 = ctT T p n (hT T n).toNat := by
  unfold ctT
  rw [zsum_s, zsum_0]
  omega
def allT (T : zT) (p : Int → Int → Bool) : Int := ctT T p (nT T).toNat 0
end RR5
/-! the model's rock is read -/
section MM
variable {μ : zM} {T : zT} {t s k h : Int}
theorem M_in {a b c : Int} : f_M_in a b c = if b ≤ a ∧ a ≤ c then 1 else 0 := by
  unfold f_M_in
  simp only [zlcmp_lt, zlcmp_le]
  repeat' split
  all_goals first | rfl | (exfalso; omega)
theorem M_isTower (hW : IsV (μ 43) T) (hV : VT T) : f_M_isTower t μ = if 0 ≤ t ∧ t < nT T then 1 else 0 := by
  have h4 := nT_le hV
  have h5 := nT_nn T
  unfold f_M_isTower
  rw [M_in, hW.1, z32_id (by omega) (by omega)]
  repeat' split
  all_goals first | rfl | (exfalso; omega)
theorem M_isThere (hW : IsV (μ 43) T) (hV : VT T) : f_M_isThere t s μ = some (if 0 ≤ s ∧ s < hT T t then 1 else 0) := by
  have h4 := nT_le hV
  unfold f_M_isThere
  rw [hW.1]
  by_cases c1 : t < 0
  · rw [if_pos c1, hT_out (Or.inl c1), if_neg (by omega)]
  · rw [if_neg c1]
    by_cases c2 : t < nT T
    · rw [if_pos c2]
      by_cases c3 : s < 0
      · rw [if_pos c3, if_neg (by omega)]
      · rw [if_neg c3, z32_id (by omega) (by omega), if_pos (by omega), hW.2.1 t (by omega) c2]
        by_cases c4 : s < hT T t
        · rw [if_pos c4, if_pos ⟨by omega, c4⟩]
        · rw [if_neg c4, if_neg (by omega)]
    · rw [if_neg c2, hT_out (Or.inr (by omega)), if_neg (by omega)]
theorem M_kindAt (hW : IsV (μ 43) T) (hV : VT T) (h1 : 0 ≤ s) (h2 : s < hT T t) : f_M_kindAt t s μ = some (cT T t s) := by
  have h3 := hT_pos (show 0 < hT T t by omega)
  have h4 := nT_le hV
  have h5 := hT_le hV t
  unfold f_M_kindAt
  rw [z32_id (z := 6 * t) (by omega) (by omega), z32_id (z := 6 + 6 * t) (by omega) (by omega), z32_id (z := 6 + 6 * t + s) (by omega) (by omega), if_pos (by omega), (hW.2.2 t s (by omega) (by omega) (by omega) (by omega)).1]
theorem M_bearsAt (hW : IsV (μ 43) T) (hV : VT T) (h1 : 0 ≤ s) (h2 : s < hT T t) : f_M_bearsAt t s μ = some (bT T t s) := by
  have h3 := hT_pos (show 0 < hT T t by omega)
  have h4 := nT_le hV
  have h5 := hT_le hV t
  unfold f_M_bearsAt
  rw [z32_id (z := 6 * t) (by omega) (by omega), z32_id (z := 36 + 6 * t) (by omega) (by omega), z32_id (z := 36 + 6 * t + s) (by omega) (by omega), if_pos (by omega), (hW.2.2 t s (by omega) (by omega) (by omega) (by omega)).2]
theorem M_housesOf (hW : IsV (μ 43) T) (hV : VT T) : f_M_housesOf 0 μ = some (tot T) := by
  have h4 := nT_le hV
  have h5 := nT_nn T
  rw [← tot_num hV]
  unfold numT
  refine zE_go (zE_for (fun k => (zsum k (fun j => hT T j), (k : Int))) (nT T).toNat rfl (fun k hk => ?_) ?_)
  · have hz := zsum_hT hV k
    have hz1 := hT_le hV k
    have hz2 := hT_nn T k
    show b_M_housesOf_4 0 _ _ μ = _
    unfold b_M_housesOf_4
    rw [show z32 (0 + 0) = 0 from rfl, show z32 (0 + 1) = 1 from rfl, if_pos (by omega), show (0 : Int).toNat = 0 from rfl, hW.1, if_pos (by omega), z32_id (z := 1 + (k : Int)) (by omega) (by omega), if_pos (by omega), hW.2.1 k (by omega) (by omega), z32_id (by omega) (by omega), z32_id (by omega) (by omega), zsum_s]
    rfl
  · show zE _ (b_M_housesOf_4 0 _ _ μ) _
    unfold b_M_housesOf_4
    rw [show z32 (0 + 0) = 0 from rfl, if_pos (by omega), show (0 : Int).toNat = 0 from rfl, hW.1, if_neg (by omega), Int.zero_add]
    exact zE_ret
theorem M_houses (hW : IsV (μ 43) T) (hV : VT T) : f_M_houses μ = some (tot T) := by
  unfold f_M_houses
  rw [M_housesOf hW hV]
  rfl
theorem M_numberOf (hW : IsV (μ 43) T) (hV : VT T) (h1 : 0 ≤ s) (h2 : s < 10) (h3 : 0 ≤ t) (h4 : t ≤ nT T) : f_M_numberOf t s μ = some (numT T t s) := by
  have h5 := nT_le hV
  refine zE_go (zE_for (fun k => (s + zsum k (fun j => hT T j), (k : Int))) t.toNat ?_ (fun k hk => ?_) ?_)
  · unfold e_M_numberOf
    simp [zsum_0]
  · have hz := zsum_hT hV k
    have hz1 := hT_le hV k
    have hz2 := hT_nn T k
    show b_M_numberOf_5 t s _ _ μ = _
    unfold b_M_numberOf_5
    rw [if_pos (by omega), z32_id (z := 1 + (k : Int)) (by omega) (by omega), if_pos (by omega), hW.2.1 k (by omega) (by omega), z32_id (by omega) (by omega), z32_id (by omega) (by omega), zsum_s]
    simp [Int.add_assoc]
  · show zE _ (b_M_numberOf_5 t s _ _ μ) _
    unfold b_M_numberOf_5
    rw [if_neg (by omega)]
    exact zE_ret
theorem M_isGlass : f_M_isGlass k = if k = 1 ∨ k = 4 then 1 else 0 := by
  unfold f_M_isGlass
  repeat' split
  all_goals first | rfl | (exfalso; omega)
theorem M_isLeaning : f_M_isLeaning k = if k = 2 ∨ k = 5 then 1 else 0 := by
  unfold f_M_isLeaning
  repeat' split
  all_goals first | rfl | (exfalso; omega)
theorem M_weightIn (hW : IsV (μ 43) T) (hV : VT T) (h3 : 0 ≤ t) (h4 : t < nT T) : f_M_weightIn t k μ = some (winT T t k) := by
  have h5 := nT_le hV
  unfold f_M_weightIn j_M_weightIn_17 winT
  rw [hW.1, z32_id (by omega) (by omega), M_isGlass, M_isLeaning]
  repeat' split
  all_goals first | rfl | (exfalso; omega) | (exfalso; simp_all; omega)
theorem M_weighsOn (hW : IsV (μ 43) T) (hV : VT T) (h1 : 0 ≤ s) (h2 : s < hT T t) : f_M_weighsOn t s μ = some (weiT T t s) := by
  have h3 := hT_pos (show 0 < hT T t by omega)
  have h4 := nT_le hV
  have h5 := hT_le hV t
  have h6 := hT_le hV (t - 1)
  have h7 := hT_nn T (t - 1)
  have hA : ∀ n : Nat, 0 ≤ zsum n (fun j => winT T t (cT T t (s + 1 + j))) ∧ zsum n (fun j => winT T t (cT T t (s + 1 + j))) ≤ 4 * n := fun n => ⟨zsum_nn (fun j _ => (winT_in _ _ _).1), zsum_le (fun j _ => (winT_in _ _ _).2)⟩
  have hB : ∀ n : Nat, 0 ≤ zsum n (fun j => if cT T (t - 1) (s + j) = 2 ∨ cT T (t - 1) (s + j) = 5 then 1 else 0) ∧ zsum n (fun j => if cT T (t - 1) (s + j) = 2 ∨ cT T (t - 1) (s + j) = 5 then 1 else 0) ≤ 1 * n := fun n => ⟨zsum_nn (fun j _ => by split <;> omega), zsum_le (fun j _ => by split <;> omega)⟩
  refine zE_go (zE_for (fun k => .inl (zsum k (fun j => winT T t (cT T t (s + 1 + j))), s + 1 + k)) (hT T t - (s + 1)).toNat ?_ (fun k hk => ?_) ?_)
  · unfold e_M_weighsOn
    simp (disch := omega) only [z32_id, zsum_0, Int.add_zero, Int.natCast_zero]
  · have hz := hA k
    have hw := winT_in T t (cT T t (s + 1 + k))
    show b_M_weighsOn_7 t s _ _ μ = _
    unfold b_M_weighsOn_7
    simp (disch := omega) only [z32_id, hW.2.1, z_some_bind, if_pos, M_kindAt hW hV, M_weightIn hW hV, zsum_s]
    simp [Int.add_assoc]
  · show zE _ (b_M_weighsOn_7 t s _ _ μ) _
    unfold b_M_weighsOn_7
    simp (disch := omega) only [z32_id, hW.2.1, if_pos, if_neg]
    generalize hAe : zsum (hT T t - (s + 1)).toNat (fun j => winT T t (cT T t (s + 1 + j))) = a
    have ha := hA (hT T t - (s + 1)).toNat
    rw [hAe] at ha
    refine zE_for (fun k => .inr (a + zsum k (fun j => if cT T (t - 1) (s + j) = 2 ∨ cT T (t - 1) (s + j) = 5 then 1 else 0), s + k)) (hT T (t - 1) - s).toNat ?_ (fun k hk => ?_) ?_
    · simp [zsum_0]
    · have hz := hB k
      have hp := hT_pos (show 0 < hT T (t - 1) by omega)
      show b_M_weighsOn_44 t s _ _ μ = _
      unfold b_M_weighsOn_44
      rw [if_pos (by omega), z32_id (z := 1 + t) (by omega) (by omega), z32_id (z := 1 + t - 1) (by omega) (by omega), if_pos (by omega), show 1 + t - 1 = 1 + (t - 1) by omega, hW.2.1 (t - 1) (by omega) (by omega), if_pos (by omega), z32_id (z := t - 1) (by omega) (by omega), M_kindAt hW hV (by omega) (by omega), z_some_bind, M_isLeaning, zsum_s, z32_id (by omega) (by omega), z32_id (by omega) (by omega), z32_id (by omega) (by omega)]
      split <;> split <;> simp_all [Int.add_assoc]
    · show zE _ (b_M_weighsOn_44 t s _ _ μ) _
      unfold b_M_weighsOn_44
      unfold weiT
      rw [hAe]
      by_cases c : 0 < t
      · rw [if_pos c, z32_id (z := 1 + t) (by omega) (by omega), z32_id (z := 1 + t - 1) (by omega) (by omega), if_pos (by omega), show 1 + t - 1 = 1 + (t - 1) by omega, hW.2.1 (t - 1) (by omega) (by omega), if_neg (by omega)]
        exact zE_ret
      · rw [if_neg c]
        exact zE_ret
theorem M_eastIn : f_M_eastIn h = eT h := rfl
theorem M_upIn : f_M_upIn h = uT h := by
  unfold f_M_upIn uT
  repeat' split
  all_goals first | rfl | (exfalso; omega)
theorem zff_last {ρ : Type} (p : Nat → Bool) (g : Nat → ρ) (d : ρ) : ∀ m i, p (i + m) = false → zff p g d (m + 1) i = zff p g d m i
  | 0, i, h => by simp [zff]; intro h2; simp at h; rw [h] at h2; cases h2
  | m + 1, i, h => by
    show (if p i then g i else zff p g d (m + 1) (i + 1)) = (if p i then g i else zff p g d m (i + 1))
    by_cases hp : p i = true
    · rw [if_pos hp, if_pos hp]
    · rw [if_neg hp, if_neg hp]
      exact zff_last p g d m (i + 1) (by rw [← h]; congr 1; omega)
theorem M_shader (hW : IsV (μ 43) T) (hV : VT T) (h1 : 0 ≤ s) (h2 : s < 6) (h3 : 0 ≤ t) (h4 : t < 5) (h5 : 0 ≤ h) (h6 : h < 5) : f_M_shader t s h μ = some (shT T t s h) := by
  have h7 := nT_le hV
  have he := eT_in h
  have hlast : blkT T (t + (1 + (5 : Nat)) * eT h) (s + (1 + (5 : Nat)) * uT h) = false := by
    unfold blkT
    simp only [decide_eq_false_iff_not]
    intro q
    have hl := hT_le hV (t + (1 + (5 : Nat)) * eT h)
    have hp := hT_pos (show 0 < hT T (t + (1 + (5 : Nat)) * eT h) by omega)
    have hh : h = 0 ∨ h = 1 ∨ h = 2 ∨ h = 3 ∨ h = 4 := by omega
    rcases hh with rfl | rfl | rfl | rfl | rfl <;> simp [eT, uT] at q hp hl <;> omega
  unfold shT
  rw [← zff_last (fun k => blkT T (t + (1 + k) * eT h) (s + (1 + k) * uT h)) (fun k => numT T (t + (1 + k) * eT h) (s + (1 + k) * uT h)) (-9) 5 0 (by simpa using hlast)]
  refine zE_go (zE_find (fun k => (1 + k : Int)) (fun k => blkT T (t + (1 + k) * eT h) (s + (1 + k) * uT h)) (fun k => numT T (t + (1 + k) * eT h) (s + (1 + k) * uT h)) (-9) 6 rfl (fun k hk => ?_) ?_)
  · have hm1 := z_mul_e (1 + k) (by omega) he.1 he.2.1
    have hm2 := z_mul_e (1 + k) (by omega) (e := uT h) (by omega) he.2.2.2
    have e1 : ((1 + k : Nat) : Int) = 1 + k := by omega
    rw [e1] at hm1 hm2
    show b_M_shader_3 t s h _ μ = _
    unfold b_M_shader_3
    rw [M_eastIn, M_upIn, if_pos (by omega)]
    generalize hx : (1 + (k : Int)) * eT h = a at hm1 ⊢
    generalize hy : (1 + (k : Int)) * uT h = b at hm2 ⊢
    rw [z32_id (z := a) (by omega) (by omega), z32_id (z := b) (by omega) (by omega), z32_id (z := t + a) (by omega) (by omega), z32_id (z := s + b) (by omega) (by omega), z32_id (z := 1 + (k : Int) + 1) (by omega) (by omega), M_isThere hW hV, z_some_bind]
    by_cases c : 0 ≤ s + b ∧ s + b < hT T (t + a)
    · have hp := hT_pos (show 0 < hT T (t + a) by omega)
      have hl := hT_le hV (t + a)
      rw [if_pos c, if_neg (by omega), M_kindAt hW hV c.1 c.2, z_some_bind, M_isGlass, M_numberOf hW hV c.1 (by omega) hp.1 (by omega), z_some_bind]
      by_cases g : cT T (t + a) (s + b) = 1 ∨ cT T (t + a) (s + b) = 4
      · have hb : blkT T (t + a) (s + b) = false := by unfold blkT; simp [g]
        rw [if_pos g, if_neg (by omega), hb]
        simp [Int.add_assoc]
      · have hb : blkT T (t + a) (s + b) = true := by unfold blkT; simp only [decide_eq_true_eq]; exact ⟨c, g⟩
        rw [if_neg g, if_pos rfl, hb]
        rfl
    · have hb : blkT T (t + a) (s + b) = false := by unfold blkT; simp only [decide_eq_false_iff_not]; exact fun q => c q.1
      rw [if_neg c, if_pos rfl, hb]
      simp [Int.add_assoc]
  · show b_M_shader_3 t s h _ μ = _
    unfold b_M_shader_3
    rw [if_neg (by omega)]
theorem M_hoursOf (hW : IsV (μ 43) T) (hV : VT T) (h1 : 0 ≤ s) (h2 : s < 6) (h3 : 0 ≤ t) (h4 : t < 5) : f_M_hoursOf t s μ = some (hoT T t s) := by
  refine zE_go (zE_for (fun k => (zset2 k (fun h => decide (shT T t s h = -9)), (k : Int))) 5 rfl (fun k hk => ?_) ?_)
  · have hz := zset2_b (fun h => decide (shT T t s h = -9)) k
    have hp := z_pow k (by omega)
    show b_M_hoursOf_5 t s _ _ μ = _
    unfold b_M_hoursOf_5
    rw [if_pos (by omega), M_shader hW hV h1 h2 h3 h4 (by omega) (by omega), z_some_bind, zset2_s, z32_id (by omega) (by omega)]
    by_cases c : shT T t s k = -9
    · rw [if_pos c, zor_add (by omega) hz.1 hz.2]
      simp [c]
    · rw [if_neg c, zor_0 hz.1 (by omega)]
      simp [c]
  · show zE _ (b_M_hoursOf_5 t s _ _ μ) _
    unfold b_M_hoursOf_5
    rw [if_neg (by omega)]
    exact zE_ret
theorem M_lampsOver (hW : IsV (μ 43) T) (hV : VT T) (h1 : 0 ≤ s) (h2 : s < hT T t) : f_M_lampsOver t s μ = some (lampsT T t s) := by
  have h3 := hT_pos (show 0 < hT T t by omega)
  have h4 := nT_le hV
  have h5 := hT_le hV t
  refine zE_go (zE_for (fun k => (zsum k (fun j => if cT T t (s + 1 + j) = 5 then 1 else 0), s + 1 + k)) (hT T t - (s + 1)).toNat ?_ (fun k hk => ?_) ?_)
  · unfold e_M_lampsOver
    simp (disch := omega) only [z32_id, zsum_0, Int.add_zero, Int.natCast_zero]
  · have hz : zsum k (fun j => if cT T t (s + 1 + j) = 5 then 1 else 0) ≤ 1 * k := zsum_le (fun j _ => by split <;> omega)
    have hz0 : 0 ≤ zsum k (fun j => if cT T t (s + 1 + j) = 5 then 1 else 0) := zsum_nn (fun j _ => by split <;> omega)
    show b_M_lampsOver_7 t s _ _ μ = _
    unfold b_M_lampsOver_7
    simp (disch := omega) only [z32_id, hW.2.1, z_some_bind, if_pos, M_kindAt hW hV, zsum_s]
    split <;> simp [Int.add_assoc]
  · show zE _ (b_M_lampsOver_7 t s _ _ μ) _
    unfold b_M_lampsOver_7
    simp (disch := omega) only [z32_id, hW.2.1, if_pos, if_neg]
    exact zE_ret
end MM
