section ZNEST
variable {σ ρ : Type} {step : σ → Option (σ ⊕ ρ)} {x : Option (σ ⊕ ρ)} {r : ρ}
/-- a loop whose body is more than a step -/
theorem zE_nest (f : Nat → σ) (n : Nat) (h0 : x = some (.inl (f 0))) (hs : ∀ k, k < n → zE step (some (.inl (f (k + 1)))) r → zE step (step (f k)) r) (hx : zE step (step (f n)) r) : zE step x r := by
  rw [h0]
  have key : ∀ d k, k + d = n → zE step (some (.inl (f k))) r := by
    intro d
    induction d with
    | zero => intro k hk; have : k = n := by omega
              subst this; exact zE_step hx
    | succ d ih => intro k hk; exact zE_step (hs k (by omega) (ih (k + 1) (by omega)))
  exact key n 0 (by omega)
/-- towers, and in these storeys -/
theorem zE_two (F : Nat → σ) (K : Nat → Nat → σ) (n : Nat) (h : Nat → Nat) (h0 : x = some (.inl (F 0))) (ho : ∀ t, t < n → step (F t) = some (.inl (K t 0))) (hi : ∀ t s, t < n → s < h t → step (K t s) = some (.inl (K t (s + 1)))) (he : ∀ t, t < n → step (K t (h t)) = some (.inl (F (t + 1)))) (hx : zE step (step (F n)) r) : zE step x r :=
  zE_nest F n h0 (fun t ht hk => by
    rw [ho t ht]
    exact zE_for (K t) (h t) rfl (fun s hs => hi t s ht hs) (by rw [he t ht]; exact hk)) hx
/-- towers and storeys, until one is found -/
theorem zE_two_ex (F : Nat → σ) (K : Nat → Nat → σ) (n : Nat) (h : Nat → Nat) (p : Nat → Nat → Bool) (a b : ρ) (h0 : x = some (.inl (F 0))) (ho : ∀ t, t < n → step (F t) = some (.inl (K t 0))) (hi : ∀ t s, t < n → s < h t → step (K t s) = if p t s then some (.inr b) else some (.inl (K t (s + 1)))) (he : ∀ t, t < n → step (K t (h t)) = some (.inl (F (t + 1)))) (hx : step (F n) = some (.inr a)) : zE step x (if (List.range n).any (fun t => (List.range (h t)).any (p t)) then b else a) := by
  by_cases hp : (List.range n).any (fun t => (List.range (h t)).any (p t)) = true
  · rw [if_pos hp]
    rw [h0]
    have inner : ∀ t, t < n → (∃ s, s < h t ∧ p t s = true) → zE step (some (.inl (K t 0))) b := fun t ht hex => by
      have key : ∀ d s, s + d = h t → (∃ j, s ≤ j ∧ j < h t ∧ p t j = true) → zE step (some (.inl (K t s))) b := by
        intro d
        induction d with
        | zero => intro s hs hj; obtain ⟨j, h1, h2, -⟩ := hj; omega
        | succ d ih =>
          intro s hs hj
          refine zE_step ?_
          rw [hi t s ht (by omega)]
          by_cases hps : p t s = true
          · rw [if_pos hps]; rfl
          · rw [if_neg hps]
            refine ih (s + 1) (by omega) ?_
            obtain ⟨j, h1, h2, h3⟩ := hj
            refine ⟨j, ?_, h2, h3⟩
            rcases Nat.lt_or_ge s j with q | q
            · omega
            · have : j = s := by omega
              subst this
              exact absurd h3 hps
      obtain ⟨s, h1, h2⟩ := hex
      exact key (h t) 0 (by omega) ⟨s, by omega, h1, h2⟩
    have outer : ∀ d t, t + d = n → (∃ j, t ≤ j ∧ j < n ∧ ∃ s, s < h j ∧ p j s = true) → zE step (some (.inl (F t))) b := by
      intro d
      induction d with
      | zero => intro t ht hj; obtain ⟨j, h1, h2, -⟩ := hj; omega
      | succ d ih =>
        intro t ht hj
        refine zE_step ?_
        rw [ho t (by omega)]
        by_cases hex : ∃ s, s < h t ∧ p t s = true
        · exact inner t (by omega) hex
        · refine zE_for (K t) (h t) rfl (fun s hs => ?_) ?_
          · rw [hi t s (by omega) hs, if_neg (fun q => hex ⟨s, hs, q⟩)]
          · rw [he t (by omega)]
            refine ih (t + 1) (by omega) ?_
            obtain ⟨j, h1, h2, h3⟩ := hj
            refine ⟨j, ?_, h2, h3⟩
            rcases Nat.lt_or_ge t j with q | q
            · omega
            · have : j = t := by omega
              subst this
              exact absurd h3 hex
    simp only [List.any_eq_true, List.mem_range] at hp
    obtain ⟨t, h1, s, h2, h3⟩ := hp
    exact outer n 0 (by omega) ⟨t, by omega, h1, s, h2, h3⟩
  · rw [if_neg hp]
    refine zE_two F K n h h0 ho (fun t s ht hs => ?_) he (by rw [hx]; rfl)
    rw [hi t s ht hs, if_neg (fun q => hp ?_)]
    simp only [List.any_eq_true, List.mem_range]
    exact ⟨t, ht, s, hs, q⟩
end ZNEST
/-! what is asked of a rock -/
def numT (T : zT) (t s : Int) : Int := s + zsum t.toNat (fun j => hT T j)
def winT (T : zT) (t k : Int) : Int := if k = 1 ∨ k = 4 then 1 else if k = 2 ∨ k = 5 then (if t + 1 = nT T then 2 else 1) else if k = 3 then 4 else 2
def weiT (T : zT) (t s : Int) : Int := zsum (hT T t - (s + 1)).toNat (fun j => winT T t (cT T t (s + 1 + j))) + zsum (hT T (t - 1) - s).toNat (fun j => if cT T (t - 1) (s + j) = 2 ∨ cT T (t - 1) (s + j) = 5 then 1 else 0)
def swT (T : zT) (t s : Int) : Bool := decide (bT T t s < weiT T t s)
def anyT (T : zT) (p : Int → Int → Bool) : Bool := (List.range (nT T).toNat).any fun (t : Nat) => (List.range (hT T t).toNat).any fun (s : Nat) => p t s
def eT (h : Int) : Int := if h < 2 then -1 else if 2 < h then 1 else 0
def uT (h : Int) : Int := if 0 < h ∧ h < 4 then 1 else 0
def blkT (T : zT) (x y : Int) : Bool := decide ((0 ≤ y ∧ y < hT T x) ∧ ¬ (cT T x y = 1 ∨ cT T x y = 4))
def shT (T : zT) (t s h : Int) : Int := zff (fun k => blkT T (t + (1 + k) * eT h) (s + (1 + k) * uT h)) (fun k => numT T (t + (1 + k) * eT h) (s + (1 + k) * uT h)) (-9) 5 0
theorem winT_in (T : zT) (t k : Int) : 0 ≤ winT T t k ∧ winT T t k ≤ 4 := by
  unfold winT
  repeat' split
  all_goals omega
theorem zsum_hT {T : zT} (hV : VT T) (n : Nat) : 0 ≤ zsum n (fun j => hT T j) ∧ zsum n (fun j => hT T j) ≤ 6 * n := ⟨zsum_nn (fun j _ => hT_nn T j), zsum_le (fun j _ => hT_le hV j)⟩
theorem X_isOf_1 (a : Int) : f_X_isOf a 1 = some (if a = 1 ∨ a = 4 then 1 else 0) := by
  unfold f_X_isOf j_X_isOf_15
  repeat' split
  all_goals first | rfl | (exfalso; omega)
theorem X_isOf_2 (a : Int) : f_X_isOf a 2 = some (if a = 2 ∨ a = 5 then 1 else 0) := by
  unfold f_X_isOf j_X_isOf_15
  repeat' split
  all_goals first | rfl | (exfalso; omega)
section RR3
variable {μ : zM} {o : Nat} {T : zT} {t s k h : Int}
theorem R_isTower (hR : IsR μ o T) : f_R_isTower o t μ = if 0 ≤ t ∧ t < nT T then 1 else 0 := by
  unfold f_R_isTower
  rw [hR.1]
  repeat' split
  all_goals first | rfl | (exfalso; omega)
theorem R_numberOf (hR : IsR μ o T) (hV : VT T) (h1 : 0 ≤ s) (h2 : s < 10) (h3 : 0 ≤ t) (h4 : t < 10) : f_R_numberOf o t s μ = some (numT T t s) := by
  refine zE_go (zE_for (fun k => (s + zsum k (fun j => hT T j), (k : Int))) t.toNat ?_ (fun k hk => ?_) ?_)
  · unfold e_R_numberOf
    simp [zsum_0]
  · have hz := zsum_hT hV k
    have hz1 := hT_le hV k
    have hz2 := hT_nn T k
    show b_R_numberOf_5 o t s _ _ μ = _
    unfold b_R_numberOf_5
    simp (disch := omega) only [R_heightOf hR hV, z_some_bind, if_pos, z32_id, zsum_s]
    simp [Int.add_assoc]
  · show zE _ (b_R_numberOf_5 o t s _ _ μ) _
    unfold b_R_numberOf_5
    simp (disch := omega) only [if_neg]
    exact zE_ret
theorem R_weightIn (hR : IsR μ o T) (h1 : 0 ≤ k) (h2 : k < 6) (h3 : 0 ≤ t) (h4 : t < nT T) (h5 : nT T ≤ 5) : f_R_weightInOwnTower o t k μ = some (winT T t k) := by
  unfold f_R_weightInOwnTower j_R_weightInOwnTower_36 j_R_weightInOwnTower_37 winT
  rw [X_isOf_2, R_isTower hR]
  have hk : k = 0 ∨ k = 1 ∨ k = 2 ∨ k = 3 ∨ k = 4 ∨ k = 5 := by omega
  have e : z32 (t + 1) = t + 1 := z32_id (by omega) (by omega)
  rw [e]
  by_cases c : t + 1 = nT T
  · rcases hk with rfl | rfl | rfl | rfl | rfl | rfl <;> simp [z_some_bind, zSV, c, z32]
  · have c2 : 0 ≤ t + 1 ∧ t + 1 < nT T := by omega
    rcases hk with rfl | rfl | rfl | rfl | rfl | rfl <;> simp [z_some_bind, zSV, c, c2, z32]
theorem R_weightOn (hR : IsR μ o T) (hV : VT T) (h1 : 0 ≤ s) (h2 : s < hT T t) : f_R_weightOn o t s μ = some (weiT T t s) := by
  have h3 := hT_pos (show 0 < hT T t by omega)
  have h4 := nT_le hV
  have h5 := hT_le hV t
  have h6 := hT_le hV (t - 1)
  have h7 := hT_nn T (t - 1)
  have hA : ∀ n : Nat, 0 ≤ zsum n (fun j => winT T t (cT T t (s + 1 + j))) ∧ zsum n (fun j => winT T t (cT T t (s + 1 + j))) ≤ 4 * n := fun n => ⟨zsum_nn (fun j _ => (winT_in _ _ _).1), zsum_le (fun j _ => (winT_in _ _ _).2)⟩
  have hB : ∀ n : Nat, 0 ≤ zsum n (fun j => if cT T (t - 1) (s + j) = 2 ∨ cT T (t - 1) (s + j) = 5 then 1 else 0) ∧ zsum n (fun j => if cT T (t - 1) (s + j) = 2 ∨ cT T (t - 1) (s + j) = 5 then 1 else 0) ≤ 1 * n := fun n => ⟨zsum_nn (fun j _ => by split <;> omega), zsum_le (fun j _ => by split <;> omega)⟩
  refine zE_go (zE_for (fun k => .inl (zsum k (fun j => winT T t (cT T t (s + 1 + j))), s + 1 + k)) (hT T t - (s + 1)).toNat ?_ (fun k hk => ?_) ?_)
  · unfold e_R_weightOn
    simp (disch := omega) only [z32_id, zsum_0, Int.add_zero, Int.natCast_zero]
  · have hz := hA k
    have hc := cT_in hV h3.1 (show 0 ≤ s + 1 + (k : Int) by omega) (show s + 1 + (k : Int) < hT T t by omega)
    have hw := winT_in T t (cT T t (s + 1 + k))
    show b_R_weightOn_7 o t s _ _ μ = _
    unfold b_R_weightOn_7
    simp (disch := omega) only [R_heightOf hR hV, z_some_bind, if_pos, R_kindAt hR hV, R_weightIn hR, z32_id, zsum_s]
    simp [Int.add_assoc]
  · show zE _ (b_R_weightOn_7 o t s _ _ μ) _
    unfold b_R_weightOn_7
    simp (disch := omega) only [R_heightOf hR hV, z_some_bind, if_neg]
    generalize hAe : zsum (hT T t - (s + 1)).toNat (fun j => winT T t (cT T t (s + 1 + j))) = a
    have ha := hA (hT T t - (s + 1)).toNat
    rw [hAe] at ha
    refine zE_for (fun k => .inr (a + zsum k (fun j => if cT T (t - 1) (s + j) = 2 ∨ cT T (t - 1) (s + j) = 5 then 1 else 0), s + k)) (hT T (t - 1) - s).toNat ?_ (fun k hk => ?_) ?_
    · simp [zsum_0]
    · have hz := hB k
      show b_R_weightOn_41 o t s _ _ μ = _
      unfold b_R_weightOn_41
      simp (disch := omega) only [R_heightOf hR hV, z_some_bind, if_pos, R_kindAt hR hV, X_isOf_2, z32_id, zsum_s]
      split <;> split <;> simp_all [Int.add_assoc]
    · show zE _ (b_R_weightOn_41 o t s _ _ μ) _
      unfold b_R_weightOn_41
      simp (disch := omega) only [R_heightOf hR hV, z_some_bind, if_neg, z32_id]
      unfold weiT
      rw [hAe]
      exact zE_ret
theorem R_isSwaying (hR : IsR μ o T) (hV : VT T) (h1 : 0 ≤ s) (h2 : s < hT T t) : f_R_isSwaying o t s μ = some (if swT T t s then 1 else 0) := by
  unfold f_R_isSwaying swT
  simp (disch := omega) only [R_hasI hR hV, R_weightOn hR hV, R_borneAt hR hV, z_some_bind, if_neg]
  split <;> simp_all
theorem R_isSteady (hR : IsR μ o T) (hV : VT T) : f_R_isSteady o μ = some (if anyT T (swT T) then 0 else 1) := by
  have h4 := nT_le hV
  have h5 := nT_nn T
  refine zE_go (zE_two_ex (fun t => .inl (t : Int)) (fun t s => .inr ((t : Int), (s : Int))) (nT T).toNat (fun t => (hT T t).toNat) (fun t s => swT T t s) 1 0 ?_ (fun t ht => ?_) (fun t s ht hs => ?_) (fun t ht => ?_) ?_)
  · rfl
  · show b_R_isSteady_2 o _ μ = _
    unfold b_R_isSteady_2
    rw [hR.1]
    simp (disch := omega) only [if_pos]
    rfl
  · have h6 := hT_le hV t
    show b_R_isSteady_12 o _ _ μ = _
    unfold b_R_isSteady_12
    simp (disch := omega) only [R_heightOf hR hV, z_some_bind, if_pos, R_isSwaying hR hV, z32_id]
    by_cases c : swT T t s = true
    · simp [c]
    · simp [c]
  · have h6 := hT_le hV t
    have h7 := hT_nn T t
    show b_R_isSteady_12 o _ _ μ = _
    unfold b_R_isSteady_12
    simp (disch := omega) only [R_heightOf hR hV, z_some_bind, if_neg, z32_id]
    simp
  · show b_R_isSteady_2 o _ μ = _
    unfold b_R_isSteady_2
    rw [hR.1]
    simp (disch := omega) only [if_neg]
end RR3
