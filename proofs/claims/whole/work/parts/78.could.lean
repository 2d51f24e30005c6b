/-! how many hours a glass house could take -/
def csH (T : zT) (t s x y : Int) (n : Nat) : Int := zsum n (fun h => if shT T x y h = -9 then (if onW x y t s h 6 = true then 0 else 1) else 0)
theorem csH_1 (T : zT) (t s x y : Int) (h : Nat) : 0 ≤ (if shT T x y h = -9 then (if onW x y t s h 6 = true then (0 : Int) else 1) else 0) ∧ (if shT T x y h = -9 then (if onW x y t s h 6 = true then (0 : Int) else 1) else 0) ≤ 1 := by
  by_cases c : shT T x y h = -9
  · rw [if_pos c]
    by_cases d : onW x y t s h 6 = true
    · rw [if_pos d]; omega
    · rw [if_neg d]; omega
  · rw [if_neg c]; omega
theorem csH_in (T : zT) (t s x y : Int) (n : Nat) : 0 ≤ csH T t s x y n ∧ csH T t s x y n ≤ 1 * n := ⟨zsum_nn (fun j _ => (csH_1 T t s x y j).1), zsum_le (fun j _ => (csH_1 T t s x y j).2)⟩
theorem M_couldShade {μ : zM} {T : zT} {t s : Int} (hW : IsV (μ 43) T) (hV : VT T) : f_M_couldShade t s μ = some (hsT T (fun x y => csH T t s x y 5) (nT T).toNat 0) := by
  have hn := nT_le hV
  have hn0 := nT_nn T
  have hg : ∀ x y, 0 ≤ csH T t s x y 5 ∧ csH T t s x y 5 ≤ 5 := fun x y => by have := csH_in T t s x y 5; omega
  refine zE_go (zE_nest (fun x => .inl (hsT T (fun x y => csH T t s x y 5) x 0, (x : Int))) (nT T).toNat rfl (fun x hx hgo => ?_) ?_)
  · have h3 := hT_le hV x
    have h4 := hT_nn T x
    show zE _ (b_M_couldShade_5 t s (hsT T (fun x y => csH T t s x y 5) x 0) (x : Int) μ) _
    unfold b_M_couldShade_5
    rw [hW.1, if_pos (by omega)]
    refine zE_nest (fun y => .inr (.inl (hsT T (fun x y => csH T t s x y 5) x y, (x : Int), (y : Int)))) (hT T x).toNat rfl (fun y hy hgo2 => ?_) ?_
    · have hc := hsT_in hV hg x y
      show zE _ (b_M_couldShade_19 t s (hsT T (fun x y => csH T t s x y 5) x y) (x : Int) (y : Int) μ) _
      unfold b_M_couldShade_19
      rw [z32_id (z := 1 + (x : Int)) (by omega) (by omega), if_pos (by omega), hW.2.1 x (by omega) (by omega), if_pos (by omega)]
      refine zE_for (fun h => .inr (.inr (hsT T (fun x y => csH T t s x y 5) x y + csH T t s x y h, (x : Int), (y : Int), (h : Int)))) 5 (by show _ = some (Sum.inl (Sum.inr (Sum.inr (hsT T (fun x y => csH T t s x y 5) x y + 0, (x : Int), (y : Int), (0 : Int))))); rw [Int.add_zero]) (fun h hh => ?_) ?_
      · have hd := csH_in T t s x y h
        have e : csH T t s x y (h + 1) = csH T t s x y h + (if shT T x y h = -9 then (if onW x y t s h 6 = true then 0 else 1) else 0) := rfl
        show b_M_couldShade_36 t s (hsT T (fun x y => csH T t s x y 5) x y + csH T t s x y h) (x : Int) (y : Int) (h : Int) μ = _
        unfold b_M_couldShade_36
        rw [if_pos (by omega), M_shader hW hV (by omega) (by omega) (by omega) (by omega) (by omega) (by omega), z_some_bind, M_isOnWay (by omega) (by omega), z_some_bind, z32_id (z := (h : Int) + 1) (by omega) (by omega), z32_id (z := hsT T (fun x y => csH T t s x y 5) x y + csH T t s x y h + 1) (by omega) (by omega), Int.add_zero, z32_id (z := hsT T (fun x y => csH T t s x y 5) x y + csH T t s x y h) (by omega) (by omega), e]
        by_cases c : shT T x y h = -9
        · rw [if_pos c, if_pos c]
          by_cases d : onW x y t s h 6 = true
          · rw [z_ifn1 d, if_pos d, Int.add_zero]; rfl
          · rw [z_ifn0 d, if_neg d, Int.add_assoc]; rfl
        · rw [if_neg c, if_neg c, Int.add_zero]; rfl
      · show zE _ (b_M_couldShade_36 t s (hsT T (fun x y => csH T t s x y 5) x y + csH T t s x y 5) (x : Int) (y : Int) ((5 : Nat) : Int) μ) _
        unfold b_M_couldShade_36
        rw [if_neg (by omega), z32_id (by omega) (by omega)]
        rw [hsT_s] at hgo2
        exact hgo2
    · show zE _ (b_M_couldShade_19 t s (hsT T (fun x y => csH T t s x y 5) x (hT T x).toNat) (x : Int) ((hT T x).toNat : Int) μ) _
      unfold b_M_couldShade_19
      rw [z32_id (z := 1 + (x : Int)) (by omega) (by omega), if_pos (by omega), hW.2.1 x (by omega) (by omega), if_neg (by omega), z32_id (by omega) (by omega)]
      rw [hsT_next] at hgo
      exact hgo
  · show zE _ (b_M_couldShade_5 t s (hsT T (fun x y => csH T t s x y 5) (nT T).toNat 0) ((nT T).toNat : Int) μ) _
    unfold b_M_couldShade_5
    rw [hW.1, if_neg (by omega)]
    exact zE_ret
