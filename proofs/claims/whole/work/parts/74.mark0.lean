/-! mark: its kinds 2 to 5 -/
section MK
variable {μ : zM} {T : zT} {t s k v : Int}
theorem M_isOf_e {a b : Int} (h : 0 < b) : f_M_isOf a b = f_X_isOf a b := by
  unfold f_M_isOf f_X_isOf j_M_isOf_15 j_X_isOf_15
  repeat' split
  all_goals first | rfl | (exfalso; omega)
theorem X_isOf_01 {a b : Int} : f_X_isOf a b = some 0 ∨ f_X_isOf a b = some 1 := by
  unfold f_X_isOf j_X_isOf_15
  repeat' split
  all_goals first | exact Or.inl rfl | exact Or.inr rfl
/-- how many below would be lighter -/
def lbT (T : zT) (t : Int) (n : Nat) : Int := zsum n (fun s => if 5 < zpop (hoT T t s) + lampsT T t s then 0 else 1)
theorem lbT_in (T : zT) (t : Int) (n : Nat) : 0 ≤ lbT T t n ∧ lbT T t n ≤ 1 * n := ⟨zsum_nn (fun j _ => by split <;> omega), zsum_le (fun j _ => by split <;> omega)⟩
theorem X_lightenedBelow (hR : IsR μ 8 T) (hV : VT T) (h1 : 0 ≤ s) (h2 : s < hT T t) : f_X_lightenedBelow t s μ = some (lbT T t s.toNat) := by
  have h3 := hT_pos (show 0 < hT T t by omega)
  have h4 := nT_le hV
  have h5 := hT_le hV t
  refine zE_go (zE_for (fun k => (lbT T t k, (k : Int))) s.toNat rfl (fun k hk => ?_) ?_)
  · have hb := hoT_in T t k
    have hp := zpop_in (hoT T t k)
    have hl := lampsT_in hV t k (by omega)
    have hc := lbT_in T t k
    have e : lbT T t (k + 1) = lbT T t k + if 5 < zpop (hoT T t k) + lampsT T t k then 0 else 1 := rfl
    show b_X_lightenedBelow_5 t s (lbT T t k) (k : Int) μ = _
    unfold b_X_lightenedBelow_5
    rw [if_pos (by omega), R_hoursSeen hR hV (by omega) (by omega) h3.1 (by omega), z_some_bind, R_lampedAbove hR hV (by omega) (by omega), z_some_bind, J_bitCount hb.1 (by omega), z32_id (z := zpop (hoT T t k) + lampsT T t k) (by omega) (by omega), z32_id (z := (k : Int) + 1) (by omega) (by omega), z32_id (z := lbT T t k + 1) (by omega) (by omega), e]
    by_cases c : 5 < zpop (hoT T t k) + lampsT T t k
    · rw [if_pos c, if_pos c, Int.add_zero]; rfl
    · rw [if_neg c, if_neg c]; rfl
  · show zE _ (b_X_lightenedBelow_5 t s (lbT T t s.toNat) (s.toNat : Int) μ) _
    unfold b_X_lightenedBelow_5
    rw [if_neg (by omega)]
    exact zE_ret
theorem M_lightened (hW : IsV (μ 43) T) (hV : VT T) (h1 : 0 ≤ s) (h2 : s < hT T t) : f_M_lightened t s μ = some (lbT T t s.toNat) := by
  have h3 := hT_pos (show 0 < hT T t by omega)
  have h4 := nT_le hV
  have h5 := hT_le hV t
  refine zE_go (zE_for (fun k => (lbT T t k, (k : Int))) s.toNat rfl (fun k hk => ?_) ?_)
  · have hb := hoT_in T t k
    have hp := zpop_in (hoT T t k)
    have hl := lampsT_in hV t k (by omega)
    have hc := lbT_in T t k
    have e : lbT T t (k + 1) = lbT T t k + if 5 < zpop (hoT T t k) + lampsT T t k then 0 else 1 := rfl
    show b_M_lightened_5 t s (lbT T t k) (k : Int) μ = _
    unfold b_M_lightened_5
    rw [if_pos (by omega), M_hoursOf hW hV (by omega) (by omega) h3.1 (by omega), z_some_bind, M_ones hb.1 (by omega), z_some_bind, M_lampsOver hW hV (by omega) (by omega), z_some_bind, z32_id (z := zpop (hoT T t k) + lampsT T t k) (by omega) (by omega), z32_id (z := (k : Int) + 1) (by omega) (by omega), z32_id (z := lbT T t k + 1) (by omega) (by omega), Int.add_zero, z32_id (z := lbT T t k) (by omega) (by omega), e]
    by_cases c : 5 < zpop (hoT T t k) + lampsT T t k
    · rw [if_pos c, if_pos c, Int.add_zero]; rfl
    · rw [if_neg c, if_neg c]; rfl
  · show zE _ (b_M_lightened_5 t s (lbT T t s.toNat) (s.toNat : Int) μ) _
    unfold b_M_lightened_5
    rw [if_neg (by omega)]
    exact zE_ret
end MK
