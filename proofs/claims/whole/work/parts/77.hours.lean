/-! hours seen in all: by towers, by storeys -/
def hsT (T : zT) (g : Int → Int → Int) (n m : Nat) : Int := zsum n (fun t => zsum (hT T t).toNat (fun s => g t s)) + zsum m (fun s => g n s)
theorem hsT_s (T : zT) (g : Int → Int → Int) (n m : Nat) : hsT T g n (m + 1) = hsT T g n m + g n m := by
  unfold hsT; rw [zsum_s]; omega
theorem hsT_next (T : zT) (g : Int → Int → Int) (n : Nat) : hsT T g (n + 1) 0 = hsT T g n (hT T n).toNat := by
  unfold hsT; rw [zsum_s, zsum_0]; omega
theorem hsT_in {T : zT} (hV : VT T) {g : Int → Int → Int} (hg : ∀ t s, 0 ≤ g t s ∧ g t s ≤ 5) (n m : Nat) : 0 ≤ hsT T g n m ∧ hsT T g n m ≤ 30 * n + 5 * m := by
  have h1 : 0 ≤ zsum m (fun s => g n s) ∧ zsum m (fun s => g n s) ≤ 5 * m := ⟨zsum_nn (fun j _ => (hg _ _).1), zsum_le (fun j _ => (hg _ _).2)⟩
  have h2 : 0 ≤ zsum n (fun t => zsum (hT T t).toNat (fun s => g t s)) := zsum_nn (fun t _ => zsum_nn (fun j _ => (hg _ _).1))
  have h3 : zsum n (fun t => zsum (hT T t).toNat (fun s => g t s)) ≤ 30 * n := zsum_le (fun t _ => by
    have a : zsum (hT T t).toNat (fun s => g t s) ≤ 5 * ((hT T t).toNat : Nat) := zsum_le (fun j _ => (hg _ _).2)
    have b := hT_le hV t
    omega)
  unfold hsT; omega
theorem X_hoursSeenInAll {μ : zM} {T : zT} {o : Nat} (hR : IsR μ o T) (hV : VT T) : f_X_hoursSeenInAll o μ = some (hsT T (fun t s => zpop (hoT T t s)) (nT T).toNat 0) := by
  have hn := nT_le hV
  have hn0 := nT_nn T
  have hg : ∀ t s, 0 ≤ zpop (hoT T t s) ∧ zpop (hoT T t s) ≤ 5 := fun t s => by have := ho_pop T t s; omega
  refine zE_go (zE_two (fun t => .inl (hsT T (fun t s => zpop (hoT T t s)) t 0, (t : Int))) (fun t s => .inr (hsT T (fun t s => zpop (hoT T t s)) t s, (t : Int), (s : Int))) (nT T).toNat (fun t => (hT T t).toNat) rfl (fun t h1 => ?_) (fun t s h1 h2 => ?_) (fun t h1 => ?_) ?_)
  · show b_X_hoursSeenInAll_4 o _ (t : Int) μ = _
    unfold b_X_hoursSeenInAll_4 f_R_towerCount
    rw [hR.1, if_pos (by omega)]
    rfl
  · have h3 := hT_le hV t
    have hb := hoT_in T t s
    have hp := hg t s
    have hc := hsT_in hV hg t s
    show b_X_hoursSeenInAll_14 o (hsT T (fun t s => zpop (hoT T t s)) t s) (t : Int) (s : Int) μ = _
    unfold b_X_hoursSeenInAll_14
    rw [R_heightOf hR hV, z_some_bind, if_pos (by omega), R_hoursSeen hR hV (by omega) (by omega) (by omega) (by omega), z_some_bind, J_bitCount hb.1 (by omega), z32_id (z := (s : Int) + 1) (by omega) (by omega), z32_id (by omega) (by omega), hsT_s]
    rfl
  · show b_X_hoursSeenInAll_14 o _ (t : Int) ((hT T t).toNat : Int) μ = _
    have h3 := hT_nn T t
    unfold b_X_hoursSeenInAll_14
    rw [R_heightOf hR hV, z_some_bind, if_neg (by omega), z32_id (by omega) (by omega), hsT_next]
    rfl
  · show zE _ (b_X_hoursSeenInAll_4 o _ ((nT T).toNat : Int) μ) _
    unfold b_X_hoursSeenInAll_4 f_R_towerCount
    rw [hR.1, if_neg (by omega)]
    exact zE_ret
