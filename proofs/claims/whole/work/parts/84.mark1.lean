theorem hs_taken {T : zT} (hV : VT T) {t s b : Int} (h1 : 0 ≤ s) (h2 : s < hT T t) (hb : 0 ≤ b ∧ b < 10) : hsT T (fun x y => zpop (hoT T x y)) (nT T).toNat 0 = hsT (chgT T t s 0 b) (fun x y => zpop (hoT (chgT T t s 0 b) x y)) (nT T).toNat 0 + hsT T (fun x y => csH T t s x y 5) (nT T).toNat 0 := by
  have h3 := hT_pos (show 0 < hT T t by omega)
  have h4 := nT_le hV
  unfold hsT
  rw [zsum_0, zsum_0, zsum_0, Int.add_zero, Int.add_zero, Int.add_zero, ← zsum_add]
  refine zsum_congr (fun x hx => ?_)
  rw [chgT_h h3.1 h3.2, ← zsum_add]
  exact zsum_congr (fun y _ => ho_taken hV h1 h2 hb ⟨by omega, by omega⟩ (by omega))
theorem A_mark {μ : zM} {t s k : Int} (h : Rel μ) : zAg (f_X_mark t s k μ) (f_M_mark t s k) := by
  refine A_mark0 h (fun T hV hR hW h1 h2 _ => ?_)
  have h3 := hT_pos (show 0 < hT T t by omega)
  have h4 := nT_le hV
  obtain ⟨ν1, e1, e2, e3⟩ := R_takeFrom (o := 13) (μ := μ) hR hV (by omega)
  have hin := cT_in hV h3.1 h1 h2
  obtain ⟨ν2, f1, f2, f3⟩ := R_change (k := 0) (b := bT T t s) e2 hV h1 h2 ⟨by omega, by omega⟩ ⟨hin.2.2.1, hin.2.2.2⟩
  have hV' := chgT_V (s := s) (k := 0) (b := bT T t s) hV h3.1 h3.2 ⟨by omega, by omega⟩ ⟨hin.2.2.1, hin.2.2.2⟩
  have eq := hs_taken hV h1 h2 ⟨hin.2.2.1, hin.2.2.2⟩
  have hc := hsT_in hV (g := fun x y => csH T t s x y 5) (fun x y => by have := csH_in T t s x y 5; omega) (nT T).toNat 0
  have ho : zOut μ ν2 13 22 := zOut_trans (zOut_le e3 (by omega) (by omega)) (zOut_le f3 (by omega) (by omega))
  refine ⟨hsT T (fun x y => csH T t s x y 5) (nT T).toNat 0, ν2, ?_, ho, M_couldShade (W_of hW (ho 43 (by omega))) hV⟩
  have en : nT (chgT T t s 0 (bT T t s)) = nT T := chgT_n
  unfold f_X_hoursTakenIfHouse
  rw [X_hoursSeenInAll hR hV, z_some_bind, e1, z_some_bind, R_borneAt e2 hV h1 h2, z_some_bind, f1, z_some_bind, X_hoursSeenInAll f2 hV', z_some_bind, en, eq, z32_id (by omega) (by omega)]
  congr 2
  omega
