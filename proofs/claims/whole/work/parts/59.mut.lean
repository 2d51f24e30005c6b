/-! changes of the rock, on both sides -/
section MU
variable {μ : zM} {o : Nat} {T : zT} {t s k b : Int}
theorem R_hasRoom (hR : IsR μ o T) (hV : VT T) : f_R_hasRoom o t μ = some (if (0 ≤ t ∧ t < nT T) ∧ hT T t < 6 ∧ tot T < 12 then 1 else 0) := by
  unfold f_R_hasRoom
  rw [R_isTower hR]
  by_cases c : 0 ≤ t ∧ t < nT T
  · rw [z_if1 c, R_heightOf hR hV, z_some_bind, hR.2.1]
    by_cases d : hT T t < 6
    · rw [if_pos d]
      by_cases e : tot T < 12
      · rw [if_pos e, if_pos ⟨c, d, e⟩]
      · rw [if_neg e, if_neg (fun z => e z.2.2)]
    · rw [if_neg d, if_neg (fun z => d z.2.1)]
  · rw [z_if0 c, if_neg (fun z => c z.1)]
theorem R_change_raw {H : Int} (h1 : 0 ≤ t) (h2 : t < 5) (h3 : μ (o + 1) t.toNat = H) (h4 : 0 ≤ s) (h5 : s < H) (h6 : H ≤ 6) (hk : 0 ≤ k ∧ k < 6) (hb : 0 ≤ b ∧ b < 10) : f_R_change o t s k b μ = some (zst μ (o + 2) (t * 6 + s).toNat (10 * k + b + 1)) := by
  unfold f_R_change f_R_has
  rw [if_neg (by omega), if_pos h2, if_neg (by omega), if_pos ⟨h1, h2⟩, h3, if_pos h5, z_some_bind, if_neg (by omega), z32_id (z := t * 6) (by omega) (by omega), z32_id (z := t * 6 + s) (by omega) (by omega), if_pos (by omega), z32_id (z := 10 * k) (by omega) (by omega), z32_id (z := 10 * k + b) (by omega) (by omega), z32_id (by omega) (by omega)]
theorem R_change (hR : IsR μ o T) (hV : VT T) (h1 : 0 ≤ s) (h2 : s < hT T t) (hk : 0 ≤ k ∧ k < 6) (hb : 0 ≤ b ∧ b < 10) : ∃ ν, f_R_change o t s k b μ = some ν ∧ IsR ν o (chgT T t s k b) ∧ zOut μ ν o (o + 2) := by
  have h3 := hT_pos (show 0 < hT T t by omega)
  have h4 := nT_le hV
  have h5 := hT_le hV t
  obtain ⟨r1, r2, r3, r4⟩ := hR
  refine ⟨_, R_change_raw h3.1 (by omega) (r3 t h3.1 (by omega)) h1 h2 h5 hk hb, ⟨?_, ?_, fun x hx hx2 => ?_, fun x y hx hx2 hy hy2 => ?_⟩, zst_out zOut_rf (by omega) (by omega)⟩
  · rw [zst_o (by omega), r1, chgT_n]
  · rw [zst_o (by omega), r2, chgT_t h3.1 h3.2]
  · rw [zst_o (by omega), r3 x hx hx2, chgT_h h3.1 h3.2]
  · obtain ⟨c1, c2⟩ := chgT_c (T := T) (k := k) (b := b) h1 h2 hx hy hk.1 hb.1
    rw [chgT_h h3.1 h3.2, c1, c2]
    by_cases c : x = t ∧ y = s
    · obtain ⟨rfl, rfl⟩ := c
      rw [zst_at, if_pos h2, if_pos ⟨rfl, rfl⟩, if_pos ⟨rfl, rfl⟩]
    · rw [zst_o (by omega), if_neg c, if_neg c, r4 x y hx hx2 hy hy2]
theorem R_push (hR : IsR μ o T) (hV : VT T) (h1 : 0 ≤ t) (h2 : t < nT T) (h3 : hT T t < 6) (h4 : tot T < 12) (hk : 0 ≤ k ∧ k < 6) (hb : 0 ≤ b ∧ b < 10) : ∃ ν, f_R_push o t k b μ = some (1, ν) ∧ IsR ν o (addT T t k b) ∧ zOut μ ν o (o + 2) := by
  have h5 := nT_le hV
  have h6 := hT_nn T t
  have h7 := tot_le hV
  have hR0 := hR
  obtain ⟨r1, r2, r3, r4⟩ := hR
  have e0 : zst μ (o + 1) t.toNat (hT T t + 1) o 1 = tot T := by rw [zst_o (by omega)]; exact r2
  have e1 : zst (zst μ (o + 1) t.toNat (hT T t + 1)) o 1 (tot T + 1) (o + 1) t.toNat = hT T t + 1 := by rw [zst_o (by omega), zst_at]
  refine ⟨zst (zst (zst μ (o + 1) t.toNat (hT T t + 1)) o 1 (tot T + 1)) (o + 2) (t * 6 + hT T t).toNat (10 * k + b + 1), ?_, ⟨?_, ?_, fun x hx hx2 => ?_, fun x y hx hx2 hy hy2 => ?_⟩, zst_out (zst_out (zst_out zOut_rf (by omega) (by omega)) (by omega) (by omega)) (by omega) (by omega)⟩
  · unfold f_R_push
    rw [R_hasRoom hR0 hV, z_some_bind, z_if1 ⟨⟨h1, h2⟩, h3, h4⟩, if_pos (by omega), if_pos (by omega), if_pos (by omega), r3 t h1 (by omega), z32_id (z := hT T t + 1) (by omega) (by omega), e0, z32_id (z := tot T + 1) (by omega) (by omega), e1, z32_id (z := hT T t + 1 - 1) (by omega) (by omega), show hT T t + 1 - 1 = hT T t by omega, R_change_raw h1 (by omega) e1 h6 (by omega) (by omega) hk hb, z_some_bind]
  · rw [zst_o (by omega), zst_o (by omega), zst_o (by omega), r1, addT_n]
  · rw [zst_o (by omega), zst_at, addT_t h1 h2]
  · rw [zst_o (by omega), zst_o (by omega), addT_h h1 h2]
    by_cases c : x = t
    · subst c; rw [zst_at, if_pos rfl]
    · rw [zst_o (by omega), if_neg c, r3 x hx hx2]
  · obtain ⟨c1, c2⟩ := addT_c (T := T) h1 h2 hx hy hk.1 hb.1
    rw [addT_h h1 h2, c1, c2]
    by_cases c : x = t ∧ y = hT T t
    · obtain ⟨rfl, rfl⟩ := c
      rw [zst_at, if_pos rfl, if_pos (by omega), if_pos ⟨rfl, rfl⟩, if_pos ⟨rfl, rfl⟩]
    · rw [zst_o (by omega), zst_o (by omega), zst_o (by omega), if_neg c, if_neg c, r4 x y hx hx2 hy hy2]
      by_cases d : x = t
      · subst d
        rw [if_pos rfl]
        by_cases e : y < hT T x
        · rw [if_pos e, if_pos (by omega)]
        · rw [if_neg e, if_neg (by omega)]
      · rw [if_neg d]
theorem R_push0 (hR : IsR μ o T) (hV : VT T) (h : ¬ ((0 ≤ t ∧ t < nT T) ∧ hT T t < 6 ∧ tot T < 12)) : f_R_push o t k b μ = some (0, μ) := by
  unfold f_R_push
  rw [R_hasRoom hR hV, z_some_bind, z_if0 h]
theorem R_remove (hR : IsR μ o T) (hV : VT T) (h1 : 0 ≤ s) (h2 : s < hT T t) : ∃ ν, f_R_remove o t s μ = some ν ∧ IsR ν o (gonT T t s) ∧ zOut μ ν o (o + 2) := by
  have h3 := hT_pos (show 0 < hT T t by omega)
  have h4 := nT_le hV
  have h5 := hT_le hV t
  have h7 := tot_le hV
  refine zQ_go (zQ_for (fun m q => ∃ ν S, q = (hT T t - 1, s + m, ν) ∧ IsR ν o S ∧ VT S ∧ nT S = nT T ∧ tot S = tot T ∧ (∀ x, hT S x = hT T x) ∧ (∀ x y, 0 ≤ x → 0 ≤ y → cT S x y = (if x = t ∧ s ≤ y ∧ y < s + m then cT T x (y + 1) else cT T x y) ∧ bT S x y = if x = t ∧ s ≤ y ∧ y < s + m then bT T x (y + 1) else bT T x y) ∧ zOut μ ν o (o + 2)) (hT T t - 1 - s).toNat (s0 := (hT T t - 1, s, μ)) ?_ ⟨μ, T, by rw [show s + ((0 : Nat) : Int) = s by omega], hR, hV, rfl, rfl, fun _ => rfl, fun x y _ _ => by rw [if_neg (by omega), if_neg (by omega)]; exact ⟨rfl, rfl⟩, zOut_rf⟩ ?_ ?_)
  · unfold e_R_remove
    rw [R_hasI hR hV h1 h2, z_some_bind, if_neg (by omega), if_pos (by omega), hR.2.2.1 t h3.1 (by omega), z32_id (by omega) (by omega)]
  · rintro m _ hm ⟨ν, S, rfl, q1, q2, q3, q4, q5, q6, q7⟩
    obtain ⟨c1, c2⟩ := q6 t (s + m + 1) h3.1 (by omega)
    rw [if_neg (by omega)] at c1 c2
    have hin := cT_in hV h3.1 (show 0 ≤ s + (m : Int) + 1 by omega) (by omega)
    obtain ⟨κ, g1, g2, g3⟩ := R_change (t := t) (k := cT T t (s + m + 1)) (b := bT T t (s + m + 1)) q1 q2 (show 0 ≤ s + (m : Int) by omega) (by rw [q5]; omega) ⟨hin.1, hin.2.1⟩ ⟨hin.2.2.1, hin.2.2.2⟩
    show ∃ u, b_R_remove_22 o t s (hT T t - 1) (s + m) ν = some (.inl u) ∧ _
    unfold b_R_remove_22
    rw [if_pos (by omega), z32_id (z := s + (m : Int) + 1) (by omega) (by omega), R_kindAt q1 q2 (by omega) (by rw [q5]; omega), z_some_bind, R_borneAt q1 q2 (by omega) (by rw [q5]; omega), z_some_bind, c1, c2, g1, z_some_bind]
    refine ⟨_, rfl, κ, _, by rw [show s + (m : Int) + 1 = s + ((m + 1 : Nat) : Int) by omega], g2, chgT_V q2 h3.1 (by omega) ⟨hin.1, hin.2.1⟩ ⟨hin.2.2.1, hin.2.2.2⟩, by rw [chgT_n, q3], by rw [chgT_t h3.1 (by omega), q4], fun x => by rw [chgT_h h3.1 (by omega), q5], fun x y hx hy => ?_, zOut_trans q7 g3⟩
    obtain ⟨d1, d2⟩ := chgT_c (T := S) (s := s + m) (t := t) (k := cT T t (s + m + 1)) (b := bT T t (s + m + 1)) (by omega) (by rw [q5]; omega) hx hy hin.1 hin.2.2.1
    obtain ⟨f1, f2⟩ := q6 x y hx hy
    rw [d1, d2, f1, f2]
    by_cases c : x = t ∧ y = s + m
    · have n1 : x = t ∧ s ≤ y ∧ y < s + ((m + 1 : Nat) : Int) := by omega
      rw [if_pos c, if_pos c, if_pos n1, if_pos n1, c.1, c.2]
      exact ⟨rfl, rfl⟩
    · rw [if_neg c, if_neg c]
      by_cases d : x = t ∧ s ≤ y ∧ y < s + m
      · rw [if_pos d, if_pos d, if_pos (by omega), if_pos (by omega)]; exact ⟨rfl, rfl⟩
      · rw [if_neg d, if_neg d, if_neg (by omega), if_neg (by omega)]; exact ⟨rfl, rfl⟩
  · rintro _ ⟨ν, S, rfl, q1, q2, q3, q4, q5, q6, q7⟩
    obtain ⟨r1, r2, r3, r4⟩ := q1
    have e1 : zst ν (o + 2) (t * 6 + (hT T t - 1)).toNat 0 (o + 1) t.toNat = hT T t := by rw [zst_o (by omega), r3 t h3.1 (by omega), q5]
    have e2 : zst (zst ν (o + 2) (t * 6 + (hT T t - 1)).toNat 0) (o + 1) t.toNat (hT T t - 1) o 1 = tot T := by rw [zst_o (by omega), zst_o (by omega), r2, q4]
    show zQ _ (b_R_remove_22 o t s (hT T t - 1) (s + ((hT T t - 1 - s).toNat : Int)) ν) _
    unfold b_R_remove_22
    rw [if_neg (by omega), z32_id (z := t * 6) (by omega) (by omega), z32_id (z := t * 6 + (hT T t - 1)) (by omega) (by omega), if_pos (by omega), if_pos (by omega), if_pos (by omega), e1, z32_id (z := hT T t - 1) (by omega) (by omega), e2, z32_id (z := tot T - 1) (by omega) (by omega)]
    refine zQ_ret ⟨⟨?_, ?_, fun x hx hx2 => ?_, fun x y hx hx2 hy hy2 => ?_⟩, zst_out (zst_out (zst_out q7 (by omega) (by omega)) (by omega) (by omega)) (by omega) (by omega)⟩
    · rw [zst_o (by omega), zst_o (by omega), zst_o (by omega), r1, gonT_n, q3]
    · rw [zst_at, gonT_t h1 h2]
    · rw [zst_o (by omega), gonT_h h1 h2]
      by_cases c : x = t
      · subst c; rw [zst_at, if_pos rfl]
      · rw [zst_o (by omega), zst_o (by omega), if_neg c, r3 x hx hx2, q5]
    · rw [zst_o (by omega), zst_o (by omega), gonT_h h1 h2]
      obtain ⟨c1, c2⟩ := gonT_c (T := T) (t := t) h1 h2 hx hy
      obtain ⟨f1, f2⟩ := q6 x y hx hy
      rw [c1, c2]
      by_cases c : x = t ∧ y = hT T t - 1
      · obtain ⟨rfl, rfl⟩ := c
        rw [zst_at, if_pos rfl, if_neg (by omega)]
      · rw [zst_o (by omega), r4 x y hx hx2 hy hy2, q5, f1, f2]
        by_cases d : x = t
        · subst d
          rw [if_pos rfl]
          by_cases e : y < hT T x - 1
          · rw [if_pos (by omega), if_pos e]
            by_cases f : s ≤ y
            · rw [if_pos (by omega), if_pos (by omega), if_pos ⟨rfl, f⟩, if_pos ⟨rfl, f⟩]
            · rw [if_neg (by omega), if_neg (by omega), if_neg (by omega), if_neg (by omega)]
          · rw [if_neg (by omega), if_neg e]
        · have n1 : ¬ (x = t ∧ s ≤ y) := fun z => d z.1
          have n2 : ¬ (x = t ∧ s ≤ y ∧ y < s + ((hT T t - 1 - s).toNat : Int)) := fun z => d z.1
          rw [if_neg d, if_neg n1, if_neg n1, if_neg n2, if_neg n2]
theorem R_pop (hR : IsR μ o T) (hV : VT T) (h : 0 < hT T t) : ∃ ν, f_R_pop o t μ = some ν ∧ IsR ν o (gonT T t (hT T t - 1)) ∧ zOut μ ν o (o + 2) := by
  have h5 := hT_le hV t
  obtain ⟨ν, e1, e2, e3⟩ := R_remove (t := t) (s := hT T t - 1) hR hV (by omega) (by omega)
  refine ⟨ν, ?_, e2, e3⟩
  unfold f_R_pop
  rw [R_heightOf hR hV, z_some_bind, z32_id (by omega) (by omega), e1]; rfl
end MU
