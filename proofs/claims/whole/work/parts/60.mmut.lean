/-! changes of the model's rock; b is where its stretch begins -/
def zO43 (μ ν : zM) (lo hi : Nat) : Prop := (∀ p, p ≠ 43 → ν p = μ p) ∧ ∀ c, (c < lo ∨ hi ≤ c) → ν 43 c = μ 43 c
def zAt (μ : zM) (b : Nat) : Nat → Int := fun c => μ 43 (b + c)
theorem zAt_0 {μ : zM} : zAt μ 0 = μ 43 := by unfold zAt; funext c; rw [Nat.zero_add]
theorem IsV_congr {w v : Nat → Int} {T : zT} (hV : VT T) (h : ∀ c, c < 66 → v c = w c) (hW : IsV w T) : IsV v T := by
  have hn := nT_le hV
  refine ⟨by rw [h 0 (by omega)]; exact hW.1, fun x h1 h2 => by rw [h _ (by omega)]; exact hW.2.1 x h1 h2, fun x y h1 h2 h3 h4 => ?_⟩
  have hh := hT_le hV x
  rw [h _ (by omega), h _ (by omega)]
  exact hW.2.2 x y h1 h2 h3 h4
section MM2
variable {μ : zM} {b : Nat} {T : zT} {t s k a : Int}
theorem M_hasRoom (hW : IsV (μ 43) T) (hV : VT T) (h1 : 0 ≤ t) (h2 : t < nT T) : f_M_hasRoom t μ = some (if hT T t < 6 ∧ tot T < 12 then 1 else 0) := by
  have hn := nT_le hV
  unfold f_M_hasRoom
  rw [z32_id (by omega) (by omega), if_pos (by omega), hW.2.1 t h1 h2, M_houses hW hV, z_some_bind]
  by_cases d : hT T t < 6
  · rw [if_pos d]
    by_cases e : tot T < 12
    · rw [if_pos e, if_pos ⟨d, e⟩]
    · rw [if_neg e, if_neg (fun z => e z.2)]
  · rw [if_neg d, if_neg (fun z => d z.1)]
theorem zst43_o {c d : Nat} {v : Int} (h : c ≠ d) : zst μ 43 d v 43 c = μ 43 c := zst_o (Or.inr h)
theorem M_adds (hb : b ≤ 10824) (hW : IsV (zAt μ b) T) (hV : VT T) (h1 : 0 ≤ t) (h2 : t < nT T) (h3 : hT T t < 6) (hk : 0 ≤ k) (ha : 0 ≤ a) : ∃ ν, f_M_adds (b : Int) t k a μ = some ν ∧ IsV (zAt ν b) (addT T t k a) ∧ zO43 μ ν b (b + 66) ∧ ν 43 (b + (1 + t).toNat) = hT T t + 1 := by
  have hn := nT_le hV
  have hh := hT_nn T t
  have e0 : μ 43 (b + (1 + t).toNat) = hT T t := hW.2.1 t h1 h2
  have e1 : zst (zst μ 43 ((b : Int) + 6 + 6 * t + hT T t).toNat k) 43 ((b : Int) + 36 + 6 * t + hT T t).toNat a 43 (b + (1 + t).toNat) = hT T t := by
    rw [zst43_o (by omega), zst43_o (by omega), e0]
  refine ⟨zst (zst (zst μ 43 ((b : Int) + 6 + 6 * t + hT T t).toNat k) 43 ((b : Int) + 36 + 6 * t + hT T t).toNat a) 43 (b + (1 + t).toNat) (hT T t + 1), ?_, ⟨?_, fun x hx hx2 => ?_, fun x y hx hx2 hy hy2 => ?_⟩, ⟨fun p hp => by rw [zst_p hp, zst_p hp, zst_p hp], fun c hc => by rw [zst43_o (by omega), zst43_o (by omega), zst43_o (by omega)]⟩, zst_at⟩
  · unfold f_M_adds
    rw [z32_id (z := (b : Int) + 1) (by omega) (by omega), z32_id (z := (b : Int) + 1 + t) (by omega) (by omega), show ((b : Int) + 1 + t).toNat = b + (1 + t).toNat by omega, e0, z32_id (z := (b : Int) + 6) (by omega) (by omega), z32_id (z := (b : Int) + 36) (by omega) (by omega), z32_id (z := 6 * t) (by omega) (by omega), z32_id (z := (b : Int) + 6 + 6 * t) (by omega) (by omega), z32_id (z := (b : Int) + 36 + 6 * t) (by omega) (by omega), z32_id (z := (b : Int) + 6 + 6 * t + hT T t) (by omega) (by omega), z32_id (z := (b : Int) + 36 + 6 * t + hT T t) (by omega) (by omega), e1, z32_id (z := hT T t + 1) (by omega) (by omega), if_pos (by omega), if_pos (by omega), if_pos (by omega), if_pos (by omega), if_pos (by omega)]
  · unfold zAt
    rw [zst43_o (by omega), zst43_o (by omega), zst43_o (by omega), addT_n]
    exact hW.1
  · rw [addT_n] at hx2
    unfold zAt
    rw [addT_h h1 h2]
    by_cases c : x = t
    · subst c; rw [zst_at, if_pos rfl]
    · rw [zst43_o (by omega), zst43_o (by omega), zst43_o (by omega), if_neg c]
      exact hW.2.1 x hx hx2
  · rw [addT_n] at hx2
    rw [addT_h h1 h2] at hy2
    have h6 := hT_le hV x
    obtain ⟨c1, c2⟩ := addT_c (T := T) h1 h2 hx hy hk ha
    rw [c1, c2]
    unfold zAt
    by_cases c : x = t ∧ y = hT T t
    · obtain ⟨rfl, rfl⟩ := c
      rw [if_pos ⟨rfl, rfl⟩, if_pos ⟨rfl, rfl⟩]
      constructor
      · rw [zst43_o (by omega), zst43_o (by omega), show b + (6 + 6 * x + hT T x).toNat = ((b : Int) + 6 + 6 * x + hT T x).toNat by omega, zst_at]
      · rw [zst43_o (by omega), show b + (36 + 6 * x + hT T x).toNat = ((b : Int) + 36 + 6 * x + hT T x).toNat by omega, zst_at]
    · have d : y < hT T x := by
        by_cases e : x = t
        · rw [if_pos e] at hy2; subst e; omega
        · rw [if_neg e] at hy2; exact hy2
      rw [if_neg c, if_neg c, zst43_o (by omega), zst43_o (by omega), zst43_o (by omega), zst43_o (by omega), zst43_o (by omega), zst43_o (by omega)]
      exact hW.2.2 x y hx hx2 hy d
theorem M_goes (hW : IsV (μ 43) T) (hV : VT T) (h1 : 0 ≤ s) (h2 : s < hT T t) : ∃ ν, f_M_goes t s μ = some ν ∧ IsV (ν 43) (gonT T t s) ∧ zO43 μ ν 0 66 := by
  have h3 := hT_pos (show 0 < hT T t by omega)
  have hn := nT_le hV
  have h5 := hT_le hV t
  refine zQ_go (zQ_for (fun m q => ∃ ν, q = (6 * t + s + m, ν) ∧ (∀ p, p ≠ 43 → ν p = μ p) ∧ ∀ c : Nat, ν 43 c = if (6 + 6 * t + s ≤ c ∧ (c : Int) < 6 + 6 * t + s + m) ∨ (36 + 6 * t + s ≤ c ∧ (c : Int) < 36 + 6 * t + s + m) then μ 43 (c + 1) else μ 43 c) (hT T t - 1 - s).toNat (s0 := (6 * t + s, μ)) ?_ ⟨μ, by rw [show 6 * t + s + ((0 : Nat) : Int) = 6 * t + s by omega], fun _ _ => rfl, fun c => by rw [if_neg (by omega)]⟩ ?_ ?_)
  · unfold e_M_goes
    rw [z32_id (z := 6 * t) (by omega) (by omega), z32_id (by omega) (by omega)]
  · rintro m _ hm ⟨ν, rfl, q1, q2⟩
    have e1 : ν 43 (1 + t).toNat = hT T t := by rw [q2, if_neg (by omega)]; exact hW.2.1 t h3.1 h3.2
    show ∃ u, b_M_goes_7 t s (6 * t + s + m) ν = some (.inl u) ∧ _
    unfold b_M_goes_7
    rw [z32_id (z := 1 + t) (by omega) (by omega), if_pos (by omega), e1, z32_id (z := 6 * t) (by omega) (by omega), z32_id (z := 6 * t + hT T t) (by omega) (by omega), z32_id (z := 6 * t + s + (m : Int) + 1) (by omega) (by omega), if_pos (by omega), z32_id (z := 6 + (6 * t + s + (m : Int))) (by omega) (by omega), z32_id (z := 6 + (6 * t + s + (m : Int)) + 1) (by omega) (by omega), z32_id (z := 36 + (6 * t + s + (m : Int))) (by omega) (by omega), z32_id (z := 36 + (6 * t + s + (m : Int)) + 1) (by omega) (by omega), if_pos (by omega), if_pos (by omega), if_pos (by omega), if_pos (by omega), zst43_o (c := (36 + (6 * t + s + (m : Int)) + 1).toNat) (by omega)]
    refine ⟨_, rfl, _, by rw [show 6 * t + s + (m : Int) + 1 = 6 * t + s + ((m + 1 : Nat) : Int) by omega], fun p hp => by rw [zst_p hp, zst_p hp]; exact q1 p hp, fun c => ?_⟩
    by_cases d : c = (36 + (6 * t + s + (m : Int))).toNat
    · subst d
      rw [zst_at, q2, if_neg (by omega), if_pos (by omega)]; congr 1; omega
    · rw [zst43_o d]
      by_cases d2 : c = (6 + (6 * t + s + (m : Int))).toNat
      · subst d2
        rw [zst_at, q2, if_neg (by omega), if_pos (by omega)]; congr 1; omega
      · rw [zst43_o d2, q2]
        by_cases e : (6 + 6 * t + s ≤ c ∧ (c : Int) < 6 + 6 * t + s + m) ∨ (36 + 6 * t + s ≤ c ∧ (c : Int) < 36 + 6 * t + s + m)
        · rw [if_pos e, if_pos (by omega)]
        · rw [if_neg e, if_neg (by omega)]
  · rintro _ ⟨ν, rfl, q1, q2⟩
    have e1 : ν 43 (1 + t).toNat = hT T t := by rw [q2, if_neg (by omega)]; exact hW.2.1 t h3.1 h3.2
    show zQ _ (b_M_goes_7 t s (6 * t + s + ((hT T t - 1 - s).toNat : Int)) ν) _
    unfold b_M_goes_7
    rw [z32_id (z := 1 + t) (by omega) (by omega), if_pos (by omega), e1, z32_id (z := 6 * t) (by omega) (by omega), z32_id (z := 6 * t + hT T t) (by omega) (by omega), z32_id (z := 6 * t + s + ((hT T t - 1 - s).toNat : Int) + 1) (by omega) (by omega), if_neg (by omega), if_pos (by omega), if_pos (by omega), z32_id (z := hT T t - 1) (by omega) (by omega)]
    refine zQ_ret ⟨⟨?_, fun x hx hx2 => ?_, fun x y hx hx2 hy hy2 => ?_⟩, fun p hp => by rw [zst_p hp]; exact q1 p hp, fun c hc => by rw [zst43_o (by omega), q2, if_neg (by omega)]⟩
    · rw [zst43_o (by omega), q2, if_neg (by omega), gonT_n]; exact hW.1
    · rw [gonT_n] at hx2
      rw [gonT_h h1 h2]
      by_cases c : x = t
      · subst c; rw [zst_at, if_pos rfl]
      · rw [zst43_o (by omega), q2, if_neg (by omega), if_neg c]; exact hW.2.1 x hx hx2
    · rw [gonT_n] at hx2
      rw [gonT_h h1 h2] at hy2
      obtain ⟨c1, c2⟩ := gonT_c (T := T) (t := t) h1 h2 hx hy
      have h6 := hT_le hV x
      have d : y < hT T x := by
        by_cases e : x = t
        · rw [if_pos e] at hy2; subst e; omega
        · rw [if_neg e] at hy2; exact hy2
      rw [c1, c2, zst43_o (by omega), zst43_o (by omega), q2, q2]
      by_cases c : x = t ∧ s ≤ y
      · obtain ⟨rfl, c⟩ := c
        rw [if_pos rfl] at hy2
        obtain ⟨w1, w2⟩ := hW.2.2 x (y + 1) hx hx2 (by omega) (by omega)
        have n1 : x = x ∧ s ≤ y := ⟨rfl, c⟩
        rw [if_pos n1, if_pos n1, if_pos (by omega), if_pos (by omega), ← w1, ← w2]
        constructor
        · congr 1; omega
        · congr 1; omega
      · rw [if_neg c, if_neg c, if_neg (by omega), if_neg (by omega)]
        exact hW.2.2 x y hx hx2 hy d
theorem M_copyAll {i j n : Nat} (h1 : i + n ≤ 10956) (h2 : j + n ≤ 10956) (h3 : i + n ≤ j ∨ j + n ≤ i) : ∃ ν, f_M_copyAll (i : Int) (j : Int) (n : Int) μ = some ν ∧ (∀ p, p ≠ 43 → ν p = μ p) ∧ ∀ c : Nat, ν 43 c = if j ≤ c ∧ c < j + n then μ 43 (i + (c - j)) else μ 43 c := by
  refine zQ_go (zQ_for (fun m q => ∃ ν, q = ((m : Int), ν) ∧ (∀ p, p ≠ 43 → ν p = μ p) ∧ ∀ c : Nat, ν 43 c = if j ≤ c ∧ c < j + m then μ 43 (i + (c - j)) else μ 43 c) n (s0 := (0, μ)) rfl ⟨μ, rfl, fun _ _ => rfl, fun c => by rw [if_neg (by omega)]⟩ ?_ ?_)
  · rintro m _ hm ⟨ν, rfl, q1, q2⟩
    show ∃ u, b_M_copyAll_3 (i : Int) (j : Int) (n : Int) (m : Int) ν = some (.inl u) ∧ _
    unfold b_M_copyAll_3
    rw [if_pos (by omega), z32_id (z := (i : Int) + m) (by omega) (by omega), z32_id (z := (j : Int) + m) (by omega) (by omega), if_pos (by omega), if_pos (by omega), z32_id (z := (m : Int) + 1) (by omega) (by omega), show ((i : Int) + m).toNat = i + m by omega, show ((j : Int) + m).toNat = j + m by omega]
    refine ⟨_, rfl, _, rfl, fun p hp => by rw [zst_p hp]; exact q1 p hp, fun c => ?_⟩
    by_cases d : c = j + m
    · subst d
      rw [zst_at, q2, if_neg (by omega), if_pos (by omega)]; congr 1; omega
    · rw [zst43_o d, q2]
      by_cases e : j ≤ c ∧ c < j + m
      · rw [if_pos e, if_pos (by omega)]
      · rw [if_neg e, if_neg (by omega)]
  · rintro _ ⟨ν, rfl, q1, q2⟩
    show zQ _ (b_M_copyAll_3 (i : Int) (j : Int) (n : Int) (n : Int) ν) _
    unfold b_M_copyAll_3
    rw [if_neg (by omega)]
    exact zQ_ret ⟨q1, q2⟩
end MM2
