/-! LOOPS, ONCE MORE: with a start, and an end -/
section ZLP
variable {σ ρ : Type} {step : σ → Option (σ ⊕ ρ)} {x : Option (σ ⊕ ρ)} {r : ρ}
theorem zE_for (f : Nat → σ) (n : Nat) (h0 : x = some (.inl (f 0))) (hs : ∀ k, k < n → step (f k) = some (.inl (f (k + 1)))) (hx : zE step (step (f n)) r) : zE step x r := by
  rw [h0]; exact zE_up f n hs hx
def zfirst (n : Nat) (p : Nat → Bool) (g : Nat → ρ) (d : ρ) : ρ := match (List.range n).find? p with
  | some k => g k
  | none => d
/-- the first of i .. n-1 -/
def zff (p : Nat → Bool) (g : Nat → ρ) (d : ρ) : Nat → Nat → ρ
  | 0, _ => d
  | m + 1, i => if p i then g i else zff p g d m (i + 1)
theorem zE_ff (f : Nat → σ) (p : Nat → Bool) (g : Nat → ρ) (d : ρ) (n : Nat) (hs : ∀ k, k < n → step (f k) = if p k then some (.inr (g k)) else some (.inl (f (k + 1)))) (hx : step (f n) = some (.inr d)) : ∀ (m i : Nat), i + m = n → zE step (some (.inl (f i))) (zff p g d m i) := by
  intro m
  induction m with
  | zero => intro i hi; have : i = n := by omega
            subst this; refine zE_step ?_; rw [hx]; rfl
  | succ m ih =>
    intro i hi
    refine zE_step ?_
    rw [hs i (by omega)]
    unfold zff
    by_cases hp : p i = true
    · rw [if_pos hp, if_pos hp]; rfl
    · rw [if_neg hp, if_neg hp]; exact ih (i + 1) (by omega)
theorem zE_find (f : Nat → σ) (p : Nat → Bool) (g : Nat → ρ) (d : ρ) (n : Nat) (h0 : x = some (.inl (f 0))) (hs : ∀ k, k < n → step (f k) = if p k then some (.inr (g k)) else some (.inl (f (k + 1)))) (hx : step (f n) = some (.inr d)) : zE step x (zff p g d n 0) := by
  rw [h0]; exact zE_ff f p g d n hs hx n 0 (by omega)
end ZLP
/-! sums -/
def zsum : Nat → (Nat → Int) → Int
  | 0, _ => 0
  | n + 1, f => zsum n f + f n
theorem zsum_s (n : Nat) (f : Nat → Int) : zsum (n + 1) f = zsum n f + f n := rfl
theorem zsum_0 (f : Nat → Int) : zsum 0 f = 0 := rfl
theorem zsum_congr {n : Nat} {f g : Nat → Int} (h : ∀ k, k < n → f k = g k) : zsum n f = zsum n g := by
  induction n with
  | zero => rfl
  | succ n ih => rw [zsum_s, zsum_s, ih (fun k hk => h k (by omega)), h n (by omega)]
theorem zsum_le {n : Nat} {f : Nat → Int} {c : Int} (h : ∀ k, k < n → f k ≤ c) : zsum n f ≤ c * n := by
  induction n with
  | zero => simp [zsum_0]
  | succ n ih =>
    have h1 := ih (fun k hk => h k (by omega))
    have h2 := h n (by omega)
    rw [zsum_s]
    have e : c * ((n + 1 : Nat) : Int) = c * n + c := by rw [show ((n + 1 : Nat) : Int) = (n : Int) + 1 by omega, Int.mul_add, Int.mul_one]
    omega
theorem zsum_nn {n : Nat} {f : Nat → Int} (h : ∀ k, k < n → 0 ≤ f k) : 0 ≤ zsum n f := by
  induction n with
  | zero => simp [zsum_0]
  | succ n ih =>
    have h1 := ih (fun k hk => h k (by omega))
    have h2 := h n (by omega)
    rw [zsum_s]
    omega
theorem zsum_mono {n m : Nat} {f : Nat → Int} (h : ∀ k, k < m → 0 ≤ f k) (hnm : n ≤ m) : zsum n f ≤ zsum m f := by
  induction m with
  | zero => have : n = 0 := by omega
            subst this; exact Int.le_refl _
  | succ m ih =>
    by_cases hn : n = m + 1
    · subst hn; exact Int.le_refl _
    · have h1 := ih (fun k hk => h k (by omega)) (by omega)
      have h2 := h m (by omega)
      rw [zsum_s]
      omega
/-! ROCKS: towers of houses (kind, what it bears), from west to east, from below -/
abbrev zT : Type := List (List (Nat × Nat))
def nT (T : zT) : Int := T.length
def hT (T : zT) (x : Int) : Int := if 0 ≤ x then ((T.getD x.toNat []).length : Int) else 0
def cT (T : zT) (x y : Int) : Int := (((T.getD x.toNat []).getD y.toNat (0, 0)).1 : Int)
def bT (T : zT) (x y : Int) : Int := (((T.getD x.toNat []).getD y.toNat (0, 0)).2 : Int)
def tot (T : zT) : Int := ((T.map List.length).sum : Nat)
def VT (T : zT) : Prop := T.length ≤ 5 ∧ (∀ t ∈ T, t.length ≤ 6) ∧ (T.map List.length).sum ≤ 12 ∧ ∀ t ∈ T, ∀ h ∈ t, h.1 < 6 ∧ h.2 < 10
theorem nT_nn (T : zT) : 0 ≤ nT T := by unfold nT; omega
theorem nT_le {T : zT} (h : VT T) : nT T ≤ 5 := by have := h.1; unfold nT; omega
theorem hT_nn (T : zT) (x : Int) : 0 ≤ hT T x := by unfold hT; split <;> omega
theorem hT_out {T : zT} {x : Int} (h : x < 0 ∨ nT T ≤ x) : hT T x = 0 := by
  unfold hT
  split
  · rw [List.getD_eq_getElem?_getD, List.getElem?_eq_none (by unfold nT at h; omega)]
    rfl
  · rfl
theorem hT_le {T : zT} (h : VT T) (x : Int) : hT T x ≤ 6 := by
  unfold hT
  split
  · rw [List.getD_eq_getElem?_getD]
    cases hx : T[x.toNat]? with
    | none => simp
    | some t =>
      have := h.2.1 t (List.mem_of_getElem? hx)
      show (t.length : Int) ≤ 6
      omega
  · omega
theorem cT_in {T : zT} (h : VT T) {x y : Int} (hx : 0 ≤ x) (hy : 0 ≤ y) (hh : y < hT T x) : 0 ≤ cT T x y ∧ cT T x y < 6 ∧ 0 ≤ bT T x y ∧ bT T x y < 10 := by
  unfold hT at hh
  rw [if_pos hx] at hh
  unfold cT bT
  have hm : ∀ t, T.getD x.toNat [] = t → y < (t.length : Int) → t ∈ T := fun t ht hl => by
    rw [List.getD_eq_getElem?_getD] at ht
    cases hz : T[x.toNat]? with
    | none =>
      rw [hz] at ht
      have : t = [] := ht.symm
      subst this
      simp at hl
      omega
    | some u =>
      rw [hz] at ht
      have : u = t := ht
      subst this
      exact List.mem_of_getElem? hz
  generalize ht : T.getD x.toNat [] = t at hh ⊢
  have ht2 := hm t ht hh
  have hlt : y.toNat < t.length := by omega
  rw [List.getD_eq_getElem?_getD, List.getElem?_eq_getElem hlt]
  have := h.2.2.2 t ht2 _ (List.getElem_mem hlt)
  show 0 ≤ ((t[y.toNat]).1 : Int) ∧ ((t[y.toNat]).1 : Int) < 6 ∧ 0 ≤ ((t[y.toNat]).2 : Int) ∧ ((t[y.toNat]).2 : Int) < 10
  omega
/-- what the component's Rock o holds -/
def IsR (μ : zM) (o : Nat) (T : zT) : Prop := μ o 0 = nT T ∧ μ o 1 = tot T ∧ (∀ x : Int, 0 ≤ x → x < 5 → μ (o + 1) x.toNat = hT T x) ∧ ∀ x y : Int, 0 ≤ x → x < 5 → 0 ≤ y → y < 6 → μ (o + 2) (x * 6 + y).toNat = if y < hT T x then 10 * cT T x y + bT T x y + 1 else 0
/-- what a stretch of the model's w holds -/
def IsV (w : Nat → Int) (T : zT) : Prop := w 0 = nT T ∧ (∀ x : Int, 0 ≤ x → x < nT T → w (1 + x).toNat = hT T x) ∧ ∀ x y : Int, 0 ≤ x → x < nT T → 0 ≤ y → y < hT T x → w (6 + 6 * x + y).toNat = cT T x y ∧ w (36 + 6 * x + y).toNat = bT T x y
theorem z_some_bind {α β : Type} (a : α) (f : α → Option β) : (some a).bind f = f a := rfl
/-! the component's rock is read -/
section RR
variable {μ : zM} {o : Nat} {T : zT} {t s k : Int}
theorem R_heightOf (hR : IsR μ o T) (hV : VT T) : f_R_heightOf o t μ = some (hT T t) := by
  have h1 := nT_le hV
  unfold f_R_heightOf
  by_cases c1 : t < 0
  · rw [if_pos c1, hT_out (Or.inl c1)]
  · rw [if_neg c1]
    by_cases c2 : t < 5
    · rw [if_pos c2, if_pos ⟨by omega, c2⟩, hR.2.2.1 t (by omega) c2]
    · rw [if_neg c2, hT_out (Or.inr (by omega))]
theorem hT_pos (h : 0 < hT T t) : 0 ≤ t ∧ t < nT T := by
  refine ⟨?_, ?_⟩
  · rcases Int.lt_or_le t 0 with q | q
    · rw [hT_out (Or.inl q)] at h; omega
    · exact q
  · rcases Int.lt_or_le t (nT T) with q | q
    · exact q
    · rw [hT_out (Or.inr q)] at h; omega
theorem R_has (hR : IsR μ o T) (hV : VT T) : f_R_has o t s μ = some (if 0 ≤ s ∧ s < hT T t then 1 else 0) := by
  have h1 := nT_le hV
  unfold f_R_has
  by_cases c1 : t < 0
  · rw [if_pos c1, hT_out (Or.inl c1), if_neg (by omega)]
  · rw [if_neg c1]
    by_cases c2 : t < 5
    · rw [if_pos c2]
      by_cases c3 : s < 0
      · rw [if_pos c3, if_neg (by omega)]
      · rw [if_neg c3, if_pos ⟨by omega, c2⟩, hR.2.2.1 t (by omega) c2]
        by_cases c4 : s < hT T t
        · rw [if_pos c4, if_pos ⟨by omega, c4⟩]
        · rw [if_neg c4, if_neg (by omega)]
    · rw [if_neg c2, hT_out (Or.inr (by omega)), if_neg (by omega)]
theorem R_hasI (hR : IsR μ o T) (hV : VT T) (h1 : 0 ≤ s) (h2 : s < hT T t) : f_R_has o t s μ = some 1 := by
  rw [R_has hR hV, if_pos ⟨h1, h2⟩]
theorem R_hasO (hR : IsR μ o T) (hV : VT T) (h : ¬ (0 ≤ s ∧ s < hT T t)) : f_R_has o t s μ = some 0 := by
  rw [R_has hR hV, if_neg h]
end RR
/-! whole numbers shared out -/
theorem zdiv_o {a b : Int} (h1 : 0 ≤ a) (h2 : a < 2147483648) (h3 : 0 < b) (h4 : b < 2147483648) : Int32.ofInt a / Int32.ofInt b = Int32.ofInt (a / b) := by
  have hq : 0 ≤ a / b := Int.ediv_nonneg h1 (by omega)
  have hq2 : a / b ≤ a := Int.ediv_le_self b h1
  apply Int32.toInt_inj.mp
  rw [Int32.toInt_div_of_ne_right _ _ (fun h => by
    have := congrArg Int32.toInt h
    rw [zrI_to (by unfold zrI; omega)] at this
    have e : (-1 : Int32).toInt = -1 := by decide
    omega), zrI_to (by unfold zrI; omega), zrI_to (by unfold zrI; omega), zrI_to (by unfold zrI; omega), Int.tdiv_eq_ediv_of_nonneg h1]
theorem zdiv_n {a b : Int} (h1 : 0 ≤ a) (h2 : a < 2147483648) (h3 : 0 < b) (h4 : b < 2147483648) : zdiv a b = a / b := by
  have hq : 0 ≤ a / b := Int.ediv_nonneg h1 (by omega)
  have hq2 : a / b ≤ a := Int.ediv_le_self b h1
  unfold zdiv
  rw [zdiv_o h1 h2 h3 h4, zrI_to (by unfold zrI; omega)]
theorem zrem_n {a b : Int} (h1 : 0 ≤ a) (h2 : a < 2147483648) (h3 : 0 < b) (h4 : b < 2147483648) : zrem a b = a % b := by
  unfold zrem
  rw [zdiv_o h1 h2 h3 h4, ← Int32.ofInt_mul, ← Int32.ofInt_sub, ← z32_eq]
  have e : a - a / b * b = a % b := by rw [Int.mul_comm]; have := Int.emod_add_mul_ediv a b; omega
  have h5 := Int.emod_nonneg a (show b ≠ 0 by omega)
  have h6 := Int.emod_lt_of_pos a h3
  rw [e]
  exact z32_id (by omega) (by omega)
theorem zldiv_o {a b : Int} (h1 : 0 ≤ a) (h2 : a < 9223372036854775808) (h3 : 0 < b) (h4 : b < 9223372036854775808) : Int64.ofInt a / Int64.ofInt b = Int64.ofInt (a / b) := by
  have hq : 0 ≤ a / b := Int.ediv_nonneg h1 (by omega)
  have hq2 : a / b ≤ a := Int.ediv_le_self b h1
  apply Int64.toInt_inj.mp
  rw [Int64.toInt_div_of_ne_right _ _ (fun h => by
    have := congrArg Int64.toInt h
    rw [zrJ_to (by unfold zrJ; omega)] at this
    have e : (-1 : Int64).toInt = -1 := by decide
    omega), zrJ_to (by unfold zrJ; omega), zrJ_to (by unfold zrJ; omega), zrJ_to (by unfold zrJ; omega), Int.tdiv_eq_ediv_of_nonneg h1]
theorem zldiv_n {a b : Int} (h1 : 0 ≤ a) (h2 : a < 9223372036854775808) (h3 : 0 < b) (h4 : b < 9223372036854775808) : zldiv a b = a / b := by
  have hq : 0 ≤ a / b := Int.ediv_nonneg h1 (by omega)
  have hq2 : a / b ≤ a := Int.ediv_le_self b h1
  unfold zldiv
  rw [zldiv_o h1 h2 h3 h4, zrJ_to (by unfold zrJ; omega)]
theorem zlrem_n {a b : Int} (h1 : 0 ≤ a) (h2 : a < 9223372036854775808) (h3 : 0 < b) (h4 : b < 9223372036854775808) : zlrem a b = a % b := by
  unfold zlrem
  rw [zldiv_o h1 h2 h3 h4, ← Int64.ofInt_mul, ← Int64.ofInt_sub, ← z64_eq]
  have e : a - a / b * b = a % b := by rw [Int.mul_comm]; have := Int.emod_add_mul_ediv a b; omega
  have h5 := Int.emod_nonneg a (show b ≠ 0 by omega)
  have h6 := Int.emod_lt_of_pos a h3
  rw [e]
  exact z64_id (by omega) (by omega)
section RR2
variable {μ : zM} {o : Nat} {T : zT} {t s k : Int}
theorem R_kindAt (hR : IsR μ o T) (hV : VT T) (h1 : 0 ≤ s) (h2 : s < hT T t) : f_R_kindAt o t s μ = some (cT T t s) := by
  have h3 := hT_pos (show 0 < hT T t by omega)
  have h4 := nT_le hV
  have h5 := hT_le hV t
  have h6 := cT_in hV h3.1 h1 h2
  unfold f_R_kindAt
  rw [R_hasI hR hV h1 h2, z_some_bind, if_neg (by omega), z32_id (z := t * 6) (by omega) (by omega), z32_id (z := t * 6 + s) (by omega) (by omega), if_pos (by omega), hR.2.2.2 t s (by omega) (by omega) (by omega) (by omega), if_pos h2, z32_id (by omega) (by omega), zdiv_n (by omega) (by omega) (by omega) (by omega)]
  congr 1
  omega
theorem R_borneAt (hR : IsR μ o T) (hV : VT T) (h1 : 0 ≤ s) (h2 : s < hT T t) : f_R_borneAt o t s μ = some (bT T t s) := by
  have h3 := hT_pos (show 0 < hT T t by omega)
  have h4 := nT_le hV
  have h5 := hT_le hV t
  have h6 := cT_in hV h3.1 h1 h2
  unfold f_R_borneAt
  rw [R_hasI hR hV h1 h2, z_some_bind, if_neg (by omega), z32_id (z := t * 6) (by omega) (by omega), z32_id (z := t * 6 + s) (by omega) (by omega), if_pos (by omega), hR.2.2.2 t s (by omega) (by omega) (by omega) (by omega), if_pos h2, z32_id (by omega) (by omega), zrem_n (by omega) (by omega) (by omega) (by omega)]
  congr 1
  omega
def lampsT (T : zT) (t s : Int) : Int := zsum (hT T t - (s + 1)).toNat (fun j => if cT T t (s + 1 + j) = 5 then 1 else 0)
theorem R_lampedAbove (hR : IsR μ o T) (hV : VT T) (h1 : 0 ≤ s) (h2 : s < hT T t) : f_R_lampedAbove o t s μ = some (lampsT T t s) := by
  have h5 := hT_le hV t
  refine zE_go (zE_for (fun k => (zsum k (fun j => if cT T t (s + 1 + j) = 5 then 1 else 0), s + 1 + k)) (hT T t - (s + 1)).toNat ?_ (fun k hk => ?_) ?_)
  · unfold e_R_lampedAbove
    simp (disch := omega) only [z32_id, zsum_0, Int.add_zero, Int.ofNat_zero, Int.natCast_zero]
  · have hz : zsum k (fun j => if cT T t (s + 1 + j) = 5 then 1 else 0) ≤ 1 * k := zsum_le (fun j _ => by split <;> omega)
    have hz0 : 0 ≤ zsum k (fun j => if cT T t (s + 1 + j) = 5 then 1 else 0) := zsum_nn (fun j _ => by split <;> omega)
    show b_R_lampedAbove_7 o t s _ _ μ = _
    unfold b_R_lampedAbove_7
    simp (disch := omega) only [R_heightOf hR hV, z_some_bind, if_pos, R_kindAt hR hV, z32_id, zsum_s]
    split <;> simp [Int.add_assoc]
  · show zE _ (b_R_lampedAbove_7 o t s _ _ μ) _
    unfold b_R_lampedAbove_7
    simp (disch := omega) only [R_heightOf hR hV, z_some_bind, if_neg]
    exact zE_ret
end RR2
