/-! NUMBERS: Java's ints and longs as whole numbers; what a run answers -/
def z32 (z : Int) : Int := (z + 2147483648) % 4294967296 - 2147483648
def z64 (z : Int) : Int := (z + 9223372036854775808) % 18446744073709551616 - 9223372036854775808
def zrI (z : Int) : Prop := -2147483648 ≤ z ∧ z < 2147483648
def zrJ (z : Int) : Prop := -9223372036854775808 ≤ z ∧ z < 9223372036854775808
theorem z32_r (z : Int) : zrI (z32 z) := by unfold zrI z32; omega
theorem z64_r (z : Int) : zrJ (z64 z) := by unfold zrJ z64; omega
theorem z32_id {z : Int} (h1 : -2147483648 ≤ z) (h2 : z < 2147483648) : z32 z = z := by unfold z32; omega
theorem z64_id {z : Int} (h1 : -9223372036854775808 ≤ z) (h2 : z < 9223372036854775808) : z64 z = z := by unfold z64; omega
theorem zrI_J {z : Int} (h : zrI z) : zrJ z := by unfold zrI at h; unfold zrJ; omega
theorem z32_bmod (z : Int) : z32 z = z.bmod 4294967296 := by
  show (z + 2147483648) % 4294967296 - 2147483648 = if z % 4294967296 < (4294967296 + 1) / 2 then z % 4294967296 else z % 4294967296 - 4294967296
  split <;> omega
theorem z64_bmod (z : Int) : z64 z = z.bmod 18446744073709551616 := by
  show (z + 9223372036854775808) % 18446744073709551616 - 9223372036854775808 = if z % 18446744073709551616 < (18446744073709551616 + 1) / 2 then z % 18446744073709551616 else z % 18446744073709551616 - 18446744073709551616
  split <;> omega
theorem z32_eq (z : Int) : z32 z = (Int32.ofInt z).toInt := by rw [Int32.toInt_ofInt, z32_bmod]
theorem z64_eq (z : Int) : z64 z = (Int64.ofInt z).toInt := by rw [Int64.toInt_ofInt, z64_bmod]
theorem z32_of (z : Int) : Int32.ofInt (z32 z) = Int32.ofInt z := by rw [z32_eq, Int32.ofInt_toInt]
theorem z64_of (z : Int) : Int64.ofInt (z64 z) = Int64.ofInt z := by rw [z64_eq, Int64.ofInt_toInt]
theorem zrI_to {z : Int} (h : zrI z) : (Int32.ofInt z).toInt = z := by rw [← z32_eq]; exact z32_id h.1 h.2
theorem zrJ_to {z : Int} (h : zrJ z) : (Int64.ofInt z).toInt = z := by rw [← z64_eq]; exact z64_id h.1 h.2
theorem zr_toInt (x : Int32) : zrI x.toInt := by
  have h := z32_r x.toInt
  rw [z32_eq, Int32.ofInt_toInt] at h
  exact h
theorem zr_toLong (x : Int64) : zrJ x.toInt := by
  have h := z64_r x.toInt
  rw [z64_eq, Int64.ofInt_toInt] at h
  exact h
theorem z_lt {a b : Int} (ha : zrI a) (hb : zrI b) : Int32.ofInt a < Int32.ofInt b ↔ a < b := by rw [Int32.lt_iff_toInt_lt, zrI_to ha, zrI_to hb]
theorem z_le {a b : Int} (ha : zrI a) (hb : zrI b) : Int32.ofInt a ≤ Int32.ofInt b ↔ a ≤ b := by rw [Int32.le_iff_toInt_le, zrI_to ha, zrI_to hb]
theorem z_inj {a b : Int} (ha : zrI a) (hb : zrI b) : Int32.ofInt a = Int32.ofInt b ↔ a = b := ⟨fun h => by rw [← zrI_to ha, ← zrI_to hb, h], fun h => by rw [h]⟩
theorem zl_lt {a b : Int} (ha : zrJ a) (hb : zrJ b) : Int64.ofInt a < Int64.ofInt b ↔ a < b := by rw [Int64.lt_iff_toInt_lt, zrJ_to ha, zrJ_to hb]
theorem zl_inj {a b : Int} (ha : zrJ a) (hb : zrJ b) : Int64.ofInt a = Int64.ofInt b ↔ a = b := ⟨fun h => by rw [← zrJ_to ha, ← zrJ_to hb, h], fun h => by rw [h]⟩
theorem z_nat {a : Int} (ha : zrI a) : (Int32.ofInt a).toNatClampNeg = a.toNat := by
  show (Int32.ofInt a).toInt.toNat = _
  rw [zrI_to ha]
theorem z_ofNat (n : Nat) : Int32.ofNat n = Int32.ofInt n := by
  first | rfl | simp [Int32.ofInt_eq_ofNat] | exact (Int32.ofInt_natCast n).symm
/-- the binary things, by the machine's own -/
def zand (a b : Int) : Int := (Int32.ofInt a &&& Int32.ofInt b).toInt
def zor (a b : Int) : Int := (Int32.ofInt a ||| Int32.ofInt b).toInt
def zxor (a b : Int) : Int := (Int32.ofInt a ^^^ Int32.ofInt b).toInt
def zshl (a b : Int) : Int := (Int32.ofInt a <<< (Int32.ofInt b &&& 31)).toInt
def zshr (a b : Int) : Int := (Int32.ofInt a >>> (Int32.ofInt b &&& 31)).toInt
def zdiv (a b : Int) : Int := (Int32.ofInt a / Int32.ofInt b).toInt
def zrem (a b : Int) : Int := (Int32.ofInt a - Int32.ofInt a / Int32.ofInt b * Int32.ofInt b).toInt
def zldiv (a b : Int) : Int := (Int64.ofInt a / Int64.ofInt b).toInt
def zlrem (a b : Int) : Int := (Int64.ofInt a - Int64.ofInt a / Int64.ofInt b * Int64.ofInt b).toInt
def zlcmp (a b : Int) : Int := if b < a then 1 else if a = b then 0 else -1
def zi2b (a : Int) : Int := (Int32.ofInt a).toInt8.toInt32.toInt
theorem zlcmp_c {a b : Int} (ha : zrJ a) (hb : zrJ b) : Int32.ofInt (zlcmp a b) = lg_cmp (Int64.ofInt a) (Int64.ofInt b) := by
  unfold zlcmp lg_cmp
  by_cases h1 : b < a
  · rw [if_pos h1, if_pos (show Int64.ofInt a > Int64.ofInt b from (zl_lt hb ha).mpr h1)]; rfl
  · rw [if_neg h1, if_neg (show ¬ Int64.ofInt a > Int64.ofInt b from fun h => h1 ((zl_lt hb ha).mp h))]
    by_cases h2 : a = b
    · rw [if_pos h2, if_pos ((zl_inj ha hb).mpr h2)]; rfl
    · rw [if_neg h2, if_neg (fun h => h2 ((zl_inj ha hb).mp h))]; rfl
theorem zlcmp_r (a b : Int) : zrI (zlcmp a b) := by
  unfold zlcmp zrI
  split
  · omega
  · split <;> omega
theorem zlcmp_le (a b : Int) : (0 < zlcmp a b) ↔ b < a := by
  unfold zlcmp
  by_cases h1 : b < a
  · simp [h1]
  · by_cases h2 : a = b <;> simp [h1, h2]
theorem zlcmp_lt (a b : Int) : (zlcmp a b < 0) ↔ a < b := by
  unfold zlcmp
  by_cases h1 : b < a
  · rw [if_pos h1]; omega
  · rw [if_neg h1]
    by_cases h2 : a = b
    · rw [if_pos h2]; omega
    · rw [if_neg h2]; omega
theorem zlcmp_eq (a b : Int) : (zlcmp a b = 0) ↔ a = b := by
  unfold zlcmp
  by_cases h1 : b < a
  · rw [if_pos h1]; omega
  · rw [if_neg h1]
    by_cases h2 : a = b
    · rw [if_pos h2]; omega
    · rw [if_neg h2]; omega
/-! RUNS: a step goes on (inl) or answers (inr) -/
section ZRUN
variable {σ ρ : Type}
def zrun (step : σ → Option (σ ⊕ ρ)) : Nat → σ → Option ρ
  | 0, _ => none
  | n + 1, s => match step s with
    | none => none
    | some (.inl t) => zrun step n t
    | some (.inr r) => some r
theorem zrun_succ (step : σ → Option (σ ⊕ ρ)) (n : Nat) (s : σ) : zrun step (n + 1) s = match step s with
    | none => none
    | some (.inl t) => zrun step n t
    | some (.inr r) => some r := rfl
theorem zrun_det {step : σ → Option (σ ⊕ ρ)} : ∀ {n k : Nat} {s : σ} {r q : ρ}, zrun step n s = some r → zrun step k s = some q → r = q := by
  intro n
  induction n with
  | zero => intro k s r q h; cases h
  | succ n ih =>
    intro k s r q h1 h2
    cases k with
    | zero => cases h2
    | succ k =>
      rw [zrun_succ] at h1 h2
      cases hs : step s with
      | none => rw [hs] at h1; cases h1
      | some x =>
        rw [hs] at h1 h2
        cases x with
        | inl t => exact ih h1 h2
        | inr z => exact Option.some.inj (h1.symm.trans h2)
noncomputable def zlim (g : Nat → Option ρ) : Option ρ := @dite (Option ρ) (∃ r, ∃ n, g n = some r) (Classical.propDecidable _) (fun h => some h.choose) (fun _ => none)
noncomputable def zgo (step : σ → Option (σ ⊕ ρ)) (x : Option (σ ⊕ ρ)) : Option ρ := match x with
  | none => none
  | some (.inl s) => zlim fun n => zrun step n s
  | some (.inr r) => some r
/-- from x the run comes to its answer r -/
def zE (step : σ → Option (σ ⊕ ρ)) (x : Option (σ ⊕ ρ)) (r : ρ) : Prop := match x with
  | none => False
  | some (.inl s) => ∃ n, zrun step n s = some r
  | some (.inr q) => q = r
theorem zlim_some {g : Nat → Option ρ} {r : ρ} (h : zlim g = some r) : ∃ n, g n = some r := by
  unfold zlim at h
  split at h
  · rename_i hx
    obtain ⟨n, hn⟩ := hx.choose_spec
    exact ⟨n, by rw [hn, Option.some.inj h]⟩
  · cases h
theorem zlim_of {step : σ → Option (σ ⊕ ρ)} {s : σ} {n : Nat} {r : ρ} (h : zrun step n s = some r) : zlim (fun n => zrun step n s) = some r := by
  unfold zlim
  have hx : ∃ r, ∃ n, zrun step n s = some r := ⟨r, n, h⟩
  rw [dif_pos hx]
  obtain ⟨k, hk⟩ := hx.choose_spec
  rw [zrun_det hk h]
theorem zE_go {step : σ → Option (σ ⊕ ρ)} {x : Option (σ ⊕ ρ)} {r : ρ} (h : zE step x r) : zgo step x = some r := by
  cases x with
  | none => exact h.elim
  | some y => cases y with
    | inl s => obtain ⟨n, hn⟩ := h; exact zlim_of hn
    | inr q => exact congrArg some h
theorem zgo_E {step : σ → Option (σ ⊕ ρ)} {x : Option (σ ⊕ ρ)} {r : ρ} (h : zgo step x = some r) : zE step x r := by
  cases x with
  | none => cases h
  | some y => cases y with
    | inl s => exact zlim_some h
    | inr q => exact Option.some.inj h
theorem zE_ret {step : σ → Option (σ ⊕ ρ)} {r : ρ} : zE step (some (.inr r)) r := rfl
theorem zE_step {step : σ → Option (σ ⊕ ρ)} {s : σ} {r : ρ} (h : zE step (step s) r) : zE step (some (.inl s)) r := by
  cases hs : step s with
  | none => rw [hs] at h; exact h.elim
  | some y =>
    rw [hs] at h
    cases y with
    | inl t => obtain ⟨n, hn⟩ := h; exact ⟨n + 1, by rw [zrun_succ, hs]; exact hn⟩
    | inr q => exact ⟨1, by rw [zrun_succ, hs]; exact congrArg some h⟩
theorem zE_next {step : σ → Option (σ ⊕ ρ)} {s t : σ} {r : ρ} (hs : step s = some (.inl t)) (h : zE step (some (.inl t)) r) : zE step (some (.inl s)) r := zE_step (by rw [hs]; exact h)
/-- a loop that counts up: f k is the state ahead of the k-th time -/
theorem zE_up {step : σ → Option (σ ⊕ ρ)} {r : ρ} (f : Nat → σ) (n : Nat) (hs : ∀ k, k < n → step (f k) = some (.inl (f (k + 1)))) (h : zE step (step (f n)) r) : zE step (some (.inl (f 0))) r := by
  have key : ∀ d k, k + d = n → zE step (some (.inl (f k))) r := by
    intro d
    induction d with
    | zero => intro k hk; have : k = n := by omega
              subst this; exact zE_step h
    | succ d ih => intro k hk; exact zE_next (hs k (by omega)) (ih (k + 1) (by omega))
  exact key n 0 (by omega)
/-- a loop that counts up, by what holds -/
theorem zE_inv {step : σ → Option (σ ⊕ ρ)} {r : ρ} (I : Nat → σ → Prop) (n : Nat) {s0 : σ} (h0 : I 0 s0) (hs : ∀ k s, k < n → I k s → ∃ t, step s = some (.inl t) ∧ I (k + 1) t) (h : ∀ s, I n s → zE step (step s) r) : zE step (some (.inl s0)) r := by
  have key : ∀ d k s, k + d = n → I k s → zE step (some (.inl s)) r := by
    intro d
    induction d with
    | zero => intro k s hk hi; have : k = n := by omega
              subst this; exact zE_step (h s hi)
    | succ d ih => intro k s hk hi; obtain ⟨t, ht, hi2⟩ := hs k s (by omega) hi; exact zE_next ht (ih (k + 1) t (by omega) hi2)
  exact key n 0 s0 (by omega) h0
/-- what holds of the outcome that is there -/
def zP {τ : Type} (F : τ → Prop) : Option τ → Prop
  | none => False
  | some v => F v
theorem zP_bind {τ α : Type} {F : τ → Prop} {x : Option α} {f : α → Option τ} {P : Prop} (h : zP F (x.bind f)) (k : ∀ v, x = some v → zP F (f v) → P) : P := by
  cases x with
  | none => exact h.elim
  | some v => exact k v rfl h
theorem zP_if {τ : Type} {F : τ → Prop} {c : Prop} [Decidable c] {x : Option τ} {P : Prop} (h : zP F (if c then x else none)) (k : c → zP F x → P) : P := by
  by_cases hc : c
  · rw [if_pos hc] at h; exact k hc h
  · rw [if_neg hc] at h; exact h.elim
theorem zP_of {τ : Type} {F : τ → Prop} {x : Option τ} {v : τ} (h : x = some v) (hv : F v) : zP F x := by rw [h]; exact hv
/-- from the steps' own walks to the whole run's -/
theorem zrun_K {step : σ → Option (σ ⊕ ρ)} {K : σ → Prop} {F : ρ → Prop} (hstep : ∀ s, zP (Sum.elim K F) (step s) → K s) {r : ρ} (hF : F r) : ∀ (n : Nat) (s : σ), zrun step n s = some r → K s := by
  intro n
  induction n with
  | zero => intro s h; cases h
  | succ n ih =>
    intro s h
    rw [zrun_succ] at h
    refine hstep s ?_
    cases hs : step s with
    | none => rw [hs] at h; cases h
    | some y =>
      rw [hs] at h
      cases y with
      | inl t => exact ih t h
      | inr q => rw [Option.some.inj h]; exact hF
theorem zgo_K {step : σ → Option (σ ⊕ ρ)} {K : σ → Prop} {F : ρ → Prop} (hstep : ∀ s, zP (Sum.elim K F) (step s) → K s) {x : Option (σ ⊕ ρ)} {r : ρ} (hF : F r) (h : zgo step x = some r) : zP (Sum.elim K F) x := by
  cases x with
  | none => cases h
  | some y => cases y with
    | inl s => obtain ⟨n, hn⟩ := zlim_some h; exact zrun_K hstep hF n s hn
    | inr q => rw [show q = r from Option.some.inj h]; exact hF
end ZRUN
