/-! RUNS with what holds at their ends -/
section ZX
variable {σ ρ : Type} {step : σ → Option (σ ⊕ ρ)} {x : Option (σ ⊕ ρ)} {P : ρ → Prop}
def zQ (step : σ → Option (σ ⊕ ρ)) (x : Option (σ ⊕ ρ)) (P : ρ → Prop) : Prop := ∃ r, zE step x r ∧ P r
theorem zQ_go (h : zQ step x P) : ∃ r, zgo step x = some r ∧ P r := by
  obtain ⟨r, h1, h2⟩ := h
  exact ⟨r, zE_go h1, h2⟩
theorem zQ_ret {r : ρ} (h : P r) : zQ step (some (.inr r)) P := ⟨r, zE_ret, h⟩
theorem zQ_step {s : σ} (h : zQ step (step s) P) : zQ step (some (.inl s)) P := by
  obtain ⟨r, h1, h2⟩ := h
  exact ⟨r, zE_step h1, h2⟩
theorem zQ_nest (I : Nat → σ → Prop) (n : Nat) {s0 : σ} (hx0 : x = some (.inl s0)) (h0 : I 0 s0) (hs : ∀ k s, k < n → I k s → (∀ t, I (k + 1) t → zQ step (some (.inl t)) P) → zQ step (step s) P) (hx : ∀ s, I n s → zQ step (step s) P) : zQ step x P := by
  rw [hx0]
  have key : ∀ d k s, k + d = n → I k s → zQ step (some (.inl s)) P := by
    intro d
    induction d with
    | zero => intro k s hk hi; have : k = n := by omega
              subst this; exact zQ_step (hx s hi)
    | succ d ih => intro k s hk hi; exact zQ_step (hs k s (by omega) hi (fun t ht => ih (k + 1) t (by omega) ht))
  exact key n 0 s0 (by omega) h0
theorem zQ_for (I : Nat → σ → Prop) (n : Nat) {s0 : σ} (hx0 : x = some (.inl s0)) (h0 : I 0 s0) (hs : ∀ k s, k < n → I k s → ∃ t, step s = some (.inl t) ∧ I (k + 1) t) (hx : ∀ s, I n s → zQ step (step s) P) : zQ step x P :=
  zQ_nest I n hx0 h0 (fun k s hk hi h => by
    obtain ⟨t, h1, h2⟩ := hs k s hk hi
    rw [h1]
    exact h t h2) hx
end ZX
/-! houses by their numbers -/
def twT (T : zT) (i : Int) : Int := zsum 5 (fun j => if numT T (j + 1) 0 ≤ i then 1 else 0)
def syT (T : zT) (i : Int) : Int := i - numT T (twT T i) 0
theorem zsum5_lt {t : Int} (h1 : 0 ≤ t) (h2 : t ≤ 5) : zsum 5 (fun j => if (j : Int) < t then 1 else 0) = t := by
  have : t = 0 ∨ t = 1 ∨ t = 2 ∨ t = 3 ∨ t = 4 ∨ t = 5 := by omega
  rcases this with rfl | rfl | rfl | rfl | rfl | rfl <;> rfl
theorem tw_num {T : zT} (hV : VT T) {t s : Int} (h1 : 0 ≤ s) (h2 : s < hT T t) : twT T (numT T t s) = t ∧ syT T (numT T t s) = s := by
  have h3 := hT_pos (show 0 < hT T t by omega)
  have h4 := nT_le hV
  have e : twT T (numT T t s) = t := by
    unfold twT
    rw [← zsum5_lt (t := t) h3.1 (by omega)]
    refine zsum_congr (fun j hj => ?_)
    rw [zsum5_lt h3.1 (by omega)]
    by_cases c : (j : Int) < t
    · have := numT_mono (T := T) (a := j + 1) (b := t) (by omega)
      rw [if_pos c, if_pos (by rw [numT_s (s := s)]; omega)]
    · have h5 := numT_mono (T := T) (a := t + 1) (b := j + 1) (by omega)
      rw [numT_next h3.1] at h5
      rw [numT_s] at h5
      rw [if_neg c, if_neg (by rw [numT_s (s := s)]; omega)]
  refine ⟨e, ?_⟩
  unfold syT
  rw [e, numT_s (s := s)]
  omega
theorem num_ex {T : zT} (hV : VT T) {i : Int} (h1 : 0 ≤ i) (h2 : i < tot T) : ∃ t s, 0 ≤ s ∧ s < hT T t ∧ numT T t s = i := by
  rw [← tot_num hV] at h2
  have key : ∀ n : Nat, i < numT T n 0 → ∃ t s, 0 ≤ s ∧ s < hT T t ∧ numT T t s = i := by
    intro n
    induction n with
    | zero => intro h; have : numT T ((0 : Nat) : Int) 0 = 0 := rfl
              omega
    | succ n ih =>
      intro h
      by_cases c : i < numT T n 0
      · exact ih c
      · have e := numT_next (T := T) (t := n) (by omega)
        rw [numT_s (s := hT T n)] at e
        refine ⟨n, i - numT T n 0, by omega, ?_, by rw [numT_s]; omega⟩
        have e3 : ((n + 1 : Nat) : Int) = (n : Int) + 1 := by omega
        rw [e3, e] at h
        omega
  exact key (nT T).toNat (by rw [show (((nT T).toNat : Nat) : Int) = nT T by have := nT_nn T; omega]; exact h2)
theorem num_tw {T : zT} (hV : VT T) {i : Int} (h1 : 0 ≤ i) (h2 : i < tot T) : 0 ≤ twT T i ∧ twT T i < nT T ∧ 0 ≤ syT T i ∧ syT T i < hT T (twT T i) ∧ numT T (twT T i) (syT T i) = i := by
  obtain ⟨t, s, h3, h4, rfl⟩ := num_ex hV h1 h2
  have h5 := hT_pos (show 0 < hT T t by omega)
  obtain ⟨e1, e2⟩ := tw_num hV h3 h4
  rw [e1, e2]
  exact ⟨h5.1, h5.2, h3, h4, rfl⟩
/-! lamps -/
def dueT (k : Int) : Int := if k = 4 then 0 else if k = 3 then 2 else 1
def shN (T : zT) (j h : Int) : Int := shT T (twT T j) (syT T j) h
def ckN (T : zT) (j : Int) : Int := cT T (twT T j) (syT T j)
/-- what i owes j by the first m hours -/
def lmF (T : zT) (i j : Int) (m : Nat) : Int := zsum m (fun h => if shN T j h = i then dueT (ckN T j) else 0)
def owF (T : zT) (j : Int) (m : Nat) : Int := zsum m (fun h => if shN T j h = -9 then 0 else dueT (ckN T j))
def lmT (T : zT) (i j : Int) : Int := if j < tot T then lmF T i j 5 else 0
theorem dueT_in (k : Int) : 0 ≤ dueT k ∧ dueT k ≤ 2 := by
  unfold dueT
  repeat' split
  all_goals omega
theorem lmF_in (T : zT) (i j : Int) (m : Nat) : 0 ≤ lmF T i j m ∧ lmF T i j m ≤ 2 * m := ⟨zsum_nn (fun h _ => by split <;> first | exact (dueT_in _).1 | omega), zsum_le (fun h _ => by have := dueT_in (ckN T j); split <;> omega)⟩
theorem owF_in (T : zT) (j : Int) (m : Nat) : 0 ≤ owF T j m ∧ owF T j m ≤ 2 * m := ⟨zsum_nn (fun h _ => by have := dueT_in (ckN T j); split <;> omega), zsum_le (fun h _ => by have := dueT_in (ckN T j); split <;> omega)⟩
theorem zsum_add (n : Nat) (f g : Nat → Int) : zsum n (fun k => f k + g k) = zsum n f + zsum n g := by
  induction n with
  | zero => rfl
  | succ n ih => rw [zsum_s, zsum_s, zsum_s, ih]; omega
theorem zsum_swap (n m : Nat) (f : Nat → Nat → Int) : zsum n (fun i => zsum m (fun j => f i j)) = zsum m (fun j => zsum n (fun i => f i j)) := by
  induction n with
  | zero =>
    rw [zsum_0]
    induction m with
    | zero => rfl
    | succ m ih => rw [zsum_s, ← ih]; rfl
  | succ n ih =>
    rw [zsum_s, ih, ← zsum_add]
    rfl
theorem zsum_one (n : Nat) (a : Int) (c : Int) : zsum n (fun i => if a = i then c else 0) = if 0 ≤ a ∧ a < n then c else 0 := by
  induction n with
  | zero => rw [zsum_0, if_neg (by omega)]
  | succ n ih =>
    rw [zsum_s, ih]
    by_cases c1 : a = n
    · rw [if_pos c1, if_neg (by omega), if_pos (by omega)]; omega
    · rw [if_neg c1]
      by_cases c2 : 0 ≤ a ∧ a < n
      · rw [if_pos c2, if_pos (by omega)]; omega
      · rw [if_neg c2, if_neg (by omega)]; omega
/-- all that a house is owed, by who owes -/
theorem lmF_sum {T : zT} (hV : VT T) (j : Int) (m : Nat) : zsum 12 (fun i => lmF T i j m) = owF T j m := by
  unfold lmF owF
  rw [zsum_swap]
  refine zsum_congr (fun h _ => ?_)
  rw [zsum_one]
  have h1 := shT_in hV (twT T j) (syT T j) h
  have h2 := tot_le hV
  unfold shN
  rcases h1 with e | e
  · rw [e]; rfl
  · rw [if_pos (by omega), if_neg (by omega)]
/-- the ledger, when the first n houses and m hours of the next are reckoned -/
def IsLp (μ : zM) (T : zT) (n m : Nat) : Prop :=
  μ 16 0 = tot T ∧ μ 16 1 = zsum n (fun j => owF T j 5) + owF T n m ∧
  (∀ i : Nat, i < n → μ 17 i = hoT T (twT T i) (syT T i) ∧ μ 18 i = lampsT T (twT T i) (syT T i)) ∧
  (∀ i : Nat, i < 12 → μ 19 i = zsum n (fun j => lmF T i j 5) + lmF T i n m) ∧
  (∀ j : Nat, j < 12 → μ 20 j = if j < n then owF T j 5 else if j = n then owF T j m else 0) ∧
  ∀ i j : Nat, i < 12 → j < 12 → μ 21 (12 * i + j) = if j < n then lmF T i j 5 else if j = n then lmF T i j m else 0
/-- nothing else is written -/
def zOut (μ ν : zM) (a b : Nat) : Prop := ∀ o, (o < a ∨ b < o) → ν o = μ o
theorem zst_at {μ : zM} {o k : Nat} {v : Int} : zst μ o k v o k = v := by unfold zst; rw [if_pos ⟨rfl, rfl⟩]
theorem zst_o {μ : zM} {o k p q : Nat} {v : Int} (h : p ≠ o ∨ q ≠ k) : zst μ o k v p q = μ p q := by unfold zst; rw [if_neg (fun z => h.elim (fun h => h z.1) (fun h => h z.2))]
theorem zst_out {μ ν : zM} {a b o k : Nat} {v : Int} (h : zOut μ ν a b) (h1 : a ≤ o) (h2 : o ≤ b) : zOut μ (zst ν o k v) a b := fun p hp => by
  rw [← h p hp]
  funext q
  exact zst_o (Or.inl (by omega))
theorem IsR_out {μ ν : zM} {o : Nat} {T : zT} {a b : Nat} (h : zOut μ ν a b) (ho : o + 2 < a ∨ b < o) (hR : IsR μ o T) : IsR ν o T := by
  unfold IsR at *
  rw [h o (by omega), h (o + 1) (by omega), h (o + 2) (by omega)]
  exact hR
theorem L_isNumber {μ : zM} {i : Int} {n : Int} (h : μ 16 0 = n) : f_L_isNumber i μ = if 0 ≤ i ∧ i < n then 1 else 0 := by
  unfold f_L_isNumber
  rw [h]
  repeat' split
  all_goals first | rfl | (exfalso; omega)
theorem L_lampsAnHour {k : Int} : f_L_lampsAnHour k = dueT k := rfl
theorem zsum_le' {n : Nat} {f : Nat → Int} {c : Int} (h : ∀ k, k < n → f k ≤ c) : zsum n f ≤ c * n := zsum_le h
theorem L_charge {μ : zM} {T : zT} (hV : VT T) {n m : Nat} (hL : IsLp μ T n m) (hn : (n : Int) < tot T) (hm : m < 5) (hs : 0 ≤ shN T n m ∧ shN T n m < tot T) : ∃ ν, f_L_charge (shN T n m) n (dueT (ckN T n)) μ = some ν ∧ IsLp ν T n (m + 1) ∧ zOut μ ν 16 22 ∧ ν 17 = μ 17 ∧ ν 18 = μ 18 := by
  have ht := tot_le hV
  obtain ⟨l0, l1, l2, l3, l4, l5⟩ := hL
  have hd := dueT_in (ckN T n)
  generalize hi : shN T n m = i at *
  generalize hdd : dueT (ckN T n) = d at *
  have b1 : 0 ≤ zsum n (fun j => owF T j 5) ∧ zsum n (fun j => owF T j 5) ≤ 10 * n := ⟨zsum_nn (fun j _ => (owF_in T j 5).1), zsum_le' (fun j _ => by have := (owF_in T j 5).2; omega)⟩
  have b2 := owF_in T n m
  have b3 : 0 ≤ zsum n (fun j => lmF T i j 5) ∧ zsum n (fun j => lmF T i j 5) ≤ 10 * n := ⟨zsum_nn (fun j _ => (lmF_in T i j 5).1), zsum_le' (fun j _ => by have := (lmF_in T i j 5).2; omega)⟩
  have b4 := lmF_in T i n m
  have e19 := l3 i.toNat (by omega)
  rw [show ((i.toNat : Nat) : Int) = i by omega] at e19
  have e20 := l4 n (by omega)
  rw [if_neg (by omega), if_pos rfl] at e20
  have e21 := l5 i.toNat n (by omega) (by omega)
  rw [if_neg (by omega), if_pos rfl, show ((i.toNat : Nat) : Int) = i by omega] at e21
  have hx : (i * 12 + (n : Int)).toNat = 12 * i.toNat + n := by omega
  have hn2 : ((n : Int)).toNat = n := by omega
  unfold f_L_charge
  rw [L_isNumber l0, if_pos (show 0 ≤ i ∧ i < tot T by omega), if_neg (by omega), L_isNumber l0, if_pos (show 0 ≤ (n : Int) ∧ (n : Int) < tot T by omega), if_neg (by omega), z32_id (z := i * 12) (by omega) (by omega), z32_id (z := i * 12 + (n : Int)) (by omega) (by omega), if_pos (by omega), if_pos (by omega), if_pos (by omega), if_pos (by omega), if_pos (by omega), if_pos (by omega), hx, hn2]
  rw [zst_o (p := 16) (Or.inl (by omega)), zst_o (p := 16) (Or.inl (by omega)), zst_o (p := 16) (Or.inl (by omega)), zst_o (p := 20) (Or.inl (by omega)), zst_o (p := 20) (Or.inl (by omega)), zst_o (p := 19) (Or.inl (by omega)), l1, e19, e20, e21]
  rw [z32_id (z := lmF T i n m + d) (by omega) (by omega), z32_id (z := owF T n m + d) (by omega) (by omega), z32_id (z := zsum n (fun j => lmF T i j 5) + lmF T i n m + d) (by omega) (by omega), z32_id (z := zsum n (fun j => owF T j 5) + owF T n m + d) (by omega) (by omega)]
  have so : owF T n (m + 1) = owF T n m + d := by
    unfold owF
    rw [zsum_s]
    congr 1
    rw [hi, if_neg (by omega), hdd]
  have sl : ∀ q : Int, lmF T q n (m + 1) = lmF T q n m + if q = i then d else 0 := fun q => by
    unfold lmF
    rw [zsum_s]
    congr 1
    rw [hi, hdd]
    by_cases c : q = i
    · rw [if_pos c.symm, if_pos c]
    · rw [if_neg (fun z => c z.symm), if_neg c]
  refine ⟨_, rfl, ⟨?_, ?_, ?_, ?_, ?_, ?_⟩, ?_, ?_, ?_⟩
  · rw [zst_o (by omega), zst_o (by omega), zst_o (by omega), zst_o (by omega)]; exact l0
  · rw [zst_at, so]; omega
  · intro q hq
    rw [zst_o (by omega), zst_o (by omega), zst_o (by omega), zst_o (by omega), zst_o (by omega), zst_o (by omega), zst_o (by omega), zst_o (by omega)]
    exact l2 q hq
  · intro q hq
    rw [zst_o (by omega), zst_o (by omega), sl]
    by_cases c : q = i.toNat
    · subst c
      rw [zst_at, if_pos (by omega), show ((i.toNat : Nat) : Int) = i by omega]; omega
    · rw [zst_o (Or.inr c), zst_o (by omega), l3 q hq, if_neg (by omega)]; omega
  · intro j hj
    rw [zst_o (by omega)]
    by_cases c : j = n
    · subst c
      rw [zst_at, if_neg (by omega), if_pos rfl, so]
    · rw [zst_o (Or.inr c), zst_o (by omega), zst_o (by omega), l4 j hj, if_neg c, if_neg c]
  · intro q j hq hj
    rw [zst_o (by omega), zst_o (by omega), zst_o (by omega)]
    by_cases c : 12 * q + j = 12 * i.toNat + n
    · have c1 : q = i.toNat := by omega
      have c2 : j = n := by omega
      subst c1
      subst c2
      rw [zst_at, if_neg (by omega), if_pos rfl, sl, if_pos (by omega), show ((i.toNat : Nat) : Int) = i by omega]
    · rw [zst_o (Or.inr c), l5 q j hq hj]
      by_cases c2 : j = n
      · subst c2
        rw [if_neg (by omega), if_pos rfl, if_neg (by omega), if_pos rfl, sl, if_neg (by omega)]; omega
      · by_cases c3 : j < n
        · rw [if_pos c3, if_pos c3]
        · rw [if_neg c3, if_neg c3, if_neg c2, if_neg c2]
  · exact zst_out (zst_out (zst_out (zst_out (fun _ _ => rfl) (by omega) (by omega)) (by omega) (by omega)) (by omega) (by omega)) (by omega) (by omega)
  · rw [zst_ne _ (by omega), zst_ne _ (by omega), zst_ne _ (by omega), zst_ne _ (by omega)]
  · rw [zst_ne _ (by omega), zst_ne _ (by omega), zst_ne _ (by omega), zst_ne _ (by omega)]
