/-! settle: into how many groups that come to 0; the debts that are 0 are groups of their own -/
def zmn (p : Nat → Bool) (j : Nat) : Nat → Bool := fun i => p i && !decide (i = j)
def zps (p : Nat → Bool) (f : Nat → Int) (n : Nat) : Int := zsum n (fun i => if p i then f i else 0)
theorem zps_s (p : Nat → Bool) (f : Nat → Int) (n : Nat) : zps p f (n + 1) = zps p f n + if p n then f n else 0 := rfl
theorem ctN_zps (p : Nat → Bool) (n : Nat) : ctN p n = zps p (fun _ => 1) n := rfl
theorem zps_mn (p : Nat → Bool) (f : Nat → Int) (j : Nat) : ∀ n : Nat, zps (zmn p j) f n = zps p f n - if j < n ∧ p j = true then f j else 0
  | 0 => by rw [if_neg (by omega)]; rfl
  | n + 1 => by
    rw [zps_s, zps_s, zps_mn p f j n]
    by_cases c : j = n
    · subst c
      have e : zmn p j j = false := by unfold zmn; simp
      rw [e, if_neg (show ¬ (j < j ∧ p j = true) by omega), if_neg (by simp)]
      by_cases d : p j = true
      · rw [if_pos d, if_pos ⟨by omega, d⟩]; omega
      · rw [if_neg d, if_neg (fun z => d z.2)]; omega
    · have e : zmn p j n = p n := by unfold zmn; simp; intro _ h; exact c h.symm
      rw [e]
      by_cases d : j < n ∧ p j = true
      · rw [if_pos d, if_pos (show j < n + 1 ∧ p j = true from ⟨by omega, d.2⟩)]; omega
      · rw [if_neg d, if_neg (show ¬ (j < n + 1 ∧ p j = true) from fun z => d ⟨by omega, z.2⟩)]; omega
theorem ctN_mn (p : Nat → Bool) {j n : Nat} (hj : j < n) (h : p j = true) : ctN (zmn p j) n = ctN p n - 1 := by
  rw [ctN_zps, zps_mn, if_pos ⟨hj, h⟩]; rfl
theorem ctN_of {p : Nat → Bool} {n : Nat} (h : ∀ m, m < n → p m = false) : ctN p n = 0 := by
  unfold ctN
  rw [zsum_congr (g := fun _ => 0) (fun k hk => by rw [h k hk]; rfl)]
  exact zsum_tail (k := 0) (fun _ _ => rfl) (by omega)
theorem zps_of {p : Nat → Bool} {f : Nat → Int} {n : Nat} (h : ∀ m, m < n → p m = false) : zps p f n = 0 := by
  unfold zps
  rw [zsum_congr (g := fun _ => 0) (fun k hk => by rw [h k hk]; rfl)]
  exact zsum_tail (k := 0) (fun _ _ => rfl) (by omega)
theorem ctN_ex {p : Nat → Bool} {n : Nat} (h : ctN p n ≠ 0) : ∃ m, m < n ∧ p m = true := by
  rcases z_first (fun m => p m = false) n with g | ⟨m, g1, _, g3⟩
  · exact absurd (ctN_of g) h
  · exact ⟨m, g1, by simpa using g3⟩
def mxF (p : Nat → Bool) (h : Nat → Int) : Nat → Int
  | 0 => 0
  | i + 1 => if p i then max (mxF p h i) (h i) else mxF p h i
theorem mxF_s (p : Nat → Bool) (h : Nat → Int) (i : Nat) : mxF p h (i + 1) = if p i then max (mxF p h i) (h i) else mxF p h i := rfl
theorem mxF_nn (p : Nat → Bool) (h : Nat → Int) : ∀ n, 0 ≤ mxF p h n
  | 0 => Int.le_refl _
  | n + 1 => by
    have := mxF_nn p h n
    rw [mxF_s]
    split <;> omega
theorem mxF_ge (p : Nat → Bool) (h : Nat → Int) : ∀ (n i : Nat), i < n → p i = true → h i ≤ mxF p h n
  | n + 1, i, hi, hp => by
    rw [mxF_s]
    by_cases c : i = n
    · subst c; rw [if_pos hp]; omega
    · have := mxF_ge p h n i (by omega) hp
      split <;> omega
theorem mxF_le {p : Nat → Bool} {h : Nat → Int} {B : Int} (hB : 0 ≤ B) : ∀ n : Nat, (∀ i, i < n → p i = true → h i ≤ B) → mxF p h n ≤ B
  | 0, _ => hB
  | n + 1, g => by
    have ih := mxF_le hB n (fun i hi hp => g i (by omega) hp)
    rw [mxF_s]
    by_cases c : p n = true
    · have := g n (by omega) c
      rw [if_pos c]; omega
    · rw [if_neg c]; exact ih
theorem mxF_ex (p : Nat → Bool) (h : Nat → Int) : ∀ n : Nat, mxF p h n = 0 ∨ ∃ i, i < n ∧ p i = true ∧ mxF p h n = h i
  | 0 => Or.inl rfl
  | n + 1 => by
    rw [mxF_s]
    by_cases c : p n = true
    · rw [if_pos c]
      by_cases d : mxF p h n ≤ h n
      · exact Or.inr ⟨n, by omega, c, by omega⟩
      · rcases mxF_ex p h n with q | ⟨i, q1, q2, q3⟩
        · left; omega
        · right; exact ⟨i, by omega, q2, by omega⟩
    · rw [if_neg c]
      rcases mxF_ex p h n with q | ⟨i, q1, q2, q3⟩
      · exact Or.inl q
      · exact Or.inr ⟨i, by omega, q2, q3⟩
theorem mxF_congr {p : Nat → Bool} {g h : Nat → Int} : ∀ n : Nat, (∀ i, i < n → p i = true → g i = h i) → mxF p g n = mxF p h n
  | 0, _ => rfl
  | n + 1, e => by
    rw [mxF_s, mxF_s, mxF_congr n (fun i hi hp => e i (by omega) hp)]
    by_cases c : p n = true
    · rw [if_pos c, if_pos c, e n (by omega) c]
    · rw [if_neg c, if_neg c]
def wsG (f : Nat → Int) (n : Nat) : Nat → (Nat → Bool) → Int
  | 0, _ => 0
  | k + 1, p => mxF p (fun i => wsG f n k (zmn p i)) n + if zps p f n = 0 then 1 else 0
def wsW (f : Nat → Int) (n : Nat) (p : Nat → Bool) : Int := wsG f n (ctN p n).toNat p
theorem wsG_in (f : Nat → Int) (n : Nat) : ∀ (k : Nat) (p : Nat → Bool), 0 ≤ wsG f n k p ∧ wsG f n k p ≤ k
  | 0, _ => ⟨Int.le_refl _, Int.le_refl _⟩
  | k + 1, p => by
    have h1 := mxF_nn p (fun i => wsG f n k (zmn p i)) n
    have h2 := mxF_le (p := p) (h := fun i => wsG f n k (zmn p i)) (B := (k : Int)) (by omega) n (fun i _ _ => (wsG_in f n k (zmn p i)).2)
    have e : wsG f n (k + 1) p = mxF p (fun i => wsG f n k (zmn p i)) n + if zps p f n = 0 then 1 else 0 := rfl
    rw [e]
    split <;> omega
theorem wsW_in (f : Nat → Int) (n : Nat) (p : Nat → Bool) : 0 ≤ wsW f n p ∧ wsW f n p ≤ ctN p n := by
  have h1 := wsG_in f n (ctN p n).toNat p
  have h2 := ctN_in p n
  unfold wsW; omega
theorem wsW_0 {f : Nat → Int} {n : Nat} {p : Nat → Bool} (h : ctN p n = 0) : wsW f n p = 0 := by
  unfold wsW; rw [h]; rfl
theorem wsW_s {f : Nat → Int} {n : Nat} {p : Nat → Bool} (h : ctN p n ≠ 0) : wsW f n p = mxF p (fun i => wsW f n (zmn p i)) n + if zps p f n = 0 then 1 else 0 := by
  have hc := ctN_in p n
  obtain ⟨k, hk⟩ : ∃ k, (ctN p n).toNat = k + 1 := ⟨(ctN p n).toNat - 1, by omega⟩
  have e : wsW f n p = mxF p (fun i => wsG f n k (zmn p i)) n + if zps p f n = 0 then 1 else 0 := by
    unfold wsW; rw [hk]; rfl
  rw [e]
  congr 1
  refine mxF_congr n (fun i hi hp => ?_)
  unfold wsW
  rw [ctN_mn p hi hp, show (ctN p n - 1).toNat = k by omega]
/-! where the debts that aren't 0 stand -/
def cnz (e : Nat → Int) : Nat → Nat
  | 0 => 0
  | j + 1 => if e j = 0 then cnz e j else cnz e j + 1
theorem cnz_s (e : Nat → Int) (j : Nat) : cnz e (j + 1) = if e j = 0 then cnz e j else cnz e j + 1 := rfl
theorem cnz_mono (e : Nat → Int) {i : Nat} : ∀ d : Nat, cnz e i ≤ cnz e (i + d)
  | 0 => Nat.le_refl _
  | d + 1 => by
    have := cnz_mono e (i := i) d
    rw [← Nat.add_assoc, cnz_s]
    split <;> omega
theorem cnz_lt {e : Nat → Int} {i j : Nat} (h : i < j) (hi : e i ≠ 0) : cnz e i < cnz e j := by
  have h1 := cnz_mono e (i := i + 1) (j - (i + 1))
  rw [show i + 1 + (j - (i + 1)) = j by omega, cnz_s, if_neg hi] at h1
  omega
theorem cnz_inj {e : Nat → Int} {i j : Nat} (hi : e i ≠ 0) (hj : e j ≠ 0) (h : cnz e i = cnz e j) : i = j := by
  rcases Nat.lt_trichotomy i j with g | g | g
  · have := cnz_lt g hi; omega
  · exact g
  · have := cnz_lt g hj; omega
theorem cnz_sur (e : Nat → Int) : ∀ (n k : Nat), k < cnz e n → ∃ j, j < n ∧ e j ≠ 0 ∧ cnz e j = k
  | n + 1, k, h => by
    rw [cnz_s] at h
    by_cases c : e n = 0
    · rw [if_pos c] at h
      obtain ⟨j, h1, h2⟩ := cnz_sur e n k h
      exact ⟨j, by omega, h2⟩
    · rw [if_neg c] at h
      by_cases d : k < cnz e n
      · obtain ⟨j, h1, h2⟩ := cnz_sur e n k d
        exact ⟨j, by omega, h2⟩
      · exact ⟨n, by omega, c, by omega⟩
theorem cnz_le (e : Nat → Int) : ∀ n, cnz e n ≤ n
  | 0 => Nat.le_refl _
  | n + 1 => by
    have := cnz_le e n
    rw [cnz_s]
    split <;> omega
theorem cnz_ct (e : Nat → Int) : ∀ n : Nat, ctN (fun j => decide (e j = 0)) n = (n : Int) - cnz e n
  | 0 => rfl
  | n + 1 => by
    have ih := cnz_ct e n
    rw [ctN_zps] at ih ⊢
    rw [zps_s, ih, cnz_s]
    by_cases c : e n = 0
    · rw [if_pos c, if_pos (decide_eq_true c)]; omega
    · rw [if_neg c, if_neg (by simpa using c)]; omega
theorem zps_cn {e d : Nat → Int} {p q : Nat → Bool} : ∀ n : Nat, (∀ j, j < n → e j ≠ 0 → d (cnz e j) = e j) → (∀ j, j < n → e j ≠ 0 → p (cnz e j) = q j) → zps p d (cnz e n) = zps q e n
  | 0, _, _ => rfl
  | n + 1, hd, hp => by
    have ih := zps_cn n (fun j hj => hd j (by omega)) (fun j hj => hp j (by omega))
    rw [cnz_s, zps_s]
    by_cases c : e n = 0
    · rw [if_pos c, ih, c]; split <;> omega
    · rw [if_neg c, zps_s, ih, hd n (by omega) c, hp n (by omega) c]
theorem ws_main {e d : Nat → Int} {n : Nat} (hd : ∀ j, j < n → e j ≠ 0 → d (cnz e j) = e j) : ∀ (k : Nat) (p q : Nat → Bool), ctN q n = k → (∀ j, j < n → e j ≠ 0 → p (cnz e j) = q j) → wsW e n q = wsW d (cnz e n) p + ctN (fun j => q j && decide (e j = 0)) n := by
  intro k
  induction k with
  | zero =>
    intro p q hk hp
    have hq := ctN_0 q n hk
    have hpf : ctN p (cnz e n) = 0 := ctN_of (fun i hi => by
      obtain ⟨j, h1, h2, h3⟩ := cnz_sur e n i hi
      rw [← h3, hp j h1 h2, hq j h1])
    rw [wsW_0 hk, wsW_0 hpf, ctN_of (p := fun j => q j && decide (e j = 0)) (fun m hm => by rw [hq m hm]; rfl)]; rfl
  | succ k ih =>
    intro p q hk hp
    have hsum := zps_cn n hd hp
    have ct0 : ctN q n ≠ 0 := by omega
    have Zin := ctN_in (fun j => q j && decide (e j = 0)) n
    have ihN : ∀ j, j < n → q j = true → e j ≠ 0 → wsW e n (zmn q j) = wsW d (cnz e n) (zmn p (cnz e j)) + ctN (fun j => q j && decide (e j = 0)) n := fun j hj hq he => by
      rw [ih (zmn p (cnz e j)) (zmn q j) (by rw [ctN_mn q hj hq]; omega) (fun i hi hei => by
        unfold zmn
        rw [hp i hi hei]
        by_cases c : i = j
        · subst c; simp
        · have : ¬ cnz e i = cnz e j := fun z => c (cnz_inj hei he z)
          simp [c, this])]
      congr 1
      have ef : (fun i => zmn q j i && decide (e i = 0)) = zmn (fun i => q i && decide (e i = 0)) j := by
        funext i
        show ((q i && !decide (i = j)) && decide (e i = 0)) = ((q i && decide (e i = 0)) && !decide (i = j))
        cases q i <;> cases decide (i = j) <;> cases decide (e i = 0) <;> rfl
      rw [ef, ctN_zps, zps_mn, if_neg (by simp [he])]
      rw [ctN_zps]; omega
    have ihZ : ∀ j, j < n → q j = true → e j = 0 → wsW e n (zmn q j) = wsW d (cnz e n) p + (ctN (fun j => q j && decide (e j = 0)) n - 1) := fun j hj hq he => by
      rw [ih p (zmn q j) (by rw [ctN_mn q hj hq]; omega) (fun i hi hei => by
        unfold zmn
        rw [hp i hi hei]
        have c : ¬ i = j := fun z => hei (by rw [z]; exact he)
        simp [c])]
      congr 1
      have ef : (fun i => zmn q j i && decide (e i = 0)) = zmn (fun i => q i && decide (e i = 0)) j := by
        funext i
        show ((q i && !decide (i = j)) && decide (e i = 0)) = ((q i && decide (e i = 0)) && !decide (i = j))
        cases q i <;> cases decide (i = j) <;> cases decide (e i = 0) <;> rfl
      rw [ef, ctN_mn _ hj (by simp [hq, he])]
    generalize ctN (fun j => q j && decide (e j = 0)) n = Z at *
    rw [wsW_s ct0]
    by_cases hp0 : ctN p (cnz e n) = 0
    · have hpf := ctN_0 p (cnz e n) hp0
      have hqz : ∀ j, j < n → q j = true → e j = 0 := fun j hj hq => by
        by_cases c : e j = 0
        · exact c
        · have h1 := hp j hj c
          rw [hpf _ (cnz_lt hj c), hq] at h1
          exact absurd h1 (by simp)
      have hs0 : zps q e n = 0 := by rw [← hsum]; exact zps_of hpf
      have hW0 : wsW d (cnz e n) p = 0 := wsW_0 hp0
      obtain ⟨j, h1, h2⟩ := ctN_ex ct0
      have hz := ihZ j h1 h2 (hqz j h1 h2)
      have hin := wsW_in e n (zmn q j)
      have lo := mxF_ge q (fun i => wsW e n (zmn q i)) n j h1 h2
      have up := mxF_le (p := q) (h := fun i => wsW e n (zmn q i)) (B := Z - 1) (by omega) n (fun i hi hq => by
        have := ihZ i hi hq (hqz i hi hq)
        rw [this]; omega)
      rw [if_pos hs0, hW0]
      omega
    · have hWp := wsW_s (f := d) hp0
      rw [hsum] at hWp
      obtain ⟨i, g1, g2, g3⟩ : ∃ i, i < cnz e n ∧ p i = true ∧ mxF p (fun i => wsW d (cnz e n) (zmn p i)) (cnz e n) ≤ wsW d (cnz e n) (zmn p i) := by
        rcases mxF_ex p (fun i => wsW d (cnz e n) (zmn p i)) (cnz e n) with c | ⟨i, c1, c2, c3⟩
        · obtain ⟨i, c1, c2⟩ := ctN_ex hp0
          exact ⟨i, c1, c2, by rw [c]; exact (wsW_in d (cnz e n) (zmn p i)).1⟩
        · exact ⟨i, c1, c2, by rw [c3]; exact Int.le_refl _⟩
      obtain ⟨j, h1, h2, h3⟩ := cnz_sur e n i g1
      have hqj : q j = true := by rw [← hp j h1 h2, h3]; exact g2
      have hN := ihN j h1 hqj h2
      rw [h3] at hN
      have lo := mxF_ge q (fun i => wsW e n (zmn q i)) n j h1 hqj
      have nn := mxF_nn p (fun i => wsW d (cnz e n) (zmn p i)) (cnz e n)
      have up := mxF_le (p := q) (h := fun i => wsW e n (zmn q i)) (B := mxF p (fun i => wsW d (cnz e n) (zmn p i)) (cnz e n) + Z) (by omega) n (fun i hi hq => by
        by_cases c : e i = 0
        · have := ihZ i hi hq c
          rw [this, hWp]
          split <;> omega
        · have h4 := ihN i hi hq c
          have h5 := mxF_ge p (fun i => wsW d (cnz e n) (zmn p i)) (cnz e n) (cnz e i) (cnz_lt hi c) (by rw [hp i hi c]; exact hq)
          rw [h4]; omega)
      rw [hWp]
      omega
