/-! fewest: who is to go so that nothing sways -/
def bitP (g : Int) (a : Nat) : Bool := decide (g / ((2 ^ a : Nat) : Int) % 2 = 1)
def bitQ (g : Int) (i a : Nat) : Bool := decide (i ≤ a) && bitP g a
theorem bitP_big {g : Int} {n a : Nat} (h0 : 0 ≤ g) (h1 : g < ((2 ^ n : Nat) : Int)) (h : n ≤ a) : bitP g a = false := by
  have h3 : (2 ^ n : Nat) ≤ 2 ^ a := Nat.pow_le_pow_right (by omega) h
  unfold bitP
  rw [Int.ediv_eq_zero_of_lt h0 (by omega)]
  rfl
theorem bitQ_0 (g : Int) : bitQ g 0 = bitP g := by funext a; unfold bitQ; simp
theorem bitQ_12 {g : Int} (h0 : 0 ≤ g) (h1 : g < 4096) : bitQ g 12 = fun _ => false := by
  funext a; unfold bitQ
  by_cases c : 12 ≤ a
  · rw [bitP_big (n := 12) h0 h1 c]; simp
  · simp [c]
theorem bitQ_in {g : Int} {i : Nat} (h : bitP g i = true) : bitQ g i = fun a => bitQ g (i + 1) a || decide (a = i) := by
  funext a; unfold bitQ
  by_cases c : a = i
  · subst c; simp [h]
  · by_cases d : i ≤ a
    · simp [c, d, show i + 1 ≤ a by omega]
    · simp [c, d, show ¬ i + 1 ≤ a by omega]
theorem bitQ_not {g : Int} {i : Nat} (h : bitP g i = false) : bitQ g i = bitQ g (i + 1) := by
  funext a; unfold bitQ
  by_cases c : a = i
  · subst c; simp [h]
  · by_cases d : i ≤ a
    · simp [d, show i + 1 ≤ a by omega]
    · simp [d, show ¬ i + 1 ≤ a by omega]
section FE
variable {μ : zM} {T : zT} {g : Int} {i : Nat} {p : Nat → Bool}
theorem wiT_h {j : Nat} (h : (j : Int) < nT T) : hT (wiT T p) j = ((flT T p j (hT T j).toNat).length : Int) := by
  unfold hT
  rw [if_pos (by omega), show ((j : Int)).toNat = j by omega, wiT_getD h]
  unfold hT; rfl
theorem wiT_num (hV : VT T) (hi : (i : Int) < tot T) (hp : ∀ a, p a = true → i < a) : syT T i < hT (wiT T p) (twT T i) ∧ numT (wiT T p) (twT T i) (syT T i) = i := by
  obtain ⟨a1, a2, a3, a4, a5⟩ := num_tw hV (i := i) (by omega) hi
  have hn := nT_nn T
  refine ⟨?_, ?_⟩
  · have e := wiT_h (T := T) (p := p) (j := (twT T i).toNat) (by omega)
    rw [show (((twT T i).toNat : Nat) : Int) = twT T i by omega] at e
    rw [e]
    have := (flT_len (T := T) (p := p) (i := i) hp (j := (twT T i).toNat) (s := syT T i) (by rw [show (((twT T i).toNat : Nat) : Int) = twT T i by omega]; exact a5) (hT T (twT T i)).toNat).2 (by omega)
    omega
  · have e2 : numT T (twT T i) (syT T i) = i := a5
    have key : zsum (twT T i).toNat (fun j => hT (wiT T p) j) = zsum (twT T i).toNat (fun j => hT T j) := zsum_congr (fun j hj => by
      have hnn := hT_nn T j
      rw [wiT_h (by omega)]
      have h1 := numT_mono (T := T) (a := (j : Int) + 1) (b := twT T i) (by omega)
      rw [numT_next (by omega), numT_s (s := hT T j)] at h1
      rw [numT_s] at a5
      have := (flT_len (T := T) (p := p) (i := i) hp (j := j) (s := (i : Int) - numT T j 0) (by rw [numT_s]; omega) (hT T j).toNat).1 (by omega)
      rw [this]; omega)
    unfold numT at e2 ⊢
    rw [key]; exact e2
theorem M_leaveAll (hW : IsV (μ 43) T) (hV : VT T) (h0 : 0 ≤ g) (h1 : g < ((2 ^ (tot T).toNat : Nat) : Int)) : ∃ ν, f_M_leaveAll g μ = some ν ∧ IsV (ν 43) (wiT T (bitP g)) ∧ VT (wiT T (bitP g)) ∧ zO43 μ ν 0 66 := by
  have ht := tot_le hV
  have hp := z_pow (tot T).toNat (by omega)
  refine zQ_go (zQ_for (fun k q => ∃ ν, q = (11 - (k : Int), ν) ∧ IsV (ν 43) (wiT T (bitQ g (12 - k))) ∧ VT (wiT T (bitQ g (12 - k))) ∧ zO43 μ ν 0 66) 12 (s0 := (11, μ)) rfl ⟨μ, rfl, by rw [show 12 - 0 = 12 from rfl, bitQ_12 h0 (by omega), wiT_none]; exact hW, by rw [show 12 - 0 = 12 from rfl, bitQ_12 h0 (by omega), wiT_none]; exact hV, fun _ _ => rfl, fun _ _ => rfl⟩ ?_ ?_)
  · rintro k _ hk ⟨ν, rfl, q1, q2, q3⟩
    obtain ⟨i, hi⟩ : ∃ i, 12 - k = i + 1 := ⟨11 - k, by omega⟩
    rw [hi] at q1 q2
    rw [show 12 - (k + 1) = i by omega]
    have ei : 11 - (k : Int) = (i : Int) := by omega
    show ∃ u, b_M_leaveAll_3 g (11 - (k : Int)) ν = some (.inl u) ∧ _
    unfold b_M_leaveAll_3
    rw [ei, if_neg (by omega), M_has h0 (by omega) (by omega), z32_id (z := (i : Int) + (-1)) (by omega) (by omega)]
    have en : (i : Int) + (-1) = 11 - ((k + 1 : Nat) : Int) := by omega
    rw [en]
    by_cases c : bitP g i = true
    · have c1 : g / ((2 ^ i : Nat) : Int) % 2 = 1 := of_decide_eq_true c
      have hit : (i : Int) < tot T := by
        rcases Int.lt_or_le (i : Int) (tot T) with q | q
        · exact q
        · rw [bitP_big h0 h1 (by omega)] at c; exact absurd c (by simp)
      obtain ⟨a1, a2, a3, a4, a5⟩ := num_tw hV (i := i) (by omega) hit
      obtain ⟨n1, n2⟩ := wiT_num (T := T) (i := i) (p := bitQ g (i + 1)) hV hit (fun a ha => by unfold bitQ at ha; simp at ha; omega)
      obtain ⟨w1, w2⟩ := tw_num q2 a3 n1
      rw [n2] at w1 w2
      have hin := numT_in q2 a3 n1
      rw [n2] at hin
      obtain ⟨κ, f1, f2, f3⟩ := M_goes q1 q2 a3 n1
      have e := wiT_add (p := bitQ g (i + 1)) hV hit (fun a ha => by unfold bitQ at ha; simp at ha; omega)
      rw [← e, ← bitQ_in c] at f2
      have hV' := gonT_V q2 a3 n1
      rw [← e, ← bitQ_in c] at hV'
      rw [if_neg (by omega), M_towerOf q1 q2 hin.1 hin.2, z_some_bind, M_storeyOf q1 q2 hin.1 hin.2, z_some_bind, w1, w2, f1, z_some_bind]
      exact ⟨_, rfl, κ, rfl, f2, hV', fun p hp => by rw [f3.1 p hp, q3.1 p hp], fun c hc => by rw [f3.2 c hc, q3.2 c hc]⟩
    · have c1 : ¬ g / ((2 ^ i : Nat) : Int) % 2 = 1 := fun z => c (decide_eq_true z)
      rw [if_pos (by omega), bitQ_not (by simpa using c)]
      exact ⟨_, rfl, ν, rfl, q1, q2, q3⟩
  · rintro _ ⟨ν, rfl, q1, q2, q3⟩
    rw [show 12 - 12 = 0 from rfl, bitQ_0] at q1 q2
    show zQ _ (b_M_leaveAll_3 g (11 - ((12 : Nat) : Int)) ν) _
    unfold b_M_leaveAll_3
    rw [if_pos (by omega)]
    exact zQ_ret ⟨q1, q2, q3⟩
def fwT (T : zT) : Nat → Int × Int
  | 0 => (4, 0)
  | g + 1 => if zpop (g : Int) < (fwT T g).1 then (if stT (wiT T (bitP (g : Int))) = true then (zpop (g : Int), (g : Int)) else fwT T g) else fwT T g
theorem fwT_s (T : zT) (g : Nat) : fwT T (g + 1) = if zpop (g : Int) < (fwT T g).1 then (if stT (wiT T (bitP (g : Int))) = true then (zpop (g : Int), (g : Int)) else fwT T g) else fwT T g := rfl
theorem fwT_in (T : zT) : ∀ g, (fwT T g).1 = 4 ∨ (0 ≤ (fwT T g).1 ∧ (fwT T g).1 < 4 ∧ 0 ≤ (fwT T g).2 ∧ (fwT T g).2 < g ∧ zpop (fwT T g).2 = (fwT T g).1)
  | 0 => Or.inl rfl
  | g + 1 => by
    have ih := fwT_in T g
    have hz := zpop_in (g : Int)
    rw [fwT_s]
    by_cases c : zpop (g : Int) < (fwT T g).1
    · rw [if_pos c]
      by_cases d : stT (wiT T (bitP (g : Int))) = true
      · rw [if_pos d]; right; dsimp only; omega
      · rw [if_neg d]; rcases ih with q | q
        · exact Or.inl q
        · right; omega
    · rw [if_neg c]; rcases ih with q | q
      · exact Or.inl q
      · right; omega
theorem fwT_0 (T : zT) {n : Nat} (h : (fwT T n).1 = 0) : ∀ d : Nat, fwT T (n + d) = fwT T n
  | 0 => rfl
  | d + 1 => by
    have ih := fwT_0 T h d
    have hz := zpop_in ((n + d : Nat) : Int)
    rw [← Nat.add_assoc, fwT_s, ih, if_neg (by omega)]
theorem bitP_e (h0 : 0 ≤ g) (h1 : g < 4096) (i : Nat) (hi : i < 13) : zand (zshr g (i : Int)) 1 = if bitP g i = true then 1 else 0 := by
  have hp := z_pow i hi
  have hq : 0 ≤ g / ((2 ^ i : Nat) : Int) := Int.ediv_nonneg h0 (by omega)
  have hq2 : g / ((2 ^ i : Nat) : Int) ≤ g := Int.ediv_le_self _ h0
  rw [zshr_n h0 (by omega) hi, zand_1 hq (by omega)]
  unfold bitP
  by_cases c : g / ((2 ^ i : Nat) : Int) % 2 = 1
  · rw [if_pos (decide_eq_true c)]; exact c
  · rw [if_neg (by simpa using c)]; omega
theorem X_fewest (hR : IsR μ 8 T) (hV : VT T) : ∃ ν, zOut μ ν 13 22 ∧ f_X_fewest μ = some (if (fwT T (2 ^ (tot T).toNat)).1 = 4 then (-9, ν) else ((fwT T (2 ^ (tot T).toNat)).1, zst ν 0 9 (fwT T (2 ^ (tot T).toNat)).2)) := by
  have ht := tot_le hV
  have hp := z_pow (tot T).toNat (by omega)
  have hsh := zshl_1 (tot T).toNat (by omega)
  rw [show (((tot T).toNat : Nat) : Int) = tot T by omega] at hsh
  generalize 2 ^ (tot T).toNat = N at *
  suffices hq : zQ t_X_fewest (e_X_fewest μ) (fun r => ∃ ν, zOut μ ν 13 22 ∧ r = if (fwT T N).1 = 4 then (-9, ν) else ((fwT T N).1, zst ν 0 9 (fwT T N).2)) by
    obtain ⟨r, g1, ν, g2, g3⟩ := zQ_go hq
    exact ⟨ν, g2, by rw [← g3]; exact g1⟩
  obtain ⟨n, hn, hlt, hend⟩ : ∃ n, n ≤ N ∧ (∀ m, m < n → (fwT T m).1 ≠ 0) ∧ (n = N ∨ (fwT T n).1 = 0) := by
    rcases z_first (fun m => (fwT T m).1 ≠ 0) N with q | ⟨n, q1, q2, q3⟩
    · exact ⟨N, Nat.le_refl _, q, Or.inl rfl⟩
    · exact ⟨n, by omega, q2, Or.inr (Classical.not_not.mp q3)⟩
  have hfin : fwT T N = fwT T n := by
    rcases hend with q | q
    · rw [q]
    · have := fwT_0 T q (N - n)
      rw [show n + (N - n) = N by omega] at this
      exact this
  refine zQ_for (fun k q => ∃ ν, q = ((fwT T k).1, (fwT T k).2, (N : Int), (k : Int), ν) ∧ zOut μ ν 13 22) n (s0 := (4, 0, (N : Int), 0, μ)) ?_ ⟨μ, rfl, zOut_rf⟩ ?_ ?_
  · unfold e_X_fewest f_R_houseCount
    rw [hR.2.1, hsh]
  · rintro k _ hk ⟨ν, rfl, q1⟩
    have hin := fwT_in T k
    have h0 := hlt k hk
    have hRν := IsR_out q1 (by omega) hR
    show ∃ u, b_X_fewest_20 (fwT T k).1 (fwT T k).2 (N : Int) (k : Int) ν = some (.inl u) ∧ _
    unfold b_X_fewest_20
    rw [if_pos (by omega), if_pos (by omega), J_bitCount (by omega) (by omega), z32_id (z := (k : Int) + 1) (by omega) (by omega), fwT_s]
    by_cases c : zpop (k : Int) < (fwT T k).1
    · obtain ⟨κ, f1, f2, f3, f4, f5⟩ := R_takeWithout (o := 13) (o1 := 8) (v := (k : Int)) (p := bitP (k : Int)) hRν hV (by omega) (fun i hi => bitP_e (by omega) (by omega) i (by omega))
      have ho : zOut μ κ 13 22 := zOut_trans q1 (zOut_le f5 (by omega) (by omega))
      rw [if_pos c, if_pos c, f1, z_some_bind, R_isSteady f2 f3, z_some_bind]
      by_cases d : anyT (wiT T (bitP (k : Int))) (swT (wiT T (bitP (k : Int)))) = true
      · rw [if_pos d, if_pos rfl, if_neg (by unfold stT; rw [d]; simp)]
        exact ⟨_, rfl, κ, rfl, ho⟩
      · rw [if_neg d, if_neg (by omega), if_pos (by unfold stT; simp at d; rw [d]; rfl)]
        exact ⟨_, rfl, κ, rfl, ho⟩
    · rw [if_neg c, if_neg c]
      exact ⟨_, rfl, ν, rfl, q1⟩
  · rintro _ ⟨ν, rfl, q1⟩
    have hin := fwT_in T n
    rw [hfin]
    have hj : zQ t_X_fewest (j_X_fewest_81 (fwT T n).1 (fwT T n).2 ν) (fun r => ∃ ν, zOut μ ν 13 22 ∧ r = if (fwT T n).1 = 4 then (-9, ν) else ((fwT T n).1, zst ν 0 9 (fwT T n).2)) := by
      unfold j_X_fewest_81
      by_cases c : (fwT T n).1 = 4
      · rw [if_pos (by omega)]; exact zQ_ret ⟨ν, q1, by rw [if_pos c]⟩
      · rw [if_neg (by omega)]; exact zQ_ret ⟨ν, q1, by rw [if_neg c]⟩
    show zQ _ (b_X_fewest_20 (fwT T n).1 (fwT T n).2 (N : Int) (n : Int) ν) _
    unfold b_X_fewest_20
    by_cases c : (n : Int) < (N : Int)
    · rw [if_pos c, if_neg (by omega)]; exact hj
    · rw [if_neg c]; exact hj
theorem M_fewest (hW : IsV (μ 43) T) (hV : VT T) : ∃ κ, zRest μ κ ∧ f_M_fewest μ = some (if (fwT T (2 ^ (tot T).toNat)).1 = 4 then (-9, κ) else ((fwT T (2 ^ (tot T).toNat)).1, zst κ 42 10 (fwT T (2 ^ (tot T).toNat)).2)) := by
  have ht := tot_le hV
  have hp := z_pow (tot T).toNat (by omega)
  have hsh := zshl_1 (tot T).toNat (by omega)
  rw [show (((tot T).toNat : Nat) : Int) = tot T by omega] at hsh
  have hN0 : 2 ^ (tot T).toNat = 2 ^ (tot T).toNat := rfl
  obtain ⟨ν0, e1, e2⟩ := M_lays (μ := μ)
  obtain ⟨N, hN⟩ : ∃ N, N = 2 ^ (tot T).toNat := ⟨_, rfl⟩
  rw [← hN] at hp hsh ⊢
  suffices hq : zQ t_M_fewest (e_M_fewest μ) (fun r => ∃ ν, zRest μ ν ∧ r = if (fwT T N).1 = 4 then (-9, ν) else ((fwT T N).1, zst ν 42 10 (fwT T N).2)) by
    obtain ⟨r, g1, ν, g2, g3⟩ := zQ_go hq
    exact ⟨ν, g2, by rw [← g3]; exact g1⟩
  refine zQ_for (fun k q => ∃ ν, q = ((if (fwT T k).1 = 4 then -1 else (fwT T k).2), (N : Int), (k : Int), ν) ∧ zRest μ ν) N (s0 := (-1, (N : Int), 0, ν0)) ?_ ⟨ν0, rfl, e2⟩ ?_ ?_
  · unfold e_M_fewest
    rw [M_houses hW hV, z_some_bind, e1, z_some_bind, hsh]
  · rintro k _ hk ⟨ν, rfl, q1⟩
    have hin := fwT_in T k
    have hWν := zRest_W q1 hV hW
    have hz := zpop_in (k : Int)
    show ∃ u, b_M_fewest_15 (if (fwT T k).1 = 4 then -1 else (fwT T k).2) (N : Int) (k : Int) ν = some (.inl u) ∧ _
    unfold b_M_fewest_15
    rw [if_pos (by omega), M_ones (by omega) (by omega), z_some_bind, z32_id (z := (k : Int) + 1) (by omega) (by omega)]
    by_cases c : zpop (k : Int) < (fwT T k).1
    · have hj : ∃ u, j_M_fewest_43 (if (fwT T k).1 = 4 then -1 else (fwT T k).2) (N : Int) (k : Int) ν = some (.inl u) ∧ ∃ ν, u = ((if (fwT T (k + 1)).1 = 4 then -1 else (fwT T (k + 1)).2), (N : Int), ((k + 1 : Nat) : Int), ν) ∧ zRest μ ν := by
        obtain ⟨κ, f1, f2, f3, f4⟩ := M_leaveAll (g := (k : Int)) hWν hV (by omega) (by rw [← hN]; omega)
        obtain ⟨θ, i1, i2⟩ := M_putsBack (zHeld_43 q1.1 f4)
        unfold j_M_fewest_43
        rw [f1, z_some_bind, M_swaying f2 f3, z_some_bind, i1, z_some_bind, z_some_bind, z32_id (z := (k : Int) + 1) (by omega) (by omega), fwT_s, if_pos c]
        by_cases d : stT (wiT T (bitP (k : Int))) = true
        · rw [if_pos ((sw_iff f3).mpr d), if_pos d]
          refine ⟨_, rfl, θ, ?_, i2⟩
          dsimp only
          rw [if_neg (by omega)]; rfl
        · rw [if_neg (fun z => d ((sw_iff f3).mp z)), if_neg d]
          exact ⟨_, rfl, θ, rfl, i2⟩
      by_cases e : (fwT T k).1 = 4
      · rw [if_pos (show zpop (k : Int) < 4 by omega), if_pos (show (if (fwT T k).1 = 4 then (-1 : Int) else (fwT T k).2) < 0 by rw [if_pos e]; omega)]
        exact hj
      · have e2 : (if (fwT T k).1 = 4 then (-1 : Int) else (fwT T k).2) = (fwT T k).2 := if_neg e
        rw [e2] at hj ⊢
        rw [if_pos (show zpop (k : Int) < 4 by omega), if_neg (show ¬ (fwT T k).2 < 0 by omega), z_some_bind, M_ones (by omega) (by omega), z_some_bind, if_pos (by omega)]
        exact hj
    · have hs : ∃ u, (some (Sum.inl ((if (fwT T k).1 = 4 then (-1 : Int) else (fwT T k).2), (N : Int), (k : Int) + 1, ν)) : Option ((Int × Int × Int × zM) ⊕ (Int × zM))) = some (.inl u) ∧ ∃ ν, u = ((if (fwT T (k + 1)).1 = 4 then -1 else (fwT T (k + 1)).2), (N : Int), ((k + 1 : Nat) : Int), ν) ∧ zRest μ ν := by
        rw [fwT_s, if_neg c]
        exact ⟨_, rfl, ν, rfl, q1⟩
      by_cases d : zpop (k : Int) < 4
      · have e : ¬ (fwT T k).1 = 4 := by omega
        have e2 : (if (fwT T k).1 = 4 then (-1 : Int) else (fwT T k).2) = (fwT T k).2 := if_neg e
        rw [e2] at hs ⊢
        rw [if_pos d, if_neg (show ¬ (fwT T k).2 < 0 by omega), z_some_bind, M_ones (by omega) (by omega), z_some_bind, if_neg (by omega)]
        exact hs
      · rw [if_neg d]; exact hs
  · rintro _ ⟨ν, rfl, q1⟩
    have hin := fwT_in T N
    show zQ _ (b_M_fewest_15 (if (fwT T N).1 = 4 then -1 else (fwT T N).2) (N : Int) (N : Int) ν) _
    unfold b_M_fewest_15 f_M_tells
    rw [if_neg (by omega)]
    by_cases e : (fwT T N).1 = 4
    · rw [if_pos e, if_pos (by omega)]
      exact zQ_ret ⟨ν, q1, by rw [if_pos e]⟩
    · rw [if_neg e, if_neg (by omega), M_ones (by omega) (by omega), z_some_bind]
      exact zQ_ret ⟨ν, q1, by rw [if_neg e]; have := hin; rw [show zpop (fwT T N).2 = (fwT T N).1 by omega]⟩
theorem A_fewest (h : Rel μ) : zAg (f_X_fewest μ) (f_M_fewest) := by
  obtain ⟨T, hV, hR, hW⟩ := Rel_T h
  obtain ⟨ν, e1, e2⟩ := X_fewest hR hV
  by_cases e : (fwT T (2 ^ (tot T).toNat)).1 = 4
  · obtain ⟨κ, g1, g2⟩ := M_fewest (μ := ν) (W_of hW (e1 43 (by omega))) hV
    rw [if_pos e] at e2 g2
    exact ⟨_, ν, e2, κ, g2, Rel_rest h e1 g1⟩
  · obtain ⟨κ, g1, g2⟩ := M_fewest (μ := zst ν 0 9 (fwT T (2 ^ (tot T).toNat)).2) (W_of hW (by rw [zst_p (by omega), e1 43 (by omega)])) hV
    rw [if_neg e] at e2 g2
    exact ⟨_, _, e2, _, g2, Rel_rest_tells h e1 g1⟩
end FE
