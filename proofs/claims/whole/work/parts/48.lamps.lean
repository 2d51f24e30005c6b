/-! lights and lamps, on both sides -/
theorem zpop_in (v : Int) : 0 ≤ zpop v ∧ zpop v ≤ 1 * 12 := ⟨zsum_nn (fun j _ => by omega), zsum_le (fun j _ => by omega)⟩
theorem lampsT_in {T : zT} (hV : VT T) (t s : Int) (h : 0 ≤ s) : 0 ≤ lampsT T t s ∧ lampsT T t s ≤ 6 := by
  have h5 := hT_le hV t
  have a : lampsT T t s ≤ 1 * ((hT T t - (s + 1)).toNat : Nat) := zsum_le (fun j _ => by split <;> omega)
  exact ⟨zsum_nn (fun j _ => by split <;> omega), by omega⟩
def liT (T : zT) (t s w : Int) : Int := min 5 (zpop (zand (hoT T t s) (zxor w (-1))) + lampsT T t s)
def liN (T : zT) (n w : Int) : Int := liT T (twT T n) (syT T n) w
def liAll (T : zT) : Int := zsum (tot T).toNat (fun j => liN T j 0)
theorem liT_in {T : zT} (hV : VT T) (t s w : Int) (h : 0 ≤ s) : 0 ≤ liT T t s w ∧ liT T t s w ≤ 5 := by
  have h1 := zpop_in (zand (hoT T t s) (zxor w (-1)))
  have h2 := lampsT_in hV t s h
  unfold liT; omega
theorem zsum_app (n m : Nat) (f : Nat → Int) : zsum (n + m) f = zsum n f + zsum m (fun j => f (n + j)) := by
  induction m with
  | zero => rw [zsum_0]; simp
  | succ m ih => rw [← Nat.add_assoc, zsum_s, zsum_s, ih]; omega
theorem zsum_mul (a : Nat) (f : Nat → Int) : zsum (12 * a) f = zsum a (fun i => zsum 12 (fun j => f (12 * i + j))) := by
  induction a with
  | zero => rfl
  | succ a ih => rw [zsum_s, ← ih, Nat.mul_succ, zsum_app]
theorem owes_12 {T : zT} (hV : VT T) (i : Int) : zsum 12 (fun j => lmT T i j) = owesT T i := by
  have ht := tot_le hV
  rw [zsum_tail (k := (tot T).toNat) (fun j hj => by show lmT T i j = 0; unfold lmT; rw [if_neg (by omega)]) (by omega)]
  unfold owesT
  exact zsum_congr (fun j hj => by unfold lmT; rw [if_pos (by omega)])
theorem owed_12 {T : zT} (hV : VT T) (j : Int) : zsum 12 (fun i => lmT T i j) = owedT T j := by
  unfold owedT
  by_cases c : j < tot T
  · rw [if_pos c, ← lmF_sum hV]
    exact zsum_congr (fun i hi => by unfold lmT; rw [if_pos c])
  · rw [if_neg c]
    rw [zsum_congr (g := fun _ => 0) (fun i hi => by unfold lmT; rw [if_neg c])]
    rfl
theorem al_144 {T : zT} (hV : VT T) {f : Nat → Int} (hf : ∀ i j : Nat, i < 12 → j < 12 → f (12 * i + j) = lmT T i j) : zsum 144 f = alT T := by
  have ht := tot_le hV
  rw [show (144 : Nat) = 12 * 12 from rfl, zsum_mul]
  rw [zsum_congr (g := fun i => zsum 12 (fun j => lmT T i j)) (fun i hi => zsum_congr (fun j hj => hf i j hi hj)), zsum_swap]
  rw [zsum_tail (k := (tot T).toNat) (fun j hj => by show zsum 12 (fun i => lmT T i j) = 0; rw [owed_12 hV]; unfold owedT; rw [if_neg (by omega)]) (by omega)]
  unfold alT
  exact zsum_congr (fun j hj => by show zsum 12 (fun i => lmT T i j) = _; rw [owed_12 hV]; unfold owedT; rw [if_pos (by omega)])
theorem lmT_in (T : zT) (i j : Int) : 0 ≤ lmT T i j ∧ lmT T i j ≤ 10 := by
  have h := lmF_in T i j 5
  unfold lmT; split <;> omega
theorem owesT_in {T : zT} (hV : VT T) (i : Int) : 0 ≤ owesT T i ∧ owesT T i ≤ 10 * 12 := by
  rw [← owes_12 hV]
  exact ⟨zsum_nn (fun j _ => (lmT_in T _ _).1), zsum_le (fun j _ => (lmT_in T _ _).2)⟩
theorem owedT_in {T : zT} (hV : VT T) (i : Int) : 0 ≤ owedT T i ∧ owedT T i ≤ 10 * 12 := by
  rw [← owed_12 hV]
  exact ⟨zsum_nn (fun j _ => (lmT_in T _ _).1), zsum_le (fun j _ => (lmT_in T _ _).2)⟩
section LL1
variable {μ : zM} {T : zT} {n w i j : Int}
theorem L_lightIn (hV : VT T) (hL : IsL μ T) : f_L_lightIn n w μ = some (if 0 ≤ n ∧ n < tot T then liN T n w else 0) := by
  have ht := tot_le hV
  unfold f_L_lightIn
  rw [L_isNumber hL.1]
  by_cases c : 0 ≤ n ∧ n < tot T
  · obtain ⟨m, rfl⟩ := Int.eq_ofNat_of_zero_le c.1
    obtain ⟨l1, l2⟩ := hL.2.2.1 m c.2
    have h1 := num_tw hV c.1 c.2
    have h2 := hoT_in T (twT T m) (syT T m)
    have h3 := zand_le (b := zxor w (-1)) h2.1 (by omega)
    have h4 := zpop_in (zand (hoT T (twT T m) (syT T m)) (zxor w (-1)))
    have h5 := lampsT_in hV (twT T m) (syT T m) h1.2.2.1
    rw [if_pos c, if_neg (by omega), if_pos (by omega), if_pos (by omega), if_pos c, show ((m : Int)).toNat = m by omega, l1, l2, J_bitCount h3.1 (by omega), z32_id (by omega) (by omega)]
    rfl
  · rw [if_neg c, if_pos rfl, if_neg c]
theorem L_lightOf (hV : VT T) (hL : IsL μ T) : f_L_lightOf n μ = some (if 0 ≤ n ∧ n < tot T then liN T n 0 else 0) := by
  unfold f_L_lightOf
  rw [L_lightIn hV hL]; rfl
theorem L_owingOf (hV : VT T) (hL : IsL μ T) : f_L_owingOf n μ = some (if 0 ≤ n ∧ n < tot T then owesT T n else 0) := by
  have ht := tot_le hV
  unfold f_L_owingOf
  rw [L_isNumber hL.1]
  by_cases c : 0 ≤ n ∧ n < tot T
  · obtain ⟨m, rfl⟩ := Int.eq_ofNat_of_zero_le c.1
    rw [if_pos c, if_neg (by omega), if_pos (by omega), if_pos c, show ((m : Int)).toNat = m by omega, hL.2.2.2.1 m (by omega)]
  · rw [if_neg c, if_pos rfl, if_neg c]
theorem L_owedOf (hV : VT T) (hL : IsL μ T) : f_L_owedOf n μ = some (if 0 ≤ n ∧ n < tot T then owedT T n else 0) := by
  have ht := tot_le hV
  unfold f_L_owedOf
  rw [L_isNumber hL.1]
  by_cases c : 0 ≤ n ∧ n < tot T
  · obtain ⟨m, rfl⟩ := Int.eq_ofNat_of_zero_le c.1
    rw [if_pos c, if_neg (by omega), if_pos (by omega), if_pos c, show ((m : Int)).toNat = m by omega, hL.2.2.2.2.1 m (by omega)]
  · rw [if_neg c, if_pos rfl, if_neg c]
theorem L_lampsFromTo (hV : VT T) (hL : IsL μ T) : f_L_lampsFromTo i j μ = some (if (0 ≤ i ∧ i < tot T) ∧ 0 ≤ j ∧ j < tot T then lmT T i j else 0) := by
  have ht := tot_le hV
  unfold f_L_lampsFromTo
  rw [L_isNumber hL.1, L_isNumber hL.1]
  by_cases c : 0 ≤ i ∧ i < tot T
  · by_cases c2 : 0 ≤ j ∧ j < tot T
    · obtain ⟨m, rfl⟩ := Int.eq_ofNat_of_zero_le c.1
      obtain ⟨p, rfl⟩ := Int.eq_ofNat_of_zero_le c2.1
      rw [if_pos c, if_neg (by omega), if_pos c2, if_neg (by omega), z32_id (z := (m : Int) * 12) (by omega) (by omega), z32_id (by omega) (by omega), if_pos (by omega), if_pos ⟨c, c2⟩, show ((m : Int) * 12 + p).toNat = 12 * m + p by omega, hL.2.2.2.2.2 m p (by omega) (by omega)]
    · rw [if_pos c, if_neg (by omega), if_neg c2, if_pos rfl, if_neg (fun h => c2 h.2)]
  · rw [if_neg c, if_pos rfl, if_neg (fun h => c h.1)]
theorem L_debtOf (hV : VT T) (hL : IsL μ T) : f_L_debtOf n μ = some (if 0 ≤ n ∧ n < tot T then owesT T n - owedT T n else 0) := by
  unfold f_L_debtOf
  have h1 := owesT_in hV n
  have h2 := owedT_in hV n
  rw [L_owingOf hV hL, z_some_bind, L_owedOf hV hL, z_some_bind]
  split
  · rw [z32_id (by omega) (by omega)]
  · rfl
theorem liAll_in (hV : VT T) (n : Nat) (hn : (n : Int) ≤ tot T) : 0 ≤ zsum n (fun j => liN T j 0) ∧ zsum n (fun j => liN T j 0) ≤ 5 * n := by
  refine ⟨zsum_nn (fun j hj => ?_), zsum_le (fun j hj => ?_)⟩
  · have h1 := num_tw (i := j) hV (by omega) (by omega)
    exact (liT_in hV _ _ _ h1.2.2.1).1
  · have h1 := num_tw (i := j) hV (by omega) (by omega)
    exact (liT_in hV _ _ _ h1.2.2.1).2
theorem L_allLight (hV : VT T) (hL : IsL μ T) : f_L_allLight μ = some (liAll T) := by
  have ht := tot_le hV
  refine zE_go (zE_for (fun k => (zsum k (fun j => liN T j 0), (k : Int))) (tot T).toNat rfl (fun k hk => ?_) ?_)
  · have h1 := liAll_in hV k (by omega)
    have h2 := num_tw (i := k) hV (by omega) (by omega)
    have h3 := liT_in hV (twT T k) (syT T k) 0 h2.2.2.1
    have h4 : liN T k 0 = liT T (twT T k) (syT T k) 0 := rfl
    show b_L_allLight_4 (zsum k (fun j => liN T j 0)) (k : Int) μ = _
    unfold b_L_allLight_4
    rw [hL.1, if_pos (by omega), L_lightOf hV hL, z_some_bind, if_pos (by omega), z32_id (by omega) (by omega), z32_id (by omega) (by omega), zsum_s]
    rfl
  · show zE _ (b_L_allLight_4 (zsum (tot T).toNat (fun j => liN T j 0)) ((tot T).toNat : Int) μ) _
    unfold b_L_allLight_4
    rw [hL.1, if_neg (by omega)]
    exact zE_ret
end LL1
section ML1
variable {μ : zM} {T : zT} {n w i j t s : Int}
theorem M_towerOf (hW : IsV (μ 43) T) (hV : VT T) (h1 : 0 ≤ n) (h2 : n < tot T) : f_M_towerOf n μ = some (twT T n) := by
  obtain ⟨a1, a2, a3, a4, a5⟩ := num_tw hV h1 h2
  have ht := tot_le hV
  have hn := nT_le hV
  rw [numT_s] at a5
  refine zE_go (zE_for (fun k => ((k : Int), n - numT T k 0)) (twT T n).toNat ?_ (fun k hk => ?_) ?_)
  · show some (Sum.inl ((0 : Int), n)) = some (.inl (((0 : Nat) : Int), n - 0))
    rw [Int.sub_zero]; rfl
  · have h3 := numT_mono (T := T) (a := k + 1) (b := twT T n) (by omega)
    have h4 := numT_next (T := T) (t := k) (by omega)
    have h5 := hT_le hV k
    have h6 := hT_nn T k
    have h7 : numT T 0 0 = 0 := rfl
    have h8 := numT_mono (T := T) (a := 0) (b := k) (by omega)
    rw [numT_s (s := hT T k)] at h4
    show b_M_towerOf_4 n (k : Int) (n - numT T k 0) μ = _
    unfold b_M_towerOf_4
    rw [z32_id (z := 1 + (k : Int)) (by omega) (by omega), if_pos (by omega), hW.2.1 k (by omega) (by omega), if_neg (by omega), if_pos (by omega), z32_id (by omega) (by omega), z32_id (by omega) (by omega)]
    rw [show ((k + 1 : Nat) : Int) = (k : Int) + 1 by omega, h4, show n - (numT T k 0 + hT T k) = n - numT T k 0 - hT T k by omega]
  · show zE _ (b_M_towerOf_4 n ((twT T n).toNat : Int) (n - numT T ((twT T n).toNat : Int) 0) μ) _
    rw [show ((twT T n).toNat : Int) = twT T n by omega]
    unfold b_M_towerOf_4
    rw [z32_id (z := 1 + twT T n) (by omega) (by omega), if_pos (by omega), hW.2.1 _ (by omega) (by omega), if_pos (by omega)]
    exact zE_ret
theorem M_storeyOf (hW : IsV (μ 43) T) (hV : VT T) (h1 : 0 ≤ n) (h2 : n < tot T) : f_M_storeyOf n μ = some (syT T n) := by
  obtain ⟨a1, a2, a3, a4, a5⟩ := num_tw hV h1 h2
  have hn := nT_le hV
  have h6 := hT_le hV (twT T n)
  rw [numT_s] at a5
  unfold f_M_storeyOf
  rw [M_towerOf hW hV h1 h2, z_some_bind, M_numberOf hW hV (by omega) (by omega) a1 (by omega), z_some_bind, show n - numT T (twT T n) 0 = syT T n by omega, z32_id (by omega) (by omega)]
theorem M_lesser {a b : Int} : f_M_lesser a b = min a b := by
  unfold f_M_lesser
  split <;> omega
theorem M_lightBy (hW : IsV (μ 43) T) (hV : VT T) (h1 : 0 ≤ s) (h2 : s < hT T t) : f_M_lightBy t s w μ = some (liT T t s w) := by
  have h3 := hT_pos (show 0 < hT T t by omega)
  have h4 := nT_le hV
  have h5 := hT_le hV t
  have h6 := hoT_in T t s
  have h7 := zand_le (b := zxor w (-1)) h6.1 (by omega)
  have h8 := zpop_in (zand (hoT T t s) (zxor w (-1)))
  have h9 := lampsT_in hV t s h1
  unfold f_M_lightBy
  rw [M_hoursOf hW hV h1 (by omega) h3.1 (by omega), z_some_bind, M_ones h7.1 (by omega), z_some_bind, M_lampsOver hW hV h1 h2, z_some_bind, M_lesser, z32_id (by omega) (by omega)]
  rfl
theorem M_lightOf (hW : IsV (μ 43) T) (hV : VT T) (h1 : 0 ≤ n) (h2 : n < tot T) : f_M_lightOf n μ = some (liN T n 0) := by
  obtain ⟨a1, a2, a3, a4, a5⟩ := num_tw hV h1 h2
  unfold f_M_lightOf
  rw [M_towerOf hW hV h1 h2, z_some_bind, M_storeyOf hW hV h1 h2, z_some_bind, M_lightBy hW hV a3 a4, z_some_bind]
  rfl
theorem M_allLight (hW : IsV (μ 43) T) (hV : VT T) : f_M_allLight μ = some (liAll T) := by
  have ht := tot_le hV
  refine zE_go (zE_for (fun k => (zsum k (fun j => liN T j 0), (k : Int))) (tot T).toNat rfl (fun k hk => ?_) ?_)
  · have h1 := liAll_in hV k (by omega)
    have h2 := num_tw (i := k) hV (by omega) (by omega)
    have h3 := liT_in hV (twT T k) (syT T k) 0 h2.2.2.1
    have h4 : liN T k 0 = liT T (twT T k) (syT T k) 0 := rfl
    show b_M_allLight_4 (zsum k (fun j => liN T j 0)) (k : Int) μ = _
    unfold b_M_allLight_4
    rw [M_houses hW hV, z_some_bind, if_pos (by omega), M_lightOf hW hV (by omega) (by omega), z_some_bind, z32_id (by omega) (by omega), z32_id (by omega) (by omega), zsum_s]
    rfl
  · show zE _ (b_M_allLight_4 (zsum (tot T).toNat (fun j => liN T j 0)) ((tot T).toNat : Int) μ) _
    unfold b_M_allLight_4
    rw [M_houses hW hV, z_some_bind, if_neg (by omega)]
    exact zE_ret
def swN (T : zT) (n : Int) : Bool := swT T (twT T n) (syT T n)
theorem M_swaying (hW : IsV (μ 43) T) (hV : VT T) : f_M_swaying μ = some (zset2 (tot T).toNat (fun n => swN T n)) := by
  have hn := nT_le hV
  have ht := tot_le hV
  refine zE_go (zE_two (fun t => .inl (zset2 (numT T t 0).toNat (fun n => swN T n), (t : Int))) (fun t s => .inr (zset2 (numT T t s).toNat (fun n => swN T n), (t : Int), (s : Int))) (nT T).toNat (fun t => (hT T t).toNat) rfl (fun t h1 => ?_) (fun t s h1 h2 => ?_) (fun t h1 => ?_) ?_)
  · show b_M_swaying_4 (zset2 (numT T t 0).toNat (fun n => swN T n)) (t : Int) μ = _
    unfold b_M_swaying_4
    rw [hW.1, if_pos (by omega)]
    rfl
  · have h3 := hT_le hV t
    have h4 := numT_in hV (t := t) (s := s) (by omega) (by omega)
    obtain ⟨e1, e2⟩ := tw_num hV (t := t) (s := s) (by omega) (by omega)
    have hb := zset2_b (fun n => swN T n) (numT T t s).toNat
    have hp := z_pow (numT T t s).toNat (by omega)
    have e3 : numT T t ((s + 1 : Nat) : Int) = numT T t s + 1 := by rw [numT_s, numT_s (s := (s : Int))]; omega
    have e4 : swN T (((numT T t s).toNat : Nat) : Int) = swT T t s := by unfold swN; rw [show (((numT T t s).toNat : Nat) : Int) = numT T t s by omega, e1, e2]
    show b_M_swaying_16 (zset2 (numT T t s).toNat (fun n => swN T n)) (t : Int) (s : Int) μ = _
    unfold b_M_swaying_16
    rw [z32_id (z := 1 + (t : Int)) (by omega) (by omega), if_pos (by omega), hW.2.1 t (by omega) (by omega), if_pos (by omega), M_weighsOn hW hV (by omega) (by omega), z_some_bind, M_bearsAt hW hV (by omega) (by omega), z_some_bind, z32_id (z := (s : Int) + 1) (by omega) (by omega), M_numberOf hW hV (by omega) (by omega) (by omega) (by omega), z_some_bind]
    rw [e3, show (numT T t s + 1).toNat = (numT T t s).toNat + 1 by omega, zset2_s, e4]
    by_cases c : bT T t s < weiT T t s
    · rw [if_pos c, if_pos (by unfold swT; simpa using c)]
      have e5 := zor_add (a := zset2 (numT T t s).toNat (fun n => swN T n)) (i := (numT T t s).toNat) (by omega) hb.1 hb.2
      rw [show (((numT T t s).toNat : Nat) : Int) = numT T t s by omega] at e5
      rw [e5]
      rfl
    · rw [if_neg c, if_neg (by unfold swT; simpa using c), zor_0 hb.1 (by omega), Int.add_zero]
      rfl
  · have e := numT_next (T := T) (t := t) (by omega)
    have h3 := hT_nn T t
    show b_M_swaying_16 (zset2 (numT T t ((hT T t).toNat : Int)).toNat (fun n => swN T n)) (t : Int) ((hT T t).toNat : Int) μ = _
    unfold b_M_swaying_16
    rw [z32_id (z := 1 + (t : Int)) (by omega) (by omega), if_pos (by omega), hW.2.1 t (by omega) (by omega), if_neg (by omega), z32_id (by omega) (by omega), show ((hT T t).toNat : Int) = hT T t by omega, ← e]
    rfl
  · show zE _ (b_M_swaying_4 (zset2 (numT T ((nT T).toNat : Int) 0).toNat (fun n => swN T n)) ((nT T).toNat : Int) μ) _
    have h3 := nT_nn T
    unfold b_M_swaying_4
    rw [hW.1, if_neg (by omega), show ((nT T).toNat : Int) = nT T by omega, tot_num hV]
    exact zE_ret
end ML1
