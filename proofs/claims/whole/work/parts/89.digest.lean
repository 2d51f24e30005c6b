/-! digest -/
def zmx (h v : Int) : Int := z64 (z64 (31 * h) + v)
def zdF (f : Nat → Int) (h : Int) : Nat → Int
  | 0 => h
  | n + 1 => zmx (zdF f h n) (f n)
def zdS (T : zT) (t : Nat) (h : Int) : Nat → Int
  | 0 => h
  | s + 1 => zdF (fun k => teT T (t : Int) (s : Int) (k : Int)) (zdS T t h s) 7
def zdT (T : zT) (h : Int) : Nat → Int
  | 0 => h
  | t + 1 => zdS T t (zmx (zdT T h t) (hT T (t : Int))) (hT T (t : Int)).toNat
def zdL (z : Nat → Int) (v : Nat → Nat → Int) (h : Int) : Nat → Int
  | 0 => h
  | r + 1 => zdF (v r) (zmx (zdL z v h r) (z r)) (z r).toNat
theorem zdF_congr {f g : Nat → Int} {h : Int} : ∀ {n : Nat}, (∀ k, k < n → f k = g k) → zdF f h n = zdF g h n
  | 0, _ => rfl
  | n + 1, e => by
    show zmx (zdF f h n) (f n) = zmx (zdF g h n) (g n)
    rw [zdF_congr (fun k hk => e k (by omega)), e n (by omega)]
theorem zdL_congr {z y : Nat → Int} {v w : Nat → Nat → Int} {h : Int} : ∀ {n : Nat}, (∀ r, r < n → z r = y r) → (∀ r i : Nat, r < n → (i : Int) < z r → v r i = w r i) → zdL z v h n = zdL y w h n
  | 0, _, _ => rfl
  | n + 1, e1, e2 => by
    show zdF (v n) (zmx (zdL z v h n) (z n)) (z n).toNat = zdF (w n) (zmx (zdL y w h n) (y n)) (y n).toNat
    rw [zdL_congr (fun r hr => e1 r (by omega)) (fun r i hr hi => e2 r i (by omega) hi), ← e1 n (by omega)]
    exact zdF_congr (fun k hk => e2 n k (by omega) (by omega))
section DG
variable {μ : zM} {T : zT} {v n : Int}
theorem X_digestHouses (hR : IsR μ 8 T) (hV : VT T) : ∃ ν, f_X_digestHouses v μ = some (zdT T v (nT T).toNat, ν) ∧ zOut μ ν 16 22 := by
  have hn := nT_le hV
  have hn0 := nT_nn T
  obtain ⟨ν, e1, e2, e3⟩ := L_reckon (μ := μ) hV (o := 8) (by omega) hR
  have hRν := IsR_out e3 (by omega) hR
  refine ⟨ν, zE_go ?_, e3⟩
  refine zE_nest (fun t => .inl (zdT T v t, (t : Int), ν)) (nT T).toNat ?_ (fun t ht hk => ?_) ?_
  · unfold e_X_digestHouses
    rw [e1]; rfl
  · have hh := hT_le hV t
    have hh0 := hT_nn T t
    show zE _ (b_X_digestHouses_19 v (zdT T v t) (t : Int) ν) _
    unfold b_X_digestHouses_19 f_R_towerCount
    rw [hRν.1, if_pos (by omega), R_heightOf hRν hV, z_some_bind]
    refine zE_nest (fun s => .inr (.inl (zdS T t (zmx (zdT T v t) (hT T t)) s, (t : Int), (s : Int), ν))) (hT T t).toNat rfl (fun s hs hk2 => ?_) ?_
    · show zE _ (b_X_digestHouses_57 v (zdS T t (zmx (zdT T v t) (hT T t)) s) (t : Int) (s : Int) ν) _
      unfold b_X_digestHouses_57
      rw [R_heightOf hRν hV, z_some_bind, if_pos (by omega)]
      refine zE_for (fun k => .inr (.inr (zdF (fun k => teT T (t : Int) (s : Int) (k : Int)) (zdS T t (zmx (zdT T v t) (hT T t)) s) k, (t : Int), (s : Int), (k : Int), ν))) 7 rfl (fun k hk3 => ?_) ?_
      · show b_X_digestHouses_77 v (zdF (fun k => teT T (t : Int) (s : Int) (k : Int)) (zdS T t (zmx (zdT T v t) (hT T t)) s) k) (t : Int) (s : Int) (k : Int) ν = _
        unfold b_X_digestHouses_77
        rw [if_neg (by omega), X_toldOf hRν hV e2 (by omega) (by omega), z_some_bind, z32_id (z := (k : Int) + 1) (by omega) (by omega)]
        rfl
      · show zE _ (b_X_digestHouses_77 v (zdF (fun k => teT T (t : Int) (s : Int) (k : Int)) (zdS T t (zmx (zdT T v t) (hT T t)) s) 7) (t : Int) (s : Int) ((7 : Nat) : Int) ν) _
        unfold b_X_digestHouses_77
        rw [if_pos (by omega), z32_id (z := (s : Int) + 1) (by omega) (by omega)]
        exact hk2
    · show zE _ (b_X_digestHouses_57 v (zdS T t (zmx (zdT T v t) (hT T t)) (hT T t).toNat) (t : Int) ((hT T t).toNat : Int) ν) _
      unfold b_X_digestHouses_57
      rw [R_heightOf hRν hV, z_some_bind, if_neg (by omega), z32_id (z := (t : Int) + 1) (by omega) (by omega)]
      exact hk
  · show zE _ (b_X_digestHouses_19 v (zdT T v (nT T).toNat) ((nT T).toNat : Int) ν) _
    unfold b_X_digestHouses_19 f_R_towerCount
    rw [hRν.1, if_neg (by omega)]
    exact zE_ret
theorem S_digestAll {o cap m : Nat} {fill : Int} (hc : zSC o cap m) (hs : zSS μ o cap m fill) : f_S_digestAll o v μ = some (zdL (μ (o + 1)) (fun r i => μ (o + 2) (cap * r + i)) v m) := by
  have hcap : cap ≤ 60 ∧ m ≤ 6 := by rcases hc.2 with h | h <;> omega
  have hz : zsz (o + 1) = (m : Int) := hc.1
  refine zE_go (zE_nest (fun r => .inl (zdL (μ (o + 1)) (fun r i => μ (o + 2) (cap * r + i)) v r, (r : Int))) m rfl (fun r hr hk => ?_) ?_)
  · have hb := hs.2.2 r hr
    show zE _ (b_S_digestAll_5 o v (zdL (μ (o + 1)) (fun r i => μ (o + 2) (cap * r + i)) v r) (r : Int) μ) _
    unfold b_S_digestAll_5
    rw [hz, if_pos (by omega), S_sizeOf hc (by omega) (by omega), z_some_bind, show ((r : Nat) : Int).toNat = r by omega]
    refine zE_for (fun i => .inr (zdF (fun i => μ (o + 2) (cap * r + i)) (zmx (zdL (μ (o + 1)) (fun r i => μ (o + 2) (cap * r + i)) v r) (μ (o + 1) r)) i, (r : Int), (i : Int))) (μ (o + 1) r).toNat rfl (fun i hi => ?_) ?_
    · have ec : ((cap : Int) * (r : Int) + (i : Int)).toNat = cap * r + i := by
        have : ((cap * r + i : Nat) : Int) = (cap : Int) * (r : Int) + (i : Int) := by simp
        omega
      show b_S_digestAll_32 o v (zdF (fun i => μ (o + 2) (cap * r + i)) (zmx (zdL (μ (o + 1)) (fun r i => μ (o + 2) (cap * r + i)) v r) (μ (o + 1) r)) i) (r : Int) (i : Int) μ = _
      unfold b_S_digestAll_32
      rw [S_sizeOf hc (by omega) (by omega), z_some_bind, show ((r : Nat) : Int).toNat = r by omega, if_pos (by omega), S_get hc hs (by omega) (by omega) (by omega) (by rw [show ((r : Nat) : Int).toNat = r by omega]; omega), z_some_bind, ec, z32_id (z := (i : Int) + 1) (by omega) (by omega)]
      rfl
    · show zE _ (b_S_digestAll_32 o v (zdF (fun i => μ (o + 2) (cap * r + i)) (zmx (zdL (μ (o + 1)) (fun r i => μ (o + 2) (cap * r + i)) v r) (μ (o + 1) r)) (μ (o + 1) r).toNat) (r : Int) ((μ (o + 1) r).toNat : Int) μ) _
      unfold b_S_digestAll_32
      rw [S_sizeOf hc (by omega) (by omega), z_some_bind, show ((r : Nat) : Int).toNat = r by omega, if_neg (by omega), z32_id (z := (r : Int) + 1) (by omega) (by omega)]
      exact hk
  · show zE _ (b_S_digestAll_5 o v (zdL (μ (o + 1)) (fun r i => μ (o + 2) (cap * r + i)) v m) (m : Int) μ) _
    unfold b_S_digestAll_5
    rw [hz, if_neg (by omega)]
    exact zE_ret
/-- what is counted, as the model has it -/
def mcN (μ : zM) (T : zT) (n : Int) : Int := if n = 0 then nT T else if n = 1 then tot T else if n = 2 then μ 42 1 else if n = 3 then mxT T (nT T).toNat else if n = 4 then allT T (fun t s => decide (cT T t s = 1 ∨ cT T t s = 4)) else if n = 5 then allT T (fun t s => decide (cT T t s = 2 ∨ cT T t s = 5)) else if n = 6 then zsum 6 (fun r => if μ 46 r < 0 then 0 else 1) else if n = 7 then zsum 4 (fun r => if μ 48 r < 0 then 0 else 1) else if n = 8 then zsum 3 (fun r => if μ 44 r < 0 then 0 else 1) else -1
theorem M_count_e (hW : IsV (μ 43) T) (hV : VT T) : f_M_count n μ = some (mcN μ T n) := by
  unfold f_M_count mcN
  rw [M_houses hW hV, M_highest hW hV, M_kindsMany hW hV (fun a => decide (a = 1 ∨ a = 4)) (fun a => by rw [if_neg (by omega), M_isGlass]; simp), M_kindsMany hW hV (fun a => decide (a = 2 ∨ a = 5)) (fun a => by rw [if_pos rfl, M_isLeaning]; simp), show f_M_thereOf 46 6 μ = f_M_thereOf 46 ((6 : Nat) : Int) μ from rfl, M_thereOf (by omega) (by decide), show f_M_thereOf 48 4 μ = f_M_thereOf 48 ((4 : Nat) : Int) μ from rfl, M_thereOf (by omega) (by decide), show f_M_thereOf 44 3 μ = f_M_thereOf 44 ((3 : Nat) : Int) μ from rfl, M_thereOf (by omega) (by decide), hW.1]
  repeat' split
  all_goals rfl
theorem X_count_e (h : Rel μ) (hW : IsV (μ 43) T) (hV : VT T) : f_X_count n μ = some (mcN μ T n) := by
  obtain ⟨a, e1, e2⟩ := A_count (n := n) h
  rw [M_count_e hW hV] at e2
  rw [e1, ← e2]
def dgV (μ : zM) (T : zT) : Int := zdL (μ 5) (fun r i => μ 6 (60 * r + i)) (zdL (μ 2) (fun r i => μ 3 (40 * r + i)) (zdF (μ 44) (zdT T (zdF (fun k => mcN μ T (k : Int)) 17 9) (nT T).toNat) 3) 6) 4
theorem X_digest (h : Rel μ) (hR : IsR μ 8 T) (hW : IsV (μ 43) T) (hV : VT T) : ∃ ν, f_X_digest μ = some (dgV μ T, ν) ∧ zOut μ ν 16 22 := by
  obtain ⟨ν, e1, e2⟩ := X_digestHouses (v := zdF (fun k => mcN μ T (k : Int)) 17 9) hR hV
  refine ⟨ν, zE_go ?_, e2⟩
  refine zE_for (fun k => .inl (zdF (fun k => mcN μ T (k : Int)) 17 k, (k : Int), μ)) 9 rfl (fun k hk => ?_) ?_
  · show b_X_digest_6 (zdF (fun k => mcN μ T (k : Int)) 17 k) (k : Int) μ = _
    unfold b_X_digest_6
    rw [if_neg (by omega), X_count_e h hW hV, z_some_bind, z32_id (z := (k : Int) + 1) (by omega) (by omega)]
    rfl
  · show zE _ (b_X_digest_6 (zdF (fun k => mcN μ T (k : Int)) 17 9) ((9 : Nat) : Int) μ) _
    unfold b_X_digest_6
    rw [if_pos (by omega), e1, z_some_bind]
    refine zE_for (fun k => .inr (zdF (μ 44) (zdT T (zdF (fun k => mcN μ T (k : Int)) 17 9) (nT T).toNat) k, (k : Int), ν)) 3 rfl (fun k hk => ?_) ?_
    · show b_X_digest_39 (zdF (μ 44) (zdT T (zdF (fun k => mcN μ T (k : Int)) 17 9) (nT T).toNat) k) (k : Int) ν = _
      unfold b_X_digest_39
      rw [if_pos (by omega), X_deedsKeptIn hk, z_some_bind, e2 (27 + 5 * k) (by omega), Rel_kept h k hk, z32_id (z := (k : Int) + 1) (by omega) (by omega)]
      rfl
    · have s1 : zSS ν 1 40 6 0 := by
        have := zSS_of h.2.1
        exact ⟨by rw [e2 1 (by omega)]; exact this.1, by rw [e2 1 (by omega)]; exact this.2.1, fun q hq => by rw [e2 (1 + 1) (by omega)]; exact this.2.2 q hq⟩
      have s4 : zSS ν 4 60 4 32 := by
        have := zSS_of h.2.2.1.1
        exact ⟨by rw [e2 4 (by omega)]; exact this.1, by rw [e2 4 (by omega)]; exact this.2.1, fun q hq => by rw [e2 (4 + 1) (by omega)]; exact this.2.2 q hq⟩
      show zE _ (b_X_digest_39 (zdF (μ 44) (zdT T (zdF (fun k => mcN μ T (k : Int)) 17 9) (nT T).toNat) 3) ((3 : Nat) : Int) ν) _
      unfold b_X_digest_39
      rw [if_neg (by omega), S_digestAll zSC_1 s1, z_some_bind, S_digestAll zSC_4 s4, z_some_bind, show ν (1 + 1) = μ 2 from e2 2 (by omega), show ν (1 + 2) = μ 3 from e2 3 (by omega), show ν (4 + 1) = μ 5 from e2 5 (by omega), show ν (4 + 2) = μ 6 from e2 6 (by omega)]
      exact zE_ret
/-- where the model mixes -/
def zD (μ ν : zM) (h : Int) : Prop := ν 42 18 = h ∧ (∀ k, k ≠ 18 → ν 42 k = μ 42 k) ∧ ∀ o, o ≠ 42 → o ≠ 51 → ν o = μ o
theorem M_mix_e {ν : zM} {a : Int} (h : zD μ ν a) : ∃ κ, f_M_mix v ν = some κ ∧ zD μ κ (zmx a v) ∧ κ 51 = ν 51 := by
  refine ⟨_, rfl, ⟨?_, fun k hk => ?_, fun o h1 h2 => ?_⟩, zst_p (by omega)⟩
  · rw [zst_at, h.1]; rfl
  · rw [zst_o (Or.inr hk), h.2.1 k hk]
  · rw [zst_p h1, h.2.2 o h1 h2]
theorem Rel_D {ν : zM} {a : Int} (h : Rel μ) (g : zD μ ν a) : Rel ν := by
  obtain ⟨q1, q2, q3, q4, q5⟩ := h
  refine ⟨?_, zR2_of q2 (fun o _ _ => g.2.2 o (by omega) (by omega)) (g.2.2 45 (by omega) (by omega)) (g.2.2 46 (by omega) (by omega)), zR3_of q3 (fun o _ _ => g.2.2 o (by omega) (by omega)) (g.2.2 47 (by omega) (by omega)) (g.2.2 48 (by omega) (by omega)), zR4_of q4 (fun o _ _ => g.2.2 o (by omega) (by omega)) (g.2.2 43 (by omega) (by omega)) (g.2.1 1 (by omega)), zR5_of q5 (fun o _ _ => g.2.2 o (by omega) (by omega)) (g.2.2 43 (by omega) (by omega)) (g.2.2 44 (by omega) (by omega))⟩
  unfold zR1 zRA at q1 ⊢
  rw [g.2.2 0 (by omega) (by omega), g.2.2 26 (by omega) (by omega), g.2.2 50 (by omega) (by omega), g.2.1 8 (by omega), g.2.1 10 (by omega), g.2.1 11 (by omega), g.2.1 12 (by omega)]
  exact q1
def dgA (μ : zM) (T : zT) : Int := zdF (fun k => mcN μ T (k : Int)) 17 9
def dgB (μ : zM) (T : zT) : Int := zdT T (dgA μ T) (nT T).toNat
def dgC (μ : zM) (T : zT) : Int := zdF (μ 44) (dgB μ T) 3
def dgE (μ : zM) (T : zT) : Int := zdL (μ 46) (fun r i => μ 45 (40 * r + i)) (dgC μ T) 6
def dgW (μ : zM) (T : zT) : Int := zdL (μ 48) (fun r i => μ 47 (60 * r + i)) (dgE μ T) 4
def dgP (μ : zM) (T : zT) (q : Int × zM) : Prop := ∃ κ, q = (dgW μ T, κ) ∧ zD μ κ (dgW μ T)
theorem M_dg197 {ν : zM} (h : Rel μ) (g : zD μ ν (dgE μ T)) : zQ t_M_digest (some (.inl (.inr (.inr (.inr (.inr (.inr (.inr (.inl ((0 : Int), ν)))))))))) (dgP μ T) := by
  refine zQ_nest (fun r s => ∃ ν, s = .inr (.inr (.inr (.inr (.inr (.inr (.inl ((r : Int), ν))))))) ∧ zD μ ν (zdL (μ 48) (fun r i => μ 47 (60 * r + i)) (dgE μ T) r)) 4 rfl ⟨ν, rfl, g⟩ ?_ ?_
  · rintro r _ hr ⟨ν, rfl, q⟩ hk
    have hz := h.2.2.1.1.2.2.1 r hr
    obtain ⟨κ, f1, f2, _⟩ := M_mix_e (v := μ 48 r) q
    show zQ _ (b_M_digest_197 (r : Int) ν) _
    unfold b_M_digest_197
    rw [if_pos (by omega), if_pos (by omega), show ((r : Nat) : Int).toNat = r by omega, q.2.2 48 (by omega) (by omega), f1, z_some_bind]
    refine zQ_nest (fun i s => ∃ ν, s = .inr (.inr (.inr (.inr (.inr (.inr (.inr (.inr ((r : Int), (i : Int), ν)))))))) ∧ zD μ ν (zdF (fun i => μ 47 (60 * r + i)) (zmx (zdL (μ 48) (fun r i => μ 47 (60 * r + i)) (dgE μ T) r) (μ 48 r)) i)) (μ 48 r).toNat rfl ⟨κ, rfl, f2⟩ ?_ ?_
    · rintro i _ hi ⟨ν, rfl, q⟩ hk2
      obtain ⟨κ, f1, f2, _⟩ := M_mix_e (v := μ 47 (60 * r + i)) q
      show zQ _ (b_M_digest_215 (r : Int) (i : Int) ν) _
      unfold b_M_digest_215
      rw [if_pos (by omega), show ((r : Nat) : Int).toNat = r by omega, q.2.2 48 (by omega) (by omega), if_pos (by omega), z32_id (z := 60 * (r : Int)) (by omega) (by omega), z32_id (z := 60 * (r : Int) + i) (by omega) (by omega), if_pos (by omega), show (60 * (r : Int) + i).toNat = 60 * r + i by omega, q.2.2 47 (by omega) (by omega), f1, z_some_bind, z32_id (z := (i : Int) + 1) (by omega) (by omega)]
      exact hk2 _ ⟨κ, rfl, f2⟩
    · rintro _ ⟨ν, rfl, q⟩
      show zQ _ (b_M_digest_215 (r : Int) ((μ 48 r).toNat : Int) ν) _
      unfold b_M_digest_215
      rw [if_pos (by omega), show ((r : Nat) : Int).toNat = r by omega, q.2.2 48 (by omega) (by omega), if_neg (by omega), z32_id (z := (r : Int) + 1) (by omega) (by omega)]
      exact hk _ ⟨ν, rfl, q⟩
  · rintro _ ⟨ν, rfl, q⟩
    show zQ _ (b_M_digest_197 ((4 : Nat) : Int) ν) _
    unfold b_M_digest_197
    rw [if_neg (by omega), q.1]
    exact zQ_ret ⟨ν, rfl, q⟩
theorem M_dg138 {ν : zM} (h : Rel μ) (g : zD μ ν (dgC μ T)) : zQ t_M_digest (some (.inl (.inr (.inr (.inr (.inr (.inl ((0 : Int), ν)))))))) (dgP μ T) := by
  refine zQ_nest (fun r s => ∃ ν, s = .inr (.inr (.inr (.inr (.inl ((r : Int), ν))))) ∧ zD μ ν (zdL (μ 46) (fun r i => μ 45 (40 * r + i)) (dgC μ T) r)) 6 rfl ⟨ν, rfl, g⟩ ?_ ?_
  · rintro r _ hr ⟨ν, rfl, q⟩ hk
    have hz := h.2.1.2.2.1 r hr
    obtain ⟨κ, f1, f2, _⟩ := M_mix_e (v := μ 46 r) q
    show zQ _ (b_M_digest_138 (r : Int) ν) _
    unfold b_M_digest_138
    rw [if_pos (by omega), if_pos (by omega), show ((r : Nat) : Int).toNat = r by omega, q.2.2 46 (by omega) (by omega), f1, z_some_bind]
    refine zQ_nest (fun i s => ∃ ν, s = .inr (.inr (.inr (.inr (.inr (.inr (.inr (.inl ((r : Int), (i : Int), ν)))))))) ∧ zD μ ν (zdF (fun i => μ 45 (40 * r + i)) (zmx (zdL (μ 46) (fun r i => μ 45 (40 * r + i)) (dgC μ T) r) (μ 46 r)) i)) (μ 46 r).toNat rfl ⟨κ, rfl, f2⟩ ?_ ?_
    · rintro i _ hi ⟨ν, rfl, q⟩ hk2
      obtain ⟨κ, f1, f2, _⟩ := M_mix_e (v := μ 45 (40 * r + i)) q
      show zQ _ (b_M_digest_157 (r : Int) (i : Int) ν) _
      unfold b_M_digest_157
      rw [if_pos (by omega), show ((r : Nat) : Int).toNat = r by omega, q.2.2 46 (by omega) (by omega), if_pos (by omega), z32_id (z := 40 * (r : Int)) (by omega) (by omega), z32_id (z := 40 * (r : Int) + i) (by omega) (by omega), if_pos (by omega), show (40 * (r : Int) + i).toNat = 40 * r + i by omega, q.2.2 45 (by omega) (by omega), f1, z_some_bind, z32_id (z := (i : Int) + 1) (by omega) (by omega)]
      exact hk2 _ ⟨κ, rfl, f2⟩
    · rintro _ ⟨ν, rfl, q⟩
      show zQ _ (b_M_digest_157 (r : Int) ((μ 46 r).toNat : Int) ν) _
      unfold b_M_digest_157
      rw [if_pos (by omega), show ((r : Nat) : Int).toNat = r by omega, q.2.2 46 (by omega) (by omega), if_neg (by omega), z32_id (z := (r : Int) + 1) (by omega) (by omega)]
      exact hk _ ⟨ν, rfl, q⟩
  · rintro _ ⟨ν, rfl, q⟩
    show zQ _ (b_M_digest_138 ((6 : Nat) : Int) ν) _
    unfold b_M_digest_138
    rw [if_neg (by omega)]
    exact M_dg197 h q
theorem M_dg114 {ν : zM} (h : Rel μ) (g : zD μ ν (dgB μ T)) : zQ t_M_digest (some (.inl (.inr (.inr (.inl ((0 : Int), ν)))))) (dgP μ T) := by
  refine zQ_nest (fun k s => ∃ ν, s = .inr (.inr (.inl ((k : Int), ν))) ∧ zD μ ν (zdF (μ 44) (dgB μ T) k)) 3 rfl ⟨ν, rfl, g⟩ ?_ ?_
  · rintro k _ hk ⟨ν, rfl, q⟩ hk2
    obtain ⟨κ, f1, f2, _⟩ := M_mix_e (v := μ 44 k) q
    show zQ _ (b_M_digest_114 (k : Int) ν) _
    unfold b_M_digest_114
    rw [if_pos (by omega), if_pos (by omega), show ((k : Nat) : Int).toNat = k by omega, q.2.2 44 (by omega) (by omega), f1, z_some_bind, z32_id (z := (k : Int) + 1) (by omega) (by omega)]
    exact hk2 _ ⟨κ, rfl, f2⟩
  · rintro _ ⟨ν, rfl, q⟩
    show zQ _ (b_M_digest_114 ((3 : Nat) : Int) ν) _
    unfold b_M_digest_114
    rw [if_neg (by omega)]
    exact M_dg138 h q
theorem M_dg37 {ν : zM} (h : Rel μ) (hW : IsV (μ 43) T) (hV : VT T) (g : zD μ ν (dgA μ T)) (gL : ∀ i j : Nat, i < 12 → j < 12 → ν 51 (12 * i + j) = lmT T i j) : zQ t_M_digest (some (.inl (.inr (.inl ((0 : Int), ν))))) (dgP μ T) := by
  have hn := nT_le hV
  have hn0 := nT_nn T
  refine zQ_nest (fun t s => ∃ ν, s = .inr (.inl ((t : Int), ν)) ∧ zD μ ν (zdT T (dgA μ T) t) ∧ ∀ i j : Nat, i < 12 → j < 12 → ν 51 (12 * i + j) = lmT T i j) (nT T).toNat rfl ⟨ν, rfl, g, gL⟩ ?_ ?_
  · rintro t _ ht ⟨ν, rfl, q, qL⟩ hk
    have hh := hT_le hV t
    have hh0 := hT_nn T t
    have e43 : ν 43 = μ 43 := q.2.2 43 (by omega) (by omega)
    have eh : μ 43 (1 + (t : Int)).toNat = hT T t := hW.2.1 t (by omega) (by omega)
    obtain ⟨κ, f1, f2, f3⟩ := M_mix_e (v := hT T t) q
    show zQ _ (b_M_digest_37 (t : Int) ν) _
    unfold b_M_digest_37
    rw [e43, hW.1, if_pos (by omega), z32_id (z := 1 + (t : Int)) (by omega) (by omega), if_pos (by omega), eh, f1, z_some_bind]
    refine zQ_nest (fun s q => ∃ ν, q = .inr (.inr (.inr (.inl ((t : Int), (s : Int), ν)))) ∧ zD μ ν (zdS T t (zmx (zdT T (dgA μ T) t) (hT T t)) s) ∧ ∀ i j : Nat, i < 12 → j < 12 → ν 51 (12 * i + j) = lmT T i j) (hT T t).toNat rfl ⟨κ, rfl, f2, by rw [f3]; exact qL⟩ ?_ ?_
    · rintro s _ hs ⟨ν, rfl, q, qL⟩ hk2
      have e43 : ν 43 = μ 43 := q.2.2 43 (by omega) (by omega)
      show zQ _ (b_M_digest_62 (t : Int) (s : Int) ν) _
      unfold b_M_digest_62
      rw [z32_id (z := 1 + (t : Int)) (by omega) (by omega), if_pos (by omega), e43, eh, if_pos (by omega)]
      refine zQ_nest (fun k q => ∃ ν, q = .inr (.inr (.inr (.inr (.inr (.inl ((t : Int), (s : Int), (k : Int), ν)))))) ∧ zD μ ν (zdF (fun k => teT T (t : Int) (s : Int) (k : Int)) (zdS T t (zmx (zdT T (dgA μ T) t) (hT T t)) s) k) ∧ ∀ i j : Nat, i < 12 → j < 12 → ν 51 (12 * i + j) = lmT T i j) 7 rfl ⟨ν, rfl, q, qL⟩ ?_ ?_
      · rintro k _ hk3 ⟨ν, rfl, q, qL⟩ hk4
        have hWν : IsV (ν 43) T := W_of hW (q.2.2 43 (by omega) (by omega))
        obtain ⟨κ, f1, f2, f3⟩ := M_mix_e (v := teT T (t : Int) (s : Int) (k : Int)) q
        show zQ _ (b_M_digest_76 (t : Int) (s : Int) (k : Int) ν) _
        unfold b_M_digest_76
        rw [if_pos (by omega), M_houseTells hWν hV qL (by omega) (by omega), z_some_bind, f1, z_some_bind, z32_id (z := (k : Int) + 1) (by omega) (by omega)]
        exact hk4 _ ⟨κ, rfl, f2, by rw [f3]; exact qL⟩
      · rintro _ ⟨ν, rfl, q, qL⟩
        show zQ _ (b_M_digest_76 (t : Int) (s : Int) ((7 : Nat) : Int) ν) _
        unfold b_M_digest_76
        rw [if_neg (by omega), z32_id (z := (s : Int) + 1) (by omega) (by omega)]
        exact hk2 _ ⟨ν, rfl, q, qL⟩
    · rintro _ ⟨ν, rfl, q, qL⟩
      have e43 : ν 43 = μ 43 := q.2.2 43 (by omega) (by omega)
      show zQ _ (b_M_digest_62 (t : Int) ((hT T t).toNat : Int) ν) _
      unfold b_M_digest_62
      rw [z32_id (z := 1 + (t : Int)) (by omega) (by omega), if_pos (by omega), e43, eh, if_neg (by omega), z32_id (z := (t : Int) + 1) (by omega) (by omega)]
      exact hk _ ⟨ν, rfl, q, qL⟩
  · rintro _ ⟨ν, rfl, q, qL⟩
    show zQ _ (b_M_digest_37 ((nT T).toNat : Int) ν) _
    unfold b_M_digest_37
    rw [q.2.2 43 (by omega) (by omega), hW.1, if_neg (by omega)]
    exact M_dg114 h q
theorem mcN_D {ν : zM} {a : Int} (g : zD μ ν a) : mcN ν T n = mcN μ T n := by
  unfold mcN
  rw [g.2.1 1 (by omega), g.2.2 46 (by omega) (by omega), g.2.2 48 (by omega) (by omega), g.2.2 44 (by omega) (by omega)]
theorem M_digest (h : Rel μ) (hW : IsV (μ 43) T) (hV : VT T) : ∃ κ, f_M_digest μ = some (dgW μ T, κ) ∧ zD μ κ (dgW μ T) := by
  suffices hq : zQ t_M_digest (e_M_digest μ) (dgP μ T) by
    obtain ⟨q, g1, κ, g2, g3⟩ := zQ_go hq
    exact ⟨κ, by rw [← g2]; exact g1, g3⟩
  refine zQ_nest (fun k s => ∃ ν, s = .inl ((k : Int), ν) ∧ zD μ ν (zdF (fun k => mcN μ T (k : Int)) 17 k)) 9 (s0 := .inl (0, zst μ 42 18 17)) rfl ⟨_, rfl, zst_at, fun k hk => zst_o (Or.inr hk), fun o h1 _ => zst_p h1⟩ ?_ ?_
  · rintro k _ hk ⟨ν, rfl, q⟩ hk2
    have hWν : IsV (ν 43) T := W_of hW (q.2.2 43 (by omega) (by omega))
    obtain ⟨κ, f1, f2, _⟩ := M_mix_e (v := mcN μ T (k : Int)) q
    show zQ _ (b_M_digest_9 (k : Int) ν) _
    unfold b_M_digest_9
    rw [if_pos (by omega), M_count_e hWν hV, z_some_bind, mcN_D q, f1, z_some_bind, z32_id (z := (k : Int) + 1) (by omega) (by omega)]
    exact hk2 _ ⟨κ, rfl, f2⟩
  · rintro _ ⟨ν, rfl, q⟩
    have hWν : IsV (ν 43) T := W_of hW (q.2.2 43 (by omega) (by omega))
    obtain ⟨κ, f1, f2, f3⟩ := M_layLamps hWν hV
    show zQ _ (b_M_digest_9 ((9 : Nat) : Int) ν) _
    unfold b_M_digest_9
    rw [if_neg (by omega), f1, z_some_bind]
    exact M_dg37 h hW hV ⟨by rw [f3 42 (by omega)]; exact q.1, fun k hk => by rw [f3 42 (by omega)]; exact q.2.1 k hk, fun o h1 h2 => by rw [f3 o (by omega)]; exact q.2.2 o h1 h2⟩ f2
theorem A_digest (h : Rel μ) : zAg (f_X_digest μ) (f_M_digest) := by
  obtain ⟨T, hV, hR, hW⟩ := Rel_T h
  obtain ⟨ν, e1, e2⟩ := X_digest h hR hW hV
  have hν : Rel ν := Rel_free h (fun o ho => e2 o (by omega))
  obtain ⟨κ, g1, g2⟩ := M_digest (μ := ν) hν (W_of hW (e2 43 (by omega))) hV
  have em : ∀ k : Int, mcN ν T k = mcN μ T k := fun k => by
    unfold mcN
    rw [e2 42 (by omega), e2 46 (by omega), e2 48 (by omega), e2 44 (by omega)]
  have eA : dgA ν T = zdF (fun k => mcN μ T (k : Int)) 17 9 := zdF_congr (fun k _ => em k)
  have h2 : zdL (μ 46) (fun r i => μ 45 (40 * r + i)) (zdF (μ 44) (zdT T (zdF (fun k => mcN μ T (k : Int)) 17 9) (nT T).toNat) 3) 6 = zdL (μ 2) (fun r i => μ 3 (40 * r + i)) (zdF (μ 44) (zdT T (zdF (fun k => mcN μ T (k : Int)) 17 9) (nT T).toNat) 3) 6 :=
    zdL_congr (fun r hr => (h.2.1.2.2.1 r hr).1.symm) (fun r i hr hi => (h.2.1.2.2.2 r i hr (by rw [(h.2.1.2.2.1 r hr).1]; exact hi)).symm)
  have e : dgW ν T = dgV μ T := by
    unfold dgW dgE dgC dgB dgV
    rw [eA, e2 44 (by omega), e2 45 (by omega), e2 46 (by omega), e2 47 (by omega), e2 48 (by omega), h2]
    exact zdL_congr (fun r hr => (h.2.2.1.1.2.2.1 r hr).1.symm) (fun r i hr hi => (h.2.2.1.1.2.2.2 r i hr (by rw [(h.2.2.1.1.2.2.1 r hr).1]; exact hi)).symm)
  exact ⟨_, ν, e1, κ, by rw [g1, e], Rel_D hν g2⟩
end DG
