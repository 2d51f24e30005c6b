/-! fog: which hours were dark -/
def zall (p : Nat → Bool) : Nat → Bool
  | 0 => true
  | n + 1 => zall p n && p n
theorem zall_iff (p : Nat → Bool) : ∀ n, zall p n = true ↔ ∀ k, k < n → p k = true
  | 0 => ⟨fun _ k hk => absurd hk (by omega), fun _ => rfl⟩
  | n + 1 => by
    show (zall p n && p n) = true ↔ _
    rw [Bool.and_eq_true, zall_iff p n]
    constructor
    · intro h k hk
      by_cases c : k = n
      · subst c; exact h.2
      · exact h.1 k (by omega)
    · intro h
      exact ⟨fun k hk => h k (by omega), h n (by omega)⟩
theorem z_first (p : Nat → Prop) : ∀ N : Nat, (∀ m, m < N → p m) ∨ ∃ n, n < N ∧ (∀ m, m < n → p m) ∧ ¬ p n := by
  intro N
  induction N with
  | zero => left; intro m hm; omega
  | succ N ih =>
    rcases ih with g | ⟨n, g1, g2, g3⟩
    · by_cases d : p N
      · left; intro m hm
        by_cases e : m = N
        · subst e; exact d
        · exact g m (by omega)
      · right; exact ⟨N, by omega, g, d⟩
    · right; exact ⟨n, by omega, g2, g3⟩
/-- does the row f tell the light of every house, the hours w dark? -/
def seT (T : zT) (f : Nat → Int) (w : Int) : Bool := zall (fun j => decide (f j = liN T j w)) (tot T).toNat
section FG
variable {μ : zM} {T : zT} {r w : Int}
theorem X_isLightAsIn (hL : IsL μ T) (hV : VT T) (hs : zSS μ 1 40 6 0) (h1 : 0 ≤ r) (h2 : r < 6) (h3 : μ 2 r.toNat = tot T) : f_X_isLightAsIn r w μ = some (if seT T (fun j => μ 3 (40 * r.toNat + j)) w = true then 1 else 0) := by
  have ht := tot_le hV
  have hz : μ (1 + 1) r.toNat = tot T := h3
  have st : ∀ k : Nat, (k : Int) < tot T → b_X_isLightAsIn_2 r w (k : Int) μ = if μ 3 (40 * r.toNat + k) = liN T k w then some (.inl ((k + 1 : Nat) : Int)) else some (.inr 0) := fun k hk => by
    unfold b_X_isLightAsIn_2
    rw [S_sizeOf zSC_1 h1 h2, z_some_bind, if_pos (by omega), S_get zSC_1 hs h1 h2 (by omega) (by omega), z_some_bind, L_lightIn hV hL, z_some_bind, if_pos (show 0 ≤ (k : Int) ∧ (k : Int) < tot T from ⟨by omega, hk⟩), z32_id (by omega) (by omega), show (((40 : Nat) : Int) * r + k).toNat = 40 * r.toNat + k by omega]
    rfl
  refine zE_go ?_
  rcases z_first (fun k => μ 3 (40 * r.toNat + k) = liN T k w) (tot T).toNat with g | ⟨n, g1, g2, g3⟩
  · have g' : seT T (fun j => μ 3 (40 * r.toNat + j)) w = true := (zall_iff _ _).mpr (fun k hk => decide_eq_true (g k hk))
    rw [if_pos g']
    refine zE_for (fun k => (k : Int)) (tot T).toNat rfl (fun k hk => ?_) ?_
    · show b_X_isLightAsIn_2 r w (k : Int) μ = _
      rw [st k (by omega), if_pos (g k hk)]
    · show zE _ (b_X_isLightAsIn_2 r w ((tot T).toNat : Int) μ) _
      unfold b_X_isLightAsIn_2
      rw [S_sizeOf zSC_1 h1 h2, z_some_bind, if_neg (by omega)]
      exact zE_ret
  · have g' : ¬ seT T (fun j => μ 3 (40 * r.toNat + j)) w = true := fun z => g3 (of_decide_eq_true ((zall_iff _ _).mp z n g1))
    rw [if_neg g']
    refine zE_for (fun k => (k : Int)) n rfl (fun k hk => ?_) ?_
    · show b_X_isLightAsIn_2 r w (k : Int) μ = _
      rw [st k (by omega), if_pos (g2 k hk)]
    · show zE _ (b_X_isLightAsIn_2 r w (n : Int) μ) _
      rw [st n (by omega), if_neg g3]
      exact zE_ret
theorem M_isSeen (hW : IsV (μ 43) T) (hV : VT T) (h1 : 0 ≤ r) (h2 : r < 6) : f_M_isSeen r w μ = some (if seT T (fun j => μ 45 (40 * r.toNat + j)) w = true then 1 else 0) := by
  have ht := tot_le hV
  refine zE_go (zE_for (fun k => ((if zall (fun j => decide (μ 45 (40 * r.toNat + j) = liN T j w)) k = true then 1 else 0), (k : Int))) (tot T).toNat rfl (fun k hk => ?_) ?_)
  · obtain ⟨a1, a2, a3, a4, a5⟩ := num_tw hV (i := k) (by omega) (by omega)
    show b_M_isSeen_5 r w (if zall (fun j => decide (μ 45 (40 * r.toNat + j) = liN T j w)) k = true then 1 else 0) (k : Int) μ = _
    unfold b_M_isSeen_5
    rw [M_houses hW hV, z_some_bind, if_pos (by omega), z32_id (z := (k : Int) + 1) (by omega) (by omega)]
    have e : zall (fun j => decide (μ 45 (40 * r.toNat + j) = liN T j w)) (k + 1) = (zall (fun j => decide (μ 45 (40 * r.toNat + j) = liN T j w)) k && decide (μ 45 (40 * r.toNat + k) = liN T k w)) := rfl
    rw [e]
    by_cases c : zall (fun j => decide (μ 45 (40 * r.toNat + j) = liN T j w)) k = true
    · rw [z_if1 c, M_towerOf hW hV (by omega) (by omega), z_some_bind, M_storeyOf hW hV (by omega) (by omega), z_some_bind, M_lightBy hW hV a3 a4, z_some_bind, z32_id (z := 40 * r) (by omega) (by omega), z32_id (z := 40 * r + k) (by omega) (by omega), if_pos (by omega), show (40 * r + (k : Int)).toNat = 40 * r.toNat + k by omega, c]
      by_cases d : μ 45 (40 * r.toNat + k) = liN T k w
      · have d2 : liT T (twT T k) (syT T k) w = μ 45 (40 * r.toNat + k) := d.symm
        rw [if_pos d2, if_pos (by simpa using d)]; rfl
      · have d2 : ¬ liT T (twT T k) (syT T k) w = μ 45 (40 * r.toNat + k) := fun z => d z.symm
        rw [if_neg d2, if_neg (by simpa using d)]; rfl
    · rw [z_if0 c, if_neg (by simp [c])]; rfl
  · show zE _ (b_M_isSeen_5 r w (if zall (fun j => decide (μ 45 (40 * r.toNat + j) = liN T j w)) (tot T).toNat = true then 1 else 0) ((tot T).toNat : Int) μ) _
    unfold b_M_isSeen_5
    rw [M_houses hW hV, z_some_bind, if_neg (by omega), if_pos (by split <;> omega)]
    exact zE_ret
theorem A_fog (h : Rel μ) : zAg (f_X_fog r μ) (f_M_fog r) := by
  obtain ⟨T, hV, hR, hW⟩ := Rel_T h
  have ht := tot_le hV
  by_cases c : 0 ≤ r ∧ r < ((6 : Nat) : Int)
  · have hz : μ (1 + 1) r.toNat = μ 46 r.toNat ∧ -1 ≤ μ (1 + 1) r.toNat ∧ μ (1 + 1) r.toNat ≤ 40 := h.2.1.2.2.1 r.toNat (by omega)
    by_cases d : μ (1 + 1) r.toNat < 0
    · obtain ⟨ν, e1, κ, e2, e3⟩ := Rel_found h (f := 1) (by omega) (by omega)
      refine ⟨-3, ν, zE_go ?_, κ, zE_go ?_, e3⟩
      · unfold e_X_fog
        rw [S_knows zSC_1, z_if1 c, S_isThere zSC_1 c.1 c.2, z_some_bind, z_ifn1 d, e1]
        exact zE_ret
      · have e46 : ν 46 = μ 46 := by
          unfold f_X_found at e1
          rw [if_neg (by omega), if_pos (by omega), if_pos (by omega), if_pos (by omega)] at e1
          have := congrArg (fun q => q.map (fun q => q.2 46)) e1
          simp only [Option.map_some] at this
          rw [← Option.some.inj this, zst_p (by omega), zst_p (by omega)]
        unfold e_M_fog f_M_isRow
        rw [M_in, z_if1 (by omega), if_pos (by omega), e46, if_pos (by omega), e2]
        exact zE_ret
    · by_cases e : μ (1 + 1) r.toNat = tot T
      · obtain ⟨ν, e1, e2, e3⟩ := L_reckon (μ := μ) hV (o := 8) (by omega) hR
        have hs : zSS ν 1 40 6 0 := by
          have := zSS_of h.2.1
          refine ⟨by rw [e3 1 (by omega)]; exact this.1, by rw [e3 1 (by omega)]; exact this.2.1, fun q hq => by rw [e3 (1 + 1) (by omega)]; exact this.2.2 q hq⟩
        have hx : ∀ w : Int, f_X_isLightAsIn r w ν = some (if seT T (fun j => μ 3 (40 * r.toNat + j)) w = true then 1 else 0) := fun w => by
          rw [X_isLightAsIn e2 hV hs c.1 (by omega) (by rw [e3 2 (by omega)]; exact e), e3 3 (by omega)]
        have eq : ∀ w : Int, seT T (fun j => μ 45 (40 * r.toNat + j)) w = seT T (fun j => μ 3 (40 * r.toNat + j)) w := fun w => by
          have hc : ∀ j : Nat, j < (tot T).toNat → μ 3 (40 * r.toNat + j) = μ 45 (40 * r.toNat + j) := fun j hj => h.2.1.2.2.2 r.toNat j (by omega) (by show (j : Int) < μ (1 + 1) r.toNat; omega)
          rw [Bool.eq_iff_iff]
          unfold seT
          rw [zall_iff, zall_iff]
          constructor
          · exact fun g k hk => decide_eq_true ((hc k hk).trans (of_decide_eq_true (g k hk)))
          · exact fun g k hk => decide_eq_true ((hc k hk).symm.trans (of_decide_eq_true (g k hk)))
        generalize hp : (fun w : Nat => seT T (fun j => μ 3 (40 * r.toNat + j)) (w : Int)) = p
        have hp2 : ∀ w : Nat, seT T (fun j => μ 3 (40 * r.toNat + j)) (w : Int) = p w := fun w => congrFun hp w
        have x1 : f_X_fog r μ = some (ctN p 32, zst ν 0 9 (fsN p 32)) := by
          refine zE_go (zE_for (fun w => (ctN p w, fsN p w, (w : Int), ν)) 32 ?_ (fun w hw => ?_) ?_)
          · unfold e_X_fog f_R_houseCount
            rw [S_knows zSC_1, z_if1 c, S_isThere zSC_1 c.1 c.2, z_some_bind, z_ifn0 d, S_sizeOf zSC_1 c.1 c.2, z_some_bind, hR.2.1, if_pos e, e1]
            rfl
          · have hci := ctN_in p w
            have f1 : ctN p (w + 1) = ctN p w + if p w then 1 else 0 := rfl
            have f2 : fsN p (w + 1) = if ctN p w = 0 then (if p w then (w : Int) else -9) else fsN p w := rfl
            show b_X_fog_79 r (ctN p w) (fsN p w) (w : Int) ν = _
            unfold b_X_fog_79
            rw [if_neg (by omega), hx, z_some_bind, hp2, z32_id (z := (w : Int) + 1) (by omega) (by omega), z32_id (z := ctN p w + 1) (by omega) (by omega), f1, f2]
            by_cases g : p w = true
            · rw [z_if1 g, if_pos g, if_pos g]
              by_cases g2 : ctN p w = 0
              · rw [if_pos g2, if_pos g2]; rfl
              · rw [if_neg g2, if_neg g2]; rfl
            · rw [z_if0 g, if_neg g, if_neg g, Int.add_zero]
              by_cases g2 : ctN p w = 0
              · rcases fsN_in p w with q | q
                · rw [if_pos g2, q.2]; rfl
                · exact absurd g2 q.1
              · rw [if_neg g2]; rfl
          · show zE _ (b_X_fog_79 r (ctN p 32) (fsN p 32) ((32 : Nat) : Int) ν) _
            unfold b_X_fog_79
            rw [if_pos (by omega)]
            exact zE_ret
        have hW2 : IsV (zst ν 0 9 (fsN p 32) 43) T := W_of hW (by rw [zst_p (by omega), e3 43 (by omega)])
        have m45 : zst ν 0 9 (fsN p 32) 45 = μ 45 := by rw [zst_p (by omega), e3 45 (by omega)]
        have m46 : zst ν 0 9 (fsN p 32) 46 = μ 46 := by rw [zst_p (by omega), e3 46 (by omega)]
        refine ⟨_, _, x1, _, ?_, Rel_reckon_tells (v := fsN p 32) h e3 zOut_rf⟩
        generalize zst ν 0 9 (fsN p 32) = ι at hW2 m45 m46 ⊢
        refine zE_go (zE_for (fun w => (ctN p w, fsN p w, (w : Int), ι)) 32 ?_ (fun w hw => ?_) ?_)
        · unfold e_M_fog f_M_isRow
          rw [M_in, z_if1 (by omega), if_pos (by omega), m46, if_neg (by omega), if_pos (by omega), M_houses hW2 hV, z_some_bind, if_pos (by omega)]
          rfl
        · have hci := ctN_in p w
          have f1 : ctN p (w + 1) = ctN p w + if p w then 1 else 0 := rfl
          have f2 : fsN p (w + 1) = if ctN p w = 0 then (if p w then (w : Int) else -9) else fsN p w := rfl
          show b_M_fog_51 r (ctN p w) (fsN p w) (w : Int) ι = _
          unfold b_M_fog_51 j_M_fog_81 j_M_fog_82
          rw [if_pos (by omega), M_isSeen hW2 hV c.1 (by omega), z_some_bind, m45, eq, hp2, z32_id (z := (w : Int) + 1) (by omega) (by omega), z32_id (z := ctN p w + 1) (by omega) (by omega), Int.add_zero, z32_id (z := ctN p w) (by omega) (by omega), f1, f2]
          by_cases g : p w = true
          · rw [z_if1 g, z_if1 g, z_if1 g, if_pos g, if_pos g]
            by_cases g2 : ctN p w = 0
            · rw [if_pos g2, if_pos g2]; rfl
            · rw [if_neg g2, if_neg g2]; rfl
          · rw [z_if0 g, z_if0 g, if_neg g, if_neg g, Int.add_zero]
            by_cases g2 : ctN p w = 0
            · rcases fsN_in p w with q | q
              · rw [if_pos g2, q.2]; rfl
              · exact absurd g2 q.1
            · rw [if_neg g2]; rfl
        · show zE _ (b_M_fog_51 r (ctN p 32) (fsN p 32) ((32 : Nat) : Int) ι) _
          unfold b_M_fog_51 f_M_tells
          rw [if_neg (by omega)]
          exact zE_ret
      · obtain ⟨ν, e1, κ, e2, e3⟩ := Rel_found h (f := 5) (by omega) (by omega)
        refine ⟨-3, ν, zE_go ?_, κ, zE_go ?_, e3⟩
        · unfold e_X_fog f_R_houseCount
          rw [S_knows zSC_1, z_if1 c, S_isThere zSC_1 c.1 c.2, z_some_bind, z_ifn0 d, S_sizeOf zSC_1 c.1 c.2, z_some_bind, hR.2.1, if_neg e, e1]
          exact zE_ret
        · have e4 : ν 46 = μ 46 ∧ ν 43 = μ 43 := by
            unfold f_X_found at e1
            rw [if_neg (by omega), if_pos (by omega), if_pos (by omega), if_pos (by omega)] at e1
            have := congrArg (fun q => q.map (fun q => (q.2 46, q.2 43))) e1
            simp only [Option.map_some] at this
            have := Prod.mk.inj (Option.some.inj this)
            rw [← this.1, ← this.2, zst_p (by omega), zst_p (by omega), zst_p (by omega), zst_p (by omega)]
            exact ⟨rfl, rfl⟩
          unfold e_M_fog f_M_isRow
          rw [M_in, z_if1 (by omega), if_pos (by omega), e4.1, if_neg (by omega), if_pos (by omega), M_houses (W_of hW e4.2) hV, z_some_bind, if_neg (by omega), e2]
          exact zE_ret
  · have e : f_X_fog r μ = some (-1, μ) := zE_go (by unfold e_X_fog; rw [S_knows zSC_1, z_if0 c]; exact zE_ret)
    rw [e]
    refine zAg_same h (zE_go ?_)
    unfold e_M_fog f_M_isRow
    rw [M_in, z_if0 (by omega)]
    exact zE_ret
end FG
