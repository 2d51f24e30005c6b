/-! by turns, the model's side: no recursion, a row of turns -/
def zWf (d : Nat) (ν κ : zM) : Prop := (∀ o, o ≠ 43 → o ≠ 54 → o ≠ 55 → κ o = ν o) ∧ (∀ c, 66 ≤ c → κ 43 c = ν 43 c) ∧ ∀ j, j < d → κ 54 j = ν 54 j ∧ κ 55 j = ν 55 j
theorem zWf_rf {d : Nat} {ν : zM} : zWf d ν ν := ⟨fun _ _ _ _ => rfl, fun _ _ => rfl, fun _ _ => ⟨rfl, rfl⟩⟩
theorem zWf_tr {d : Nat} {ν κ ι : zM} (h : zWf d ν κ) (g : zWf d κ ι) : zWf d ν ι := ⟨fun o a b c => by rw [g.1 o a b c, h.1 o a b c], fun c a => by rw [g.2.1 c a, h.2.1 c a], fun j hj => by rw [(g.2.2 j hj).1, (g.2.2 j hj).2, (h.2.2 j hj).1, (h.2.2 j hj).2]; exact ⟨rfl, rfl⟩⟩
theorem zWf_le {d e : Nat} {ν κ : zM} (h : zWf d ν κ) (he : e ≤ d) : zWf e ν κ := ⟨h.1, h.2.1, fun j hj => h.2.2 j (by omega)⟩
theorem zWf_43 {d : Nat} {ν κ : zM} (h : zO43 ν κ 0 66) : zWf d ν κ := ⟨fun o a _ _ => h.1 o a, fun c a => h.2 c (by omega), fun j _ => by rw [h.1 54 (by omega), h.1 55 (by omega)]; exact ⟨rfl, rfl⟩⟩
def zOv (b : Int) (n d l : Nat) (T : zT) (κ : zM) : Prop := IsV (κ 43) T ∧ ((d = n ∧ wnT b l T = -9) ∨ (d < n ∧ ((κ 55 d = 1 ∧ wnT b l T ≠ -9) ∨ (κ 55 d = 0 ∧ κ 54 d = nT T ∧ wnT b l T = -9))))
section WM
variable {μ : zM} {T : zT} {t b k : Int}
theorem IsV_pop {v w : Nat → Int} (hV : VT T) (hW : IsV w (addT T t k b)) (h1 : 0 ≤ t) (h2 : t < nT T) (hk : 0 ≤ k) (hb : 0 ≤ b) (hv : v (1 + t).toNat = hT T t) (hs : ∀ c, c ≠ (1 + t).toNat → v c = w c) : IsV v T := by
  have hn := nT_le hV
  have hw0 : w 0 = nT T := by rw [hW.1, addT_n]
  refine ⟨by rw [hs 0 (by omega)]; exact hw0, fun x hx hx2 => ?_, fun x y hx hx2 hy hy2 => ?_⟩
  · by_cases c : x = t
    · subst c; exact hv
    · have := hW.2.1 x hx (by rw [addT_n]; exact hx2)
      rw [hs _ (by omega), this, addT_h h1 h2, if_neg c]
  · have hh := hT_le hV x
    obtain ⟨c1, c2⟩ := addT_c (T := T) (t := t) (k := k) (b := b) h1 h2 hx hy hk hb
    obtain ⟨w1, w2⟩ := hW.2.2 x y hx (by rw [addT_n]; exact hx2) hy (by rw [addT_h h1 h2]; by_cases e : x = t; (rw [if_pos e, ← e]; omega); (rw [if_neg e]; exact hy2))
    have n1 : ¬ (x = t ∧ y = hT T t) := fun z => by obtain ⟨rfl, z⟩ := z; omega
    rw [hs _ (by omega), hs _ (by omega), w1, w2, c1, c2, if_neg n1, if_neg n1]
    exact ⟨rfl, rfl⟩
theorem M_isBuilt1 (hW : IsV (μ 43) T) (hV : VT T) (h1 : 0 ≤ t) (h2 : t < nT T) (hb : 0 ≤ b ∧ b < 10) (c : hT T t < 6 ∧ tot T < 12) (d : stT (addT T t 0 b) = true) : ∃ κ, f_M_isBuilt t b μ = some (1, κ) ∧ IsV (κ 43) (addT T t 0 b) ∧ zO43 μ κ 0 66 := by
  have hn := nT_le hV
  have hh := hT_nn T t
  have hW0 : IsV (zAt μ 0) T := by rw [zAt_0]; exact hW
  obtain ⟨κ, f1, f2, f3, f4⟩ := M_adds (b := 0) (t := t) (k := 0) (a := b) (by omega) hW0 hV h1 h2 c.1 (by omega) hb.1
  rw [zAt_0] at f2
  rw [Nat.zero_add] at f4
  have f1' : f_M_adds 0 t 0 b μ = some κ := f1
  have hV' := addT_V (k := 0) hV h1 h2 c.1 c.2 ⟨by omega, by omega⟩ hb
  refine ⟨κ, ?_, f2, f3⟩
  unfold f_M_isBuilt j_M_isBuilt_30
  rw [M_hasRoom hW hV h1 h2, z_some_bind, z_if1 c, f1', z_some_bind, M_swaying f2 hV', z_some_bind, if_pos ((sw_iff hV').mpr d), z32_id (z := 1 + t) (by omega) (by omega), if_pos (by omega), if_neg (by omega), if_pos (by omega), if_pos (Or.inr rfl), f4, z32_id (z := hT T t + 1 - 0) (by omega) (by omega), zst_self (by rw [f4]; omega)]
theorem M_isBuilt0 (hW : IsV (μ 43) T) (hV : VT T) (h1 : 0 ≤ t) (h2 : t < nT T) (hb : 0 ≤ b ∧ b < 10) (c : ¬ ((hT T t < 6 ∧ tot T < 12) ∧ stT (addT T t 0 b) = true)) : ∃ κ, f_M_isBuilt t b μ = some (0, κ) ∧ IsV (κ 43) T ∧ zO43 μ κ 0 66 := by
  have hn := nT_le hV
  have hh := hT_nn T t
  by_cases c1 : hT T t < 6 ∧ tot T < 12
  · have d : ¬ stT (addT T t 0 b) = true := fun z => c ⟨c1, z⟩
    have hW0 : IsV (zAt μ 0) T := by rw [zAt_0]; exact hW
    obtain ⟨κ, f1, f2, f3, f4⟩ := M_adds (b := 0) (t := t) (k := 0) (a := b) (by omega) hW0 hV h1 h2 c1.1 (by omega) hb.1
    rw [zAt_0] at f2
    rw [Nat.zero_add] at f4
    have f1' : f_M_adds 0 t 0 b μ = some κ := f1
    have hV' := addT_V (k := 0) hV h1 h2 c1.1 c1.2 ⟨by omega, by omega⟩ hb
    refine ⟨zst κ 43 (1 + t).toNat (hT T t), ?_, IsV_pop hV f2 h1 h2 (by omega) hb.1 zst_at (fun c hc => zst43_o hc), ⟨fun p hp => by rw [zst_p hp, f3.1 p hp], fun c hc => by rw [zst43_o (by omega), f3.2 c (by omega)]⟩⟩
    unfold f_M_isBuilt j_M_isBuilt_30
    rw [M_hasRoom hW hV h1 h2, z_some_bind, z_if1 c1, f1', z_some_bind, M_swaying f2 hV', z_some_bind, if_neg (fun z => d ((sw_iff hV').mp z)), z32_id (z := 1 + t) (by omega) (by omega), if_pos (by omega), if_pos rfl, if_pos (by omega), if_pos (Or.inl rfl), f4, z32_id (z := hT T t + 1 - 1) (by omega) (by omega), show hT T t + 1 - 1 = hT T t by omega]
  · refine ⟨μ, ?_, hW, ⟨fun _ _ => rfl, fun _ _ => rfl⟩⟩
    unfold f_M_isBuilt
    rw [M_hasRoom hW hV h1 h2, z_some_bind, if_neg c1, if_pos rfl, if_pos (Or.inl rfl)]
theorem M_over {n d l : Nat} {κ : zM} (hn : n ≤ 4) (hd : d ≤ n) (h : zOv b n d l T κ) : b_M_winsBy_16 b (n : Int) (d : Int) κ = j_M_winsBy_76 b (n : Int) (d : Int) (if wnT b l T = -9 then 0 else 1) κ := by
  unfold b_M_winsBy_16 j_M_winsBy_45 j_M_winsBy_50 j_M_winsBy_75
  rcases h.2 with ⟨h1, h2⟩ | ⟨h1, h2 | h2⟩
  · subst h1
    rw [if_pos rfl, if_neg (by omega), if_neg (by omega), if_pos h2]
  · rw [if_neg (by omega), if_pos (by omega), show ((d : Nat) : Int).toNat = d by omega, h2.1, if_neg (by omega), if_neg (by omega), if_pos (by omega), if_pos (by omega), if_neg (by omega), if_neg h2.2]
  · rw [if_neg (by omega), if_pos (by omega), show ((d : Nat) : Int).toNat = d by omega, h2.1, if_pos rfl, if_pos (by omega), h2.2.1, h.1.1, if_pos rfl, if_neg (by omega), if_pos (by omega), if_pos (by omega), if_pos rfl, if_pos h2.2.2]
theorem M_back {n d : Nat} {κ : zM} {w : Int} (hV : VT T) (hd : d + 1 ≤ 4) (hW : IsV (κ 43) (addT T t 0 b)) (h1 : 0 ≤ t) (h2 : t < nT T) (hb : 0 ≤ b) (h54 : κ 54 d = t) (h55 : κ 55 d = 0) (hw : w = 0 ∨ w = 1) : ∃ κ', j_M_winsBy_76 b (n : Int) ((d + 1 : Nat) : Int) w κ = some (.inl ((d : Int), κ')) ∧ IsV (κ' 43) T ∧ zWf d κ κ' ∧ κ' 54 d = t + 1 ∧ κ' 55 d = if w = 0 then 1 else 0 := by
  have hn := nT_le hV
  have hh := hT_nn T t
  have hh6 := hT_le hV t
  have e43 : κ 43 (1 + t).toNat = hT T t + 1 := by
    have := hW.2.1 t h1 (by rw [addT_n]; exact h2)
    rw [this, addT_h h1 h2, if_pos rfl]
  have ed : ((d + 1 : Nat) : Int) + (-1) = (d : Int) := by omega
  have a55 : ∀ v, zst κ 43 (1 + t).toNat v 55 d = 0 := fun v => by rw [zst_p (by omega)]; exact h55
  have a54 : ∀ v u, zst (zst κ 43 (1 + t).toNat v) 55 d u 54 d = t := fun v u => by rw [zst_p (by omega), zst_p (by omega)]; exact h54
  refine ⟨zst (zst (zst κ 43 (1 + t).toNat (hT T t)) 55 d (if w = 0 then 1 else 0)) 54 d (t + 1), ?_, ?_, ⟨fun o a1 a2 a3 => by rw [zst_p a2, zst_p a3, zst_p a1], fun c hc => by rw [zst_p (by omega), zst_p (by omega), zst43_o (by omega)], fun j hj => ⟨by rw [zst_o (Or.inr (by omega)), zst_p (by omega), zst_p (by omega)], by rw [zst_p (by omega), zst_o (Or.inr (by omega)), zst_p (by omega)]⟩⟩, zst_at, by rw [zst_p (by omega)]; exact zst_at⟩
  · have hr : (0 : Int) ≤ (d : Int) ∧ (d : Int) < 5 := by omega
    have hr2 : (0 : Int) ≤ 1 + t ∧ 1 + t < 10956 := by omega
    unfold j_M_winsBy_76
    rw [if_neg (by omega), z32_id (z := ((d + 1 : Nat) : Int) + (-1)) (by omega) (by omega), ed, if_pos hr, show ((d : Nat) : Int).toNat = d by omega, h54, z32_id (z := 1 + t) (by omega) (by omega), if_pos hr2, if_pos hr2, if_pos hr, e43, z32_id (z := hT T t + 1 - 1) (by omega) (by omega), show hT T t + 1 - 1 = hT T t by omega, a55, if_pos rfl]
    rcases hw with rfl | rfl
    · rw [if_pos rfl, if_pos ⟨hr, Or.inr rfl⟩, if_pos hr, if_pos hr, a54, z32_id (z := t + 1) (by omega) (by omega), if_pos rfl]
    · rw [if_neg (by omega), if_pos ⟨hr, Or.inl rfl⟩, if_pos hr, if_pos hr, a54, z32_id (z := t + 1) (by omega) (by omega), if_neg (by omega)]
  · have e : zst (zst (zst κ 43 (1 + t).toNat (hT T t)) 55 d (if w = 0 then 1 else 0)) 54 d (t + 1) 43 = zst κ 43 (1 + t).toNat (hT T t) 43 := by rw [zst_p (by omega), zst_p (by omega)]
    rw [e]
    exact IsV_pop hV hW h1 h2 (by omega) hb zst_at (fun c hc => zst43_o hc)
theorem M_wins {n : Nat} (hb : 0 ≤ b ∧ b < 10) (hn : n ≤ 4) : ∀ (l d : Nat), d + l = n → ∀ (T : zT) (ν : zM) (P : Int × zM → Prop), VT T → IsV (ν 43) T → (d < n → ν 54 d = 0 ∧ ν 55 d = 0) → (∀ κ, zOv b n d l T κ → zWf d ν κ → zQ (t_M_winsBy b (n : Int)) (some (.inl ((d : Int), κ))) P) → zQ (t_M_winsBy b (n : Int)) (some (.inl ((d : Int), ν))) P := by
  intro l
  induction l with
  | zero =>
    intro d hd T ν P hV hW h0 k
    exact k ν ⟨hW, Or.inl ⟨by omega, rfl⟩⟩ zWf_rf
  | succ l ih =>
    intro d hd T ν P hV hW h0 k
    have hn5 := nT_le hV
    have hn0 := nT_nn T
    have inner : ∀ (r i : Nat), i + r = (nT T).toNat → ∀ ν', IsV (ν' 43) T → zWf d ν ν' → ν' 54 d = (i : Int) → ν' 55 d = 0 → (∀ j, j < i → wnP b l T j = false) → zQ (t_M_winsBy b (n : Int)) (some (.inl ((d : Int), ν'))) P := by
      intro r
      induction r with
      | zero =>
        intro i hi ν' hW' hf h54 h55 hp
        exact k ν' ⟨hW', Or.inr ⟨by omega, Or.inr ⟨h55, by rw [h54]; omega, wnT_none.mpr (fun t ht => hp t (by omega))⟩⟩⟩ hf
      | succ r ihr =>
        intro i hi ν' hW' hf h54 h55 hp
        refine zQ_step ?_
        show zQ _ (b_M_winsBy_16 b (n : Int) (d : Int) ν') _
        unfold b_M_winsBy_16
        rw [if_neg (by omega), if_pos (by omega), show ((d : Nat) : Int).toNat = d by omega, h55, if_pos rfl, if_pos (by omega), h54, hW'.1, if_neg (by omega)]
        unfold j_M_winsBy_50
        rw [if_pos rfl, if_pos (by omega), show ((d : Nat) : Int).toNat = d by omega, h54]
        by_cases c : (hT T (i : Int) < 6 ∧ tot T < 12) ∧ stT (addT T (i : Int) 0 b) = true
        · obtain ⟨κ, e1, e2, e3⟩ := M_isBuilt1 hW' hV (t := (i : Int)) (by omega) (by omega) hb c.1 c.2
          have hV' := addT_V (k := 0) hV (t := (i : Int)) (by omega) (by omega) c.1.1 c.1.2 ⟨by omega, by omega⟩ hb
          have child : ∀ κ0, IsV (κ0 43) (addT T (i : Int) 0 b) → zWf (d + 1) κ κ0 → (d + 1 < n → κ0 54 (d + 1) = 0 ∧ κ0 55 (d + 1) = 0) → zQ (t_M_winsBy b (n : Int)) (some (.inl (((d + 1 : Nat) : Int), κ0))) P := fun κ0 w1 w2 w3 => by
            refine ih (d + 1) (by omega) (addT T (i : Int) 0 b) κ0 P hV' w1 w3 (fun κ' hov hwf => ?_)
            refine zQ_step ?_
            show zQ _ (b_M_winsBy_16 b (n : Int) ((d + 1 : Nat) : Int) κ') _
            have q54 : κ' 54 d = (i : Int) := by rw [(hwf.2.2 d (by omega)).1, (w2.2.2 d (by omega)).1, e3.1 54 (by omega)]; exact h54
            have q55 : κ' 55 d = 0 := by rw [(hwf.2.2 d (by omega)).2, (w2.2.2 d (by omega)).2, e3.1 55 (by omega)]; exact h55
            obtain ⟨κ'', g1, g2, g3, g4, g5⟩ := M_back (n := n) (d := d) (w := if wnT b l (addT T (i : Int) 0 b) = -9 then 0 else 1) hV (by omega) hov.1 (by omega) (by omega) hb.1 q54 q55 (by split <;> omega)
            have hfr : zWf d ν κ'' := zWf_tr (zWf_tr (zWf_tr (zWf_tr hf (zWf_43 e3)) (zWf_le w2 (by omega))) (zWf_le hwf (by omega))) g3
            rw [M_over hn (by omega) hov, g1]
            by_cases e : wnT b l (addT T (i : Int) 0 b) = -9
            · rw [if_pos e, if_pos rfl] at g5
              have hpi : wnP b l T i = true := wnP_iff.mpr ⟨c.1, c.2, e⟩
              refine k κ'' ⟨g2, Or.inr ⟨by omega, Or.inl ⟨g5, fun z => ?_⟩⟩⟩ hfr
              rw [wnT_none.mp z i (by omega)] at hpi
              exact absurd hpi (by simp)
            · rw [if_neg e, if_neg (by omega)] at g5
              refine ihr (i + 1) (by omega) κ'' g2 hfr (by rw [g4]; omega) g5 (fun j hj => ?_)
              by_cases f : j = i
              · subst f
                cases hq : wnP b l T j with
                | false => rfl
                | true => exact absurd (wnP_iff.mp hq).2.2 e
              · exact hp j (by omega)
          rw [e1, z_some_bind, if_neg (by show ¬ (1 : Int) = 0; omega), z32_id (z := (d : Int) + 1) (by omega) (by omega), show (d : Int) + 1 = ((d + 1 : Nat) : Int) by omega]
          by_cases f : d + 1 < n
          · rw [if_pos (by omega), if_pos (by omega), if_pos ⟨by omega, Or.inl rfl⟩, show ((d + 1 : Nat) : Int).toNat = d + 1 by omega]
            refine child _ ?_ ⟨fun o a1 a2 a3 => by rw [zst_p a3, zst_p a2], fun c hc => by rw [zst_p (by omega), zst_p (by omega)], fun j hj => ⟨by rw [zst_p (by omega), zst_o (Or.inr (by omega))], by rw [zst_o (Or.inr (by omega)), zst_p (by omega)]⟩⟩ (fun _ => ⟨by rw [zst_p (by omega)]; exact zst_at, zst_at⟩)
            rw [zst_p (by omega), zst_p (by omega)]; exact e2
          · rw [if_neg (by omega)]
            exact child κ e2 zWf_rf (fun z => absurd z f)
        · obtain ⟨κ, e1, e2, e3⟩ := M_isBuilt0 hW' hV (t := (i : Int)) (by omega) (by omega) hb c
          rw [e1, z_some_bind, if_pos rfl, if_pos (by omega), if_pos (by omega)]
          dsimp only
          rw [e3.1 54 (by omega), h54, z32_id (z := (i : Int) + 1) (by omega) (by omega)]
          refine ihr (i + 1) (by omega) (zst κ 54 d ((i : Int) + 1)) ?_ ?_ ?_ ?_ (fun j hj => ?_)
          · rw [zst_p (by omega)]; exact e2
          · exact zWf_tr hf (zWf_tr (zWf_43 e3) ⟨fun o _ a2 _ => zst_p a2, fun c hc => by rw [zst_p (by omega)], fun j hj => ⟨zst_o (Or.inr (by omega)), by rw [zst_p (by omega)]⟩⟩)
          · rw [zst_at]; omega
          · rw [zst_p (by omega), e3.1 55 (by omega)]; exact h55
          · by_cases f : j = i
            · subst f
              cases hq : wnP b l T j with
              | false => rfl
              | true => exact absurd ⟨(wnP_iff.mp hq).1, (wnP_iff.mp hq).2.1⟩ c
            · exact hp j (by omega)
    have h00 := h0 (by omega)
    exact inner (nT T).toNat 0 (by omega) ν hW zWf_rf (by rw [h00.1]; rfl) h00.2 (fun j hj => by omega)
theorem M_winsBy {n : Nat} (hW : IsV (μ 43) T) (hV : VT T) (hb : 0 ≤ b ∧ b < 10) (hn : n ≤ 4) : ∃ κ, f_M_winsBy b (n : Int) μ = some ((if wnT b n T = -9 then 0 else 1), κ) ∧ IsV (κ 43) T ∧ zWf 0 μ κ := by
  suffices hq : zQ (t_M_winsBy b (n : Int)) (e_M_winsBy b (n : Int) μ) (fun q => ∃ κ, q = ((if wnT b n T = -9 then 0 else 1), κ) ∧ IsV (κ 43) T ∧ zWf 0 μ κ) by
    obtain ⟨q, g1, κ, g2, g3⟩ := zQ_go hq
    exact ⟨κ, by rw [← g2]; exact g1, g3⟩
  have hf : zWf 0 μ (zst (zst μ 54 0 0) 55 0 0) := ⟨fun o _ a2 a3 => by rw [zst_p a3, zst_p a2], fun c _ => by rw [zst_p (by omega), zst_p (by omega)], fun j hj => by omega⟩
  refine M_wins hb hn n 0 (by omega) T (zst (zst μ 54 0 0) 55 0 0) _ hV (by rw [zst_p (by omega), zst_p (by omega)]; exact hW) (fun _ => ⟨by rw [zst_p (by omega)]; exact zst_at, zst_at⟩) (fun κ hov hwf => ?_)
  refine zQ_step ?_
  show zQ _ (b_M_winsBy_16 b (n : Int) ((0 : Nat) : Int) κ) _
  rw [M_over hn (by omega) hov]
  unfold j_M_winsBy_76
  rw [if_pos (by omega), if_pos (by split <;> omega)]
  exact zQ_ret ⟨κ, rfl, hov.1, zWf_tr hf hwf⟩
end WM
