/-! relief: which house, left out, lightens most -/
def rvT (T : zT) (n : Nat) : Int := liAll (gonT T (twT T n) (syT T n)) - (liAll T - liN T n 0)
def rlT (T : zT) : Nat → Int × Int
  | 0 => (-9, 0)
  | n + 1 => if (rlT T n).1 = -9 then ((n : Int), rvT T n) else if (rlT T n).2 < rvT T n then ((n : Int), rvT T n) else rlT T n
theorem rlT_s (T : zT) (n : Nat) : rlT T (n + 1) = if (rlT T n).1 = -9 then ((n : Int), rvT T n) else if (rlT T n).2 < rvT T n then ((n : Int), rvT T n) else rlT T n := rfl
section RL
variable {μ : zM} {T : zT}
theorem liAll_b (hV : VT T) : 0 ≤ liAll T ∧ liAll T ≤ 60 := by
  have ht := tot_le hV
  have h := liAll_in hV (tot T).toNat (by omega)
  unfold liAll; omega
theorem rvT_in (hV : VT T) {n : Nat} (hn : (n : Int) < tot T) : -60 ≤ rvT T n ∧ rvT T n ≤ 65 ∧ 0 ≤ liN T n 0 ∧ liN T n 0 ≤ 5 := by
  obtain ⟨a1, a2, a3, a4, a5⟩ := num_tw hV (i := n) (by omega) hn
  have h1 := liAll_b hV
  have h2 := liAll_b (gonT_V hV a3 a4)
  have h3 : 0 ≤ liN T n 0 ∧ liN T n 0 ≤ 5 := liT_in hV _ _ _ a3
  unfold rvT; omega
theorem rlT_in (hV : VT T) : ∀ n : Nat, (n : Int) ≤ tot T → ((rlT T n).1 = -9 ∨ (0 ≤ (rlT T n).1 ∧ -60 ≤ (rlT T n).2))
  | 0, _ => Or.inl rfl
  | n + 1, h => by
    have ih := rlT_in hV n (by omega)
    have hv := rvT_in hV (n := n) (by omega)
    rw [rlT_s]
    by_cases c : (rlT T n).1 = -9
    · rw [if_pos c]; right; dsimp only; omega
    · rw [if_neg c]
      by_cases d : (rlT T n).2 < rvT T n
      · rw [if_pos d]; right; dsimp only; omega
      · rw [if_neg d]; exact ih
theorem z_onebit : ∀ n : Nat, n < 12 → ∀ i : Nat, i < 12 → zand (zshr (zshl 1 (n : Int)) (i : Int)) 1 = if decide (i = n) then 1 else 0 := by decide +kernel
theorem X_relief (hR : IsR μ 8 T) (hV : VT T) : ∃ ν, zOut μ ν 13 22 ∧ f_X_relief μ = some ((rlT T (tot T).toNat).1, if (rlT T (tot T).toNat).1 = -9 then ν else zst ν 0 9 (rlT T (tot T).toNat).2) := by
  have ht := tot_le hV
  have hA := liAll_b hV
  obtain ⟨ν0, e1, e2, e3⟩ := L_reckon (μ := μ) hV (o := 8) (by omega) hR
  suffices hq : zQ t_X_relief (e_X_relief μ) (fun r => ∃ ν, zOut μ ν 13 22 ∧ r = ((rlT T (tot T).toNat).1, if (rlT T (tot T).toNat).1 = -9 then ν else zst ν 0 9 (rlT T (tot T).toNat).2)) by
    obtain ⟨r, g1, ν, g2, g3⟩ := zQ_go hq
    exact ⟨ν, g2, by rw [← g3]; exact g1⟩
  refine zQ_for (fun n q => ∃ ν, q = (liAll T, (rlT T n).1, (rlT T n).2, (n : Int), ν) ∧ zOut μ ν 13 22) (tot T).toNat (s0 := (liAll T, -9, 0, 0, ν0)) ?_ ⟨ν0, rfl, zOut_le e3 (by omega) (by omega)⟩ ?_ ?_
  · unfold e_X_relief
    rw [e1, z_some_bind, L_allLight hV e2]; rfl
  · rintro n _ hn ⟨ν, rfl, q2⟩
    have hRν : IsR ν 8 T := IsR_out q2 (by omega) hR
    obtain ⟨a1, a2, a3, a4, a5⟩ := num_tw hV (i := n) (by omega) (by omega)
    have hv := rvT_in hV (n := n) (by omega)
    have hV' := gonT_V hV a3 a4
    have hB := liAll_b hV'
    obtain ⟨ν1, f1, f2, f3⟩ := L_reckon (μ := ν) hV (o := 8) (by omega) hRν
    have hR1 : IsR ν1 8 T := IsR_out f3 (by omega) hRν
    obtain ⟨ν2, g1, g2, _, _, g3⟩ := R_takeWithout (o := 13) (v := zshl 1 (n : Int)) (p := fun a => decide (a = n)) hR1 hV (by omega) (fun i hi => z_onebit n (by omega) i (by omega))
    rw [wiT_one hV (by omega)] at g2
    obtain ⟨ν3, i1, i2, i3⟩ := L_reckon (μ := ν2) hV' (o := 13) (by omega) g2
    have ho : zOut μ ν3 13 22 := zOut_trans (zOut_trans (zOut_trans q2 (zOut_le f3 (by omega) (by omega))) (zOut_le g3 (by omega) (by omega))) (zOut_le i3 (by omega) (by omega))
    have er : liAll (gonT T (twT T n) (syT T n)) - (liAll T - liN T n 0) = rvT T n := rfl
    show ∃ u, b_X_relief_30 (liAll T) (rlT T n).1 (rlT T n).2 (n : Int) ν = some (.inl u) ∧ _
    unfold b_X_relief_30 f_R_houseCount
    rw [hRν.2.1, if_pos (by omega), f1, z_some_bind, L_lightOf hV f2, z_some_bind, if_pos (show 0 ≤ (n : Int) ∧ (n : Int) < tot T by omega), g1, z_some_bind, i1, z_some_bind, L_allLight hV' i2, z_some_bind, z32_id (z := liAll T - liN T n 0) (by omega) (by omega), er, z32_id (z := rvT T n) (by omega) (by omega), z32_id (z := (n : Int) + 1) (by omega) (by omega), rlT_s]
    by_cases c : (rlT T n).1 = -9
    · rw [if_pos c, if_pos c]; exact ⟨_, rfl, ν3, rfl, ho⟩
    · rw [if_neg c, if_neg c]
      by_cases d : (rlT T n).2 < rvT T n
      · rw [if_pos d, if_pos d]; exact ⟨_, rfl, ν3, rfl, ho⟩
      · rw [if_neg d, if_neg d]; exact ⟨_, rfl, ν3, rfl, ho⟩
  · rintro _ ⟨ν, rfl, q2⟩
    have hRν : IsR ν 8 T := IsR_out q2 (by omega) hR
    show zQ _ (b_X_relief_30 (liAll T) (rlT T (tot T).toNat).1 (rlT T (tot T).toNat).2 ((tot T).toNat : Int) ν) _
    unfold b_X_relief_30 f_R_houseCount
    rw [hRν.2.1, if_neg (by omega)]
    by_cases e : (rlT T (tot T).toNat).1 = -9
    · rw [if_pos e]; exact zQ_ret ⟨ν, q2, by rw [if_pos e]⟩
    · rw [if_neg e]; exact zQ_ret ⟨ν, q2, by rw [if_neg e]⟩
theorem M_relief (hW : IsV (μ 43) T) (hV : VT T) : ∃ κ, zRest μ κ ∧ f_M_relief μ = some ((rlT T (tot T).toNat).1, if (rlT T (tot T).toNat).1 = -9 then κ else zst κ 42 10 (rlT T (tot T).toNat).2) := by
  have ht := tot_le hV
  have hA := liAll_b hV
  obtain ⟨ν0, e1, e2⟩ := M_lays (μ := μ)
  suffices hq : zQ t_M_relief (e_M_relief μ) (fun r => ∃ ν, zRest μ ν ∧ r = ((rlT T (tot T).toNat).1, if (rlT T (tot T).toNat).1 = -9 then ν else zst ν 42 10 (rlT T (tot T).toNat).2)) by
    obtain ⟨r, g1, ν, g2, g3⟩ := zQ_go hq
    exact ⟨ν, g2, by rw [← g3]; exact g1⟩
  refine zQ_for (fun n q => ∃ ν, q = (tot T, (rlT T n).1, (if (rlT T n).1 = -9 then -1000000 else (rlT T n).2), (n : Int), ν) ∧ zRest μ ν) (tot T).toNat (s0 := (tot T, -9, -1000000, 0, ν0)) ?_ ⟨ν0, rfl, e2⟩ ?_ ?_
  · unfold e_M_relief
    rw [M_houses hW hV, z_some_bind, e1]; rfl
  · rintro n _ hn ⟨ν, rfl, q1⟩
    have hWν := zRest_W q1 hV hW
    obtain ⟨a1, a2, a3, a4, a5⟩ := num_tw hV (i := n) (by omega) (by omega)
    have hv := rvT_in hV (n := n) (by omega)
    have hin := rlT_in hV n (by omega)
    have hV' := gonT_V hV a3 a4
    have hB := liAll_b hV'
    obtain ⟨κ, f1, f2, f3⟩ := M_goes hWν hV a3 a4
    obtain ⟨θ, i1, i2⟩ := M_putsBack (zHeld_43 q1.1 f3)
    have er : liAll (gonT T (twT T n) (syT T n)) - (liAll T - liN T n 0) = rvT T n := rfl
    show ∃ u, b_M_relief_19 (tot T) (rlT T n).1 (if (rlT T n).1 = -9 then -1000000 else (rlT T n).2) (n : Int) ν = some (.inl u) ∧ _
    unfold b_M_relief_19 j_M_relief_75
    rw [if_pos (by omega), M_allLight hWν hV, z_some_bind, M_lightOf hWν hV (by omega) (by omega), z_some_bind, M_towerOf hWν hV (by omega) (by omega), z_some_bind, M_storeyOf hWν hV (by omega) (by omega), z_some_bind, f1, z_some_bind, M_allLight f2 hV', z_some_bind, z32_id (z := liAll T - liN T n 0) (by omega) (by omega), er, z32_id (z := rvT T n) (by omega) (by omega), z32_id (z := (n : Int) + 1) (by omega) (by omega), i1, z_some_bind]
    by_cases c : (rlT T n).1 = -9
    · have es : rlT T (n + 1) = ((n : Int), rvT T n) := by rw [rlT_s, if_pos c]
      rw [if_pos c, if_pos (by omega), if_pos (by omega)]
      refine ⟨_, rfl, θ, ?_, i2⟩
      rw [es, if_neg (by omega)]; rfl
    · rw [if_neg c]
      by_cases d : (rlT T n).2 < rvT T n
      · have es : rlT T (n + 1) = ((n : Int), rvT T n) := by rw [rlT_s, if_neg c, if_pos d]
        rw [if_pos d, if_pos d]
        refine ⟨_, rfl, θ, ?_, i2⟩
        rw [es, if_neg (by omega)]; rfl
      · have es : rlT T (n + 1) = rlT T n := by rw [rlT_s, if_neg c, if_neg d]
        rw [if_neg d, if_neg d]
        refine ⟨_, rfl, θ, ?_, i2⟩
        rw [es, if_neg c]; rfl
  · rintro _ ⟨ν, rfl, q1⟩
    show zQ _ (b_M_relief_19 (tot T) (rlT T (tot T).toNat).1 (if (rlT T (tot T).toNat).1 = -9 then -1000000 else (rlT T (tot T).toNat).2) ((tot T).toNat : Int) ν) _
    unfold b_M_relief_19 f_M_tells
    rw [if_neg (by omega)]
    by_cases e : (rlT T (tot T).toNat).1 = -9
    · rw [if_pos e]; exact zQ_ret ⟨ν, q1, by rw [if_pos e, e]⟩
    · rw [if_neg e, if_neg e]; exact zQ_ret ⟨ν, q1, by rw [if_neg e]⟩
theorem A_relief (h : Rel μ) : zAg (f_X_relief μ) (f_M_relief) := by
  obtain ⟨T, hV, hR, hW⟩ := Rel_T h
  obtain ⟨ν, e1, e2⟩ := X_relief hR hV
  by_cases e : (rlT T (tot T).toNat).1 = -9
  · obtain ⟨κ, g1, g2⟩ := M_relief (μ := ν) (W_of hW (e1 43 (by omega))) hV
    rw [if_pos e] at e2 g2
    exact ⟨_, ν, e2, κ, g2, Rel_rest h e1 g1⟩
  · obtain ⟨κ, g1, g2⟩ := M_relief (μ := zst ν 0 9 (rlT T (tot T).toNat).2) (W_of hW (by rw [zst_p (by omega), e1 43 (by omega)])) hV
    rw [if_neg e] at e2 g2
    exact ⟨_, _, e2, _, g2, Rel_rest_tells h e1 g1⟩
end RL
