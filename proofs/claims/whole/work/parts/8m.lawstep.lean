/-! THE LAW over plain functions: step by step the relation holds -/
def zLs (v : Int) (x : Option ((Int × zM) ⊕ Int)) : Prop := ∃ κ, x = some (.inl (v + 6, κ)) ∧ Rel κ
section LW
variable {μ : zM} {v N : Int}
theorem zLs_ite {c : Prop} [Decidable c] {a b : Option ((Int × zM) ⊕ Int)} (h1 : c → zLs v a) (h2 : ¬ c → zLs v b) : zLs v (if c then a else b) := by
  by_cases c : c
  · rw [if_pos c]; exact h1 c
  · rw [if_neg c]; exact h2 c
theorem zLs_in {c : Prop} [Decidable c] {a b : Option ((Int × zM) ⊕ Int)} (hc : c) (h1 : zLs v a) : zLs v (if c then a else b) := by
  rw [if_pos hc]; exact h1
theorem zLs_call {x : Option (Int × zM)} {y : zM → Option (Int × zM)} {g : Int × zM → Option ((Int × zM) ⊕ Int)} (h : zAg x y) (hg : ∀ a ν, g (a, ν) = (y ν).bind fun q => if a = q.1 then some (.inl (v + 6, q.2)) else some (.inr 0)) : zLs v (x.bind g) := by
  obtain ⟨a, ν, e1, κ, e2, e3⟩ := h
  rw [e1, z_some_bind, hg, e2, z_some_bind]
  exact ⟨κ, if_pos rfl, e3⟩
theorem zLs_ask {x y : Option Int} {g : Int → Option ((Int × zM) ⊕ Int)} (hr : Rel μ) (h : ∃ a, x = some a ∧ y = some a) (hg : ∀ a, g a = y.bind fun q => if a = q then some (.inl (v + 6, μ)) else some (.inr 0)) : zLs v (x.bind g) := by
  obtain ⟨a, e1, e2⟩ := h
  rw [e1, z_some_bind, hg, e2, z_some_bind]
  exact ⟨μ, if_pos rfl, hr⟩
theorem zLs_dig {x : Option (Int × zM)} {y : zM → Option (Int × zM)} {g : Int × zM → Option ((Int × zM) ⊕ Int)} (h : zAg x y) (hg : ∀ a ν, g (a, ν) = (y ν).bind fun q => if zlcmp a q.1 = 0 then some (.inl (v + 6, q.2)) else some (.inr 0)) : zLs v (x.bind g) := by
  obtain ⟨a, ν, e1, κ, e2, e3⟩ := h
  rw [e1, z_some_bind, hg, e2, z_some_bind]
  exact ⟨κ, if_pos (zlcmp_self a), e3⟩
set_option maxRecDepth 100000 in
set_option maxHeartbeats 8000000 in
theorem law_step {sc : Nat → Int} (hr : ∀ j, zrI (sc j)) (h : Rel μ) (h0 : 0 ≤ v) (h1 : v + 6 ≤ N) (h2 : N ≤ 3072) : zLs v (b_W_law sc N v μ) := by
  have e1 : z32 (v + 1) = v + 1 := z32_id (by omega) (by omega)
  have e2 : z32 (v + 2) = v + 2 := z32_id (by omega) (by omega)
  have e3 : z32 (v + 3) = v + 3 := z32_id (by omega) (by omega)
  have e4 : z32 (v + 4) = v + 4 := z32_id (by omega) (by omega)
  have e5 : z32 (v + 5) = v + 5 := z32_id (by omega) (by omega)
  have e6 : z32 (v + 6) = v + 6 := z32_id (by omega) (by omega)
  have e7 : z32 (N - 6) = N - 6 := z32_id (by omega) (by omega)
  have r0 : 0 ≤ v ∧ v < N := by omega
  have r1 : 0 ≤ v + 1 ∧ v + 1 < N := by omega
  have r2 : 0 ≤ v + 2 ∧ v + 2 < N := by omega
  have r3 : 0 ≤ v + 3 ∧ v + 3 < N := by omega
  have r4 : 0 ≤ v + 4 ∧ v + 4 < N := by omega
  have r5 : 0 ≤ v + 5 ∧ v + 5 < N := by omega
  unfold b_W_law
  simp only [e1, e2, e3, e4, e5, e6, e7, if_pos r0, if_pos r1, if_pos r2, if_pos r3, if_pos r4, if_pos r5]
  rw [if_neg (show ¬ N - 6 < v by omega)]
  refine zLs_ite (fun _ => ?_) (fun _ => ?_)
  · exact zLs_call (A_row h) (fun a ν => rfl)
  refine zLs_ite (fun _ => ?_) (fun _ => ?_)
  · exact zLs_call (A_lay h) (fun a ν => rfl)
  refine zLs_ite (fun _ => ?_) (fun _ => ?_)
  · exact zLs_call (A_at h) (fun a ν => rfl)
  refine zLs_ite (fun _ => ?_) (fun _ => ?_)
  · exact zLs_call (A_tear h) (fun a ν => rfl)
  refine zLs_ite (fun _ => ?_) (fun _ => ?_)
  · exact zLs_call (A_copy h (hr _) (hr _) (hr _)) (fun a ν => rfl)
  refine zLs_ite (fun _ => ?_) (fun _ => ?_)
  · exact zLs_call (A_mean h) (fun a ν => rfl)
  refine zLs_ite (fun _ => ?_) (fun _ => ?_)
  · exact zLs_call (A_text h) (fun a ν => rfl)
  refine zLs_ite (fun _ => ?_) (fun _ => ?_)
  · exact zLs_call (A_put h) (fun a ν => rfl)
  refine zLs_ite (fun _ => ?_) (fun _ => ?_)
  · exact zLs_call (A_fault h) (fun a ν => rfl)
  refine zLs_ite (fun _ => ?_) (fun _ => ?_)
  · exact zLs_call (A_rock h) (fun a ν => rfl)
  refine zLs_ite (fun _ => ?_) (fun _ => ?_)
  · exact zLs_ask h (A_tower h) (fun a => rfl)
  refine zLs_ite (fun _ => ?_) (fun _ => ?_)
  · exact zLs_call (A_house h) (fun a ν => rfl)
  refine zLs_ite (fun _ => ?_) (fun _ => ?_)
  · exact zLs_call (A_mark h) (fun a ν => rfl)
  refine zLs_ite (fun _ => ?_) (fun _ => ?_)
  · exact zLs_call (A_bear h) (fun a ν => rfl)
  refine zLs_ite (fun _ => ?_) (fun _ => ?_)
  · exact zLs_call (A_build h) (fun a ν => rfl)
  refine zLs_ite (fun _ => ?_) (fun _ => ?_)
  · exact zLs_call (A_leave h) (fun a ν => rfl)
  refine zLs_ite (fun _ => ?_) (fun _ => ?_)
  · exact zLs_call (A_undo h) (fun a ν => rfl)
  refine zLs_ite (fun _ => ?_) (fun _ => ?_)
  · exact zLs_call (A_keep h) (fun a ν => rfl)
  refine zLs_ite (fun _ => ?_) (fun _ => ?_)
  · exact zLs_call (A_on h) (fun a ν => rfl)
  refine zLs_ite (fun _ => ?_) (fun _ => ?_)
  · exact zLs_call (A_shades h) (fun a ν => rfl)
  refine zLs_ite (fun _ => ?_) (fun _ => ?_)
  · exact zLs_call (A_sees h) (fun a ν => rfl)
  refine zLs_ite (fun _ => ?_) (fun _ => ?_)
  · exact zLs_call (A_owes h) (fun a ν => rfl)
  refine zLs_ite (fun _ => ?_) (fun _ => ?_)
  · exact zLs_call (A_debt h) (fun a ν => rfl)
  refine zLs_ite (fun _ => ?_) (fun _ => ?_)
  · exact zLs_call (A_light h) (fun a ν => rfl)
  refine zLs_ite (fun _ => ?_) (fun _ => ?_)
  · exact zLs_call (A_ruined h) (fun a ν => rfl)
  refine zLs_ite (fun _ => ?_) (fun _ => ?_)
  · exact zLs_call (A_sways h) (fun a ν => rfl)
  refine zLs_ite (fun _ => ?_) (fun _ => ?_)
  · exact zLs_call (A_best h) (fun a ν => rfl)
  refine zLs_ite (fun _ => ?_) (fun _ => ?_)
  · exact zLs_call (A_both h) (fun a ν => rfl)
  refine zLs_ite (fun _ => ?_) (fun _ => ?_)
  · exact zLs_call (A_fewest h) (fun a ν => rfl)
  refine zLs_ite (fun _ => ?_) (fun _ => ?_)
  · exact zLs_call (A_relief h) (fun a ν => rfl)
  refine zLs_ite (fun _ => ?_) (fun _ => ?_)
  · exact zLs_call (A_high h) (fun a ν => rfl)
  refine zLs_ite (fun _ => ?_) (fun _ => ?_)
  · exact zLs_call (A_settle h) (fun a ν => rfl)
  refine zLs_ite (fun _ => ?_) (fun _ => ?_)
  · exact zLs_call (A_rings h) (fun a ν => rfl)
  refine zLs_ite (fun _ => ?_) (fun _ => ?_)
  · exact zLs_call (A_game h) (fun a ν => rfl)
  refine zLs_ite (fun _ => ?_) (fun _ => ?_)
  · exact zLs_call (A_begin h) (fun a ν => rfl)
  refine zLs_ite (fun _ => ?_) (fun _ => ?_)
  · exact zLs_call (A_fog h) (fun a ν => rfl)
  refine zLs_ite (fun _ => ?_) (fun _ => ?_)
  · exact zLs_call (A_kinds h) (fun a ν => rfl)
  refine zLs_ite (fun _ => ?_) (fun _ => ?_)
  · exact zLs_call (A_odds h) (fun a ν => rfl)
  refine zLs_ite (fun _ => ?_) (fun _ => ?_)
  · exact zLs_call (A_lots h) (fun a ν => rfl)
  refine zLs_ite (fun _ => ?_) (fun _ => ?_)
  · exact zLs_in (A_scal h).1 ⟨μ, rfl, h⟩
  refine zLs_ite (fun _ => ?_) (fun _ => ?_)
  · exact zLs_in (A_scal h).2.1 ⟨μ, rfl, h⟩
  refine zLs_ite (fun _ => ?_) (fun _ => ?_)
  · exact zLs_in (A_scal h).2.2.1 ⟨μ, rfl, h⟩
  refine zLs_ite (fun _ => ?_) (fun _ => ?_)
  · exact zLs_ask h (A_count h) (fun a => rfl)
  refine zLs_ite (fun _ => ?_) (fun _ => ?_)
  · exact zLs_in (A_scal h).2.2.2 ⟨μ, rfl, h⟩
  refine zLs_ite (fun _ => ?_) (fun _ => ?_)
  · exact zLs_ask h (A_findings h) (fun a => rfl)
  refine zLs_ite (fun _ => ?_) (fun _ => ?_)
  · exact zLs_dig (A_digest h) (fun a ν => rfl)
  exact ⟨μ, rfl, h⟩
end LW
