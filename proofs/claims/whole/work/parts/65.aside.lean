/-! trying things aside: the component on its rock aside, the model on its own rock, put back after -/
theorem gonT_addT {T : zT} {t k b : Int} (h1 : 0 ≤ t) (h2 : t < nT T) : gonT (addT T t k b) t (hT T t) = T := by
  unfold gonT addT
  rw [getD_set, if_pos ⟨rfl, by unfold nT at h2; omega⟩, hT_len h1, List.set_set]
  have e : (T.getD t.toNat [] ++ [(k.toNat, b.toNat)]).eraseIdx (((T.getD t.toNat []).length : Int)).toNat = T.getD t.toNat [] := by
    rw [show (((T.getD t.toNat []).length : Int)).toNat = (T.getD t.toNat []).length by omega, List.eraseIdx_append_of_length_le (by omega), Nat.sub_self]
    simp
  rw [e]
  apply List.ext_getElem?
  intro i
  rw [List.getElem?_set]
  by_cases c : t.toNat = i
  · subst c
    have h3 : t.toNat < T.length := by unfold nT at h2; omega
    rw [if_pos rfl, if_pos h3, List.getElem?_eq_getElem h3, List.getD_eq_getElem?_getD, List.getElem?_eq_getElem h3]; rfl
  · rw [if_neg c]
def stT (T : zT) : Bool := !anyT T (swT T)
theorem anyT_iff {T : zT} {p : Int → Int → Bool} : anyT T p = false ↔ ∀ t s : Nat, (t : Int) < nT T → (s : Int) < hT T t → p t s = false := by
  have hn := nT_nn T
  unfold anyT
  rw [List.any_eq_false]
  constructor
  · intro h t s h1 h2
    have a := h t (List.mem_range.mpr (by omega))
    rw [Bool.not_eq_true, List.any_eq_false] at a
    have b := a s (List.mem_range.mpr (by omega))
    simpa using b
  · intro h t ht
    rw [Bool.not_eq_true, List.any_eq_false]
    intro s hs
    have a := List.mem_range.mp ht
    have b := List.mem_range.mp hs
    rw [h t s (by omega) (by omega)]; simp
theorem sw_iff {T : zT} (hV : VT T) : zset2 (tot T).toNat (fun n => swN T n) = 0 ↔ stT T = true := by
  have ht := tot_le hV
  have ep := zpop_set (tot T).toNat (fun n => swN T n) (by omega)
  have e1 : stT T = true ↔ anyT T (swT T) = false := by unfold stT; cases anyT T (swT T) <;> simp
  rw [e1, anyT_iff]
  constructor
  · intro h t s h1 h2
    rw [h] at ep
    have c0 : ctN (fun n => swN T n) (tot T).toNat = 0 := ep.symm.trans rfl
    have hin := numT_in hV (t := t) (s := s) (by omega) h2
    have := ctN_0 _ _ c0 (numT T t s).toNat (by omega)
    obtain ⟨q1, q2⟩ := tw_num hV (t := t) (s := s) (by omega) h2
    show swT T t s = false
    have e4 : swN T (((numT T t s).toNat : Nat) : Int) = swT T t s := by unfold swN; rw [show (((numT T t s).toNat : Nat) : Int) = numT T t s by omega, q1, q2]
    rw [← e4]; exact this
  · intro h
    refine zset2_0 (fun m hm => ?_)
    obtain ⟨a1, a2, a3, a4, a5⟩ := num_tw hV (i := m) (by omega) (by omega)
    have := h (twT T m).toNat (syT T m).toNat (by omega) (by rw [show (((twT T m).toNat : Nat) : Int) = twT T m by omega]; omega)
    rw [show (((twT T m).toNat : Nat) : Int) = twT T m by omega, show (((syT T m).toNat : Nat) : Int) = syT T m by omega] at this
    exact this
theorem alT_in {T : zT} (hV : VT T) : 0 ≤ alT T ∧ alT T ≤ 10 * 12 := by
  have ht := tot_le hV
  have h1 : 0 ≤ alT T := zsum_nn (fun j _ => (owF_in T j 5).1)
  have h2 : alT T ≤ 10 * ((tot T).toNat : Nat) := zsum_le (fun j _ => by have := (owF_in T j 5).2; omega)
  omega
section AS
variable {μ ν : zM} {T : zT} {t s k b n : Int}
/-- the model's own rock laid aside at 10890; T0's cells are those of μ -/
def zHeld (μ ν : zM) : Prop := (∀ o, o ≠ 43 → o ≠ 51 → ν o = μ o) ∧ (∀ c, 66 ≤ c → c < 10824 → ν 43 c = μ 43 c) ∧ ∀ c, c < 66 → ν 43 (10890 + c) = μ 43 c
def zRest (μ ν : zM) : Prop := zHeld μ ν ∧ ∀ c, c < 66 → ν 43 c = μ 43 c
theorem M_lays : ∃ ν, f_M_lays μ = some ν ∧ zRest μ ν := by
  obtain ⟨ν, e1, e2, e3⟩ := M_copyAll (μ := μ) (i := 0) (j := 10890) (n := 66) (by omega) (by omega) (by omega)
  refine ⟨ν, ?_, ⟨⟨fun o h1 _ => e2 o h1, fun c h1 h2 => by rw [e3, if_neg (by omega)], fun c hc => ?_⟩, fun c hc => by rw [e3, if_neg (by omega)]⟩⟩
  · unfold f_M_lays
    have e1' : f_M_copyAll 0 10890 66 μ = some ν := e1
    rw [e1']; rfl
  · rw [e3, if_pos (by omega)]; exact congrArg (μ 43) (by omega)
theorem M_putsBack (h : zHeld μ ν) : ∃ κ, f_M_putsBack ν = some κ ∧ zRest μ κ := by
  obtain ⟨κ, e1, e2, e3⟩ := M_copyAll (μ := ν) (i := 10890) (j := 0) (n := 66) (by omega) (by omega) (by omega)
  refine ⟨κ, ?_, ⟨⟨fun o h1 h2 => by rw [e2 o h1, h.1 o h1 h2], fun c h1 h2 => by rw [e3, if_neg (by omega), h.2.1 c h1 h2], fun c hc => by rw [e3, if_neg (by omega), h.2.2 c hc]⟩, fun c hc => ?_⟩⟩
  · unfold f_M_putsBack
    have e1' : f_M_copyAll 10890 0 66 ν = some κ := e1
    rw [e1']; rfl
  · rw [e3, if_pos (by omega), ← h.2.2 c hc]; exact congrArg (ν 43) (by omega)
theorem zHeld_43 {κ : zM} (h : zHeld μ ν) (h1 : zO43 ν κ 0 66) : zHeld μ κ := ⟨fun o a b => by rw [h1.1 o a, h.1 o a b], fun c a b => by rw [h1.2 c (by omega), h.2.1 c a b], fun c a => by rw [h1.2 _ (by omega), h.2.2 c a]⟩
theorem zHeld_51 {κ : zM} (h : zHeld μ ν) (h1 : zOut ν κ 51 51) : zHeld μ κ := ⟨fun o a b => by rw [h1 o (by omega), h.1 o a b], fun c a b => by rw [h1 43 (by omega), h.2.1 c a b], fun c a => by rw [h1 43 (by omega), h.2.2 c a]⟩
theorem zRest_W (h : zRest μ ν) (hV : VT T) (hW : IsV (μ 43) T) : IsV (ν 43) T := IsV_congr hV (fun c hc => h.2 c hc) hW
/-- at rest the relation holds again: first the component tried (objects 13 to 22), then the model -/
theorem Rel_rest {κ : zM} (h : Rel μ) (h1 : zOut μ ν 13 22) (h2 : zRest ν κ) : Rel κ := by
  have g : ∀ o, o ≠ 43 → o ≠ 51 → (o < 13 ∨ 22 < o) → κ o = μ o := fun o a b c => by rw [h2.1.1 o a b, h1 o c]
  have g43 : ∀ c, c < 10824 → κ 43 c = μ 43 c := fun c hc => by
    rw [← h1 43 (by omega)]
    by_cases d : c < 66
    · exact h2.2 c d
    · exact h2.1.2.1 c (by omega) hc
  obtain ⟨q1, q2, q3, q4, q5⟩ := h
  refine ⟨zR1_of q1 (g 0 (by omega) (by omega) (by omega)) (g 26 (by omega) (by omega) (by omega)) (fun k _ => by rw [g 42 (by omega) (by omega) (by omega)]) (g 50 (by omega) (by omega) (by omega)), zR2_of q2 (fun o a b => g o (by omega) (by omega) (by omega)) (g 45 (by omega) (by omega) (by omega)) (g 46 (by omega) (by omega) (by omega)), zR3_of q3 (fun o a b => g o (by omega) (by omega) (by omega)) (g 47 (by omega) (by omega) (by omega)) (g 48 (by omega) (by omega) (by omega)), ?_, zR5_43 q5 (fun o a b => g o (by omega) (by omega) (by omega)) (fun c _ b => g43 c b) (g 44 (by omega) (by omega) (by omega))⟩
  unfold zR4 at q4 ⊢
  rw [g 7 (by omega) (by omega) (by omega), g 8 (by omega) (by omega) (by omega), g 9 (by omega) (by omega) (by omega), g 10 (by omega) (by omega) (by omega), g 11 (by omega) (by omega) (by omega), g 42 (by omega) (by omega) (by omega)]
  exact zRY_congr q4 (fun c hc => g43 c (by omega))
theorem Rel_rest_tells {κ : zM} {v : Int} (h : Rel μ) (h1 : zOut μ ν 13 22) (h2 : zRest (zst ν 0 9 v) κ) : Rel (zst κ 42 10 v) := by
  have h3 : zOut (zst (zst μ 0 9 v) 42 10 v) (zst (zst ν 0 9 v) 42 10 v) 13 22 := fun o ho => by
    funext q; unfold zst; rw [h1 o ho]
  refine Rel_rest (Rel_tells (v := v) h) h3 ⟨⟨fun o a b => ?_, fun c a b => by rw [zst_p (by omega), zst_p (by omega)]; exact h2.1.2.1 c a b, fun c a => by rw [zst_p (by omega), zst_p (by omega)]; exact h2.1.2.2 c a⟩, fun c a => by rw [zst_p (by omega), zst_p (by omega)]; exact h2.2 c a⟩
  funext q; unfold zst
  have := congrFun (h2.1.1 o a b) q
  rw [this]; rfl
theorem X_lampsWhereSteady (hR : IsR μ 13 T) (hV : VT T) : ∃ ν, f_X_lampsWhereSteady 13 μ = some ((if stT T then alT T else -9), ν) ∧ IsR ν 13 T ∧ zOut μ ν 16 22 := by
  unfold f_X_lampsWhereSteady
  rw [R_isSteady hR hV, z_some_bind]
  by_cases c : anyT T (swT T) = true
  · refine ⟨μ, ?_, hR, zOut_rf⟩
    rw [if_pos c, if_pos rfl, if_neg (by unfold stT; rw [c]; simp)]
  · obtain ⟨ν, e1, e2, e3⟩ := L_reckon (μ := μ) hV (o := 13) (by omega) hR
    refine ⟨ν, ?_, IsR_out e3 (by omega) hR, e3⟩
    rw [if_neg c, if_neg (by omega), e1, z_some_bind, e2.2.1, if_pos (by unfold stT; simp at c; rw [c]; rfl)]
end AS
