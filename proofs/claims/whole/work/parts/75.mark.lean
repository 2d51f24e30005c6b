/-! mark, but for glass: what its kind 1 asks is H1 -/
section MK2
variable {μ : zM} {T : zT} {t s k : Int}
theorem A_mark0 (h : Rel μ) (H1 : ∀ T, VT T → IsR μ 8 T → IsV (μ 43) T → 0 ≤ s → s < hT T t → (cT T t s = 1 ∨ cT T t s = 4) → ∃ a ν, f_X_hoursTakenIfHouse t s μ = some (a, ν) ∧ zOut μ ν 13 22 ∧ f_M_couldShade t s ν = some a) : zAg (f_X_mark t s k μ) (f_M_mark t s k) := by
  obtain ⟨T, hV, hR, hW⟩ := Rel_T h
  have hn := nT_le hV
  have hh := hT_le hV t
  unfold f_X_mark
  rw [X_isNoPlace hR, X_isKind]
  by_cases c : (0 ≤ t ∧ t < nT T) ∧ 0 ≤ s
  · rw [z_ifn1 c]
    by_cases d : 1 ≤ k ∧ k ≤ 5
    · rw [z_if1 (by omega), if_neg (by omega)]
      by_cases e : 0 ≤ s ∧ s < hT T t
      · rw [R_hasI hR hV e.1 e.2, z_some_bind, if_neg (by omega), R_kindAt hR hV e.1 e.2, z_some_bind]
        have eM : ∀ ν : zM, IsV (ν 43) T → f_M_mark t s k ν = (f_X_isOf (cT T t s) k).bind fun q3 => if q3 = 0 then (f_M_found 3 ν).bind fun q13 => some (q13.1, q13.2) else if k = 1 then (f_M_couldShade t s ν).bind fun q5 => some (q5, ν) else if k = 2 then (if z32 (t + 1) = ν 43 0 then some (0, ν) else if 0 ≤ z32 ((z32 (1 + t)) + 1) ∧ z32 ((z32 (1 + t)) + 1) < 10956 then some (f_M_lesser (z32 (s + 1)) (ν 43 (z32 ((z32 (1 + t)) + 1)).toNat), ν) else none) else if k = 3 then (f_M_layLamps ν).bind fun q8 => (f_M_numberOf t s q8).bind fun q9 => (f_M_owedAll q9 q8).bind fun q10 => some (q10, q8) else if k = 4 then (if 0 ≤ z32 (1 + t) ∧ z32 (1 + t) < 10956 then some (z32 ((z32 ((ν 43 (z32 (1 + t)).toNat) - 1)) - s), ν) else none) else (f_M_lightened t s ν).bind fun q12 => some (q12, ν) := fun ν hWν => by
          unfold f_M_mark
          rw [M_isTold hWν hV, z_if1 c, M_in, z_if1 d, M_isThere hWν hV, z_some_bind, z_if1 e, M_kindAt hWν hV e.1 e.2, z_some_bind, M_isOf_e (by omega)]
        rcases X_isOf_01 (a := cT T t s) (b := k) with f | f
        · rw [f, z_some_bind, if_pos rfl]
          refine zAg_found h (by omega) (by omega) (fun ν hν => ?_)
          rw [eM ν (W_of hW (hν 43 (by omega) (by omega))), f, z_some_bind, if_pos rfl]
        · rw [f, z_some_bind, if_neg (by omega)]
          have eM' := fun ν hν => by have := eM ν hν; rw [f, z_some_bind, if_neg (by omega)] at this; exact this
          unfold f_X_markOf
          have : k = 1 ∨ k = 2 ∨ k = 3 ∨ k = 4 ∨ k = 5 := by omega
          rcases this with rfl | rfl | rfl | rfl | rfl
          · have hg : cT T t s = 1 ∨ cT T t s = 4 := by
              rw [X_isOf_1] at f
              by_cases w : cT T t s = 1 ∨ cT T t s = 4
              · exact w
              · rw [if_neg w] at f; simp at f
            obtain ⟨a, ν, g1, g2, g3⟩ := H1 T hV hR hW e.1 e.2 hg
            rw [if_pos rfl, g1]
            refine ⟨a, ν, rfl, ν, ?_, Rel_free h (fun o ho => g2 o (by omega))⟩
            rw [eM' ν (W_of hW (g2 43 (by omega))), if_pos rfl, g3]; rfl
          · rw [if_neg (by omega), if_pos rfl, R_heightOf hR hV, z_some_bind, z32_id (z := s + 1) (by omega) (by omega), z32_id (z := t + 1) (by omega) (by omega)]
            refine zAg_same h ?_
            rw [eM' μ hW, if_neg (by omega), if_pos rfl, z32_id (z := t + 1) (by omega) (by omega), hW.1]
            by_cases w : t + 1 = nT T
            · rw [if_pos w, hT_out (Or.inr (by omega)), show min (0 : Int) (s + 1) = 0 by omega]
            · have e2 := hW.2.1 (t + 1) (by omega) (by omega)
              rw [if_neg w, z32_id (z := 1 + t) (by omega) (by omega), z32_id (z := 1 + t + 1) (by omega) (by omega), if_pos (by omega), M_lesser, z32_id (z := s + 1) (by omega) (by omega), show (1 + t + 1).toNat = (1 + (t + 1)).toNat by omega, e2, Int.min_comm]
          · rw [if_neg (by omega), if_neg (by omega), if_pos rfl]
            obtain ⟨ν, e1, e2, e3⟩ := L_reckon (μ := μ) hV (o := 8) (by omega) hR
            have hRν := IsR_out e3 (by omega) hR
            have hWν := W_of (ν := ν) hW (e3 43 (by omega))
            have hni := numT_in hV e.1 e.2
            obtain ⟨κ, g1, g2, g3⟩ := M_layLamps hWν hV
            have hWκ := W_of (ν := κ) hWν (g3 43 (by omega))
            rw [e1, z_some_bind, R_numberOf hRν hV e.1 (by omega) c.1.1 (by omega), z_some_bind, L_owedOf hV e2, z_some_bind, if_pos hni]
            refine ⟨_, ν, rfl, κ, ?_, Rel_reckon h e3 g3⟩
            rw [eM' ν hWν, if_neg (by omega), if_neg (by omega), if_pos rfl, g1, z_some_bind, M_numberOf hWκ hV e.1 (by omega) c.1.1 (by omega), z_some_bind, M_owedAll hV g2 hni.1 hni.2, z_some_bind]
          · rw [if_neg (by omega), if_neg (by omega), if_neg (by omega), if_pos rfl, R_heightOf hR hV, z_some_bind]
            refine zAg_same h ?_
            rw [eM' μ hW, if_neg (by omega), if_neg (by omega), if_neg (by omega), if_pos rfl, z32_id (z := 1 + t) (by omega) (by omega), if_pos (by omega), hW.2.1 t c.1.1 c.1.2]
          · rw [if_neg (by omega), if_neg (by omega), if_neg (by omega), if_neg (by omega), X_lightenedBelow hR hV e.1 e.2, z_some_bind]
            refine zAg_same h ?_
            rw [eM' μ hW, if_neg (by omega), if_neg (by omega), if_neg (by omega), if_neg (by omega), M_lightened hW hV e.1 e.2, z_some_bind]
      · rw [R_hasO hR hV e, z_some_bind, if_pos rfl]
        refine zAg_found h (by omega) (by omega) (fun ν hν => ?_)
        have hWν := W_of hW (hν 43 (by omega) (by omega))
        unfold f_M_mark
        rw [M_isTold hWν hV, z_if1 c, M_in, z_if1 d, M_isThere hWν hV, z_some_bind, z_if0 e]
    · have eX : (if (if 0 ≤ k ∧ k < 6 then (1 : Int) else 0) = 0 then some ((-1 : Int), μ) else if k = 0 then some (-1, μ) else (f_R_has 8 t s μ).bind fun q1 => if q1 = 0 then (f_X_found 2 μ).bind fun q6 => some (q6.1, q6.2) else (f_R_kindAt 8 t s μ).bind fun q2 => (f_X_isOf q2 k).bind fun q3 => if q3 = 0 then (f_X_found 3 μ).bind fun q5 => some (q5.1, q5.2) else (f_X_markOf t s k μ).bind fun q4 => some (q4.1, q4.2)) = some (-1, μ) := by
        by_cases w : 0 ≤ k ∧ k < 6
        · rw [z_if1 w, if_pos (by omega)]
        · rw [z_if0 w]
      rw [eX]
      refine zAg_same h ?_
      unfold f_M_mark
      rw [M_isTold hW hV, z_if1 c, M_in, z_if0 d]
  · rw [z_ifn0 c]
    refine zAg_same h ?_
    unfold f_M_mark
    rw [M_isTold hW hV, z_if0 c]
end MK2
