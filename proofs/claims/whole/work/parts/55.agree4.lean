/-! questions on the rock as it stands -/
theorem Rel_free {μ ν : zM} (h : Rel μ) (hE : ∀ o, (o ≤ 12 ∨ (26 ≤ o ∧ o ≤ 48) ∨ o = 50) → ν o = μ o) : Rel ν := by
  obtain ⟨q1, q2, q3, q4, q5⟩ := h
  refine ⟨?_, zR2_of q2 (fun o h1 h2 => hE o (by omega)) (hE 45 (by omega)) (hE 46 (by omega)), zR3_of q3 (fun o h1 h2 => hE o (by omega)) (hE 47 (by omega)) (hE 48 (by omega)), zR4_of q4 (fun o h1 h2 => hE o (by omega)) (hE 43 (by omega)) (by rw [hE 42 (by omega)]), zR5_of q5 (fun o h1 h2 => hE o (by omega)) (hE 43 (by omega)) (hE 44 (by omega))⟩
  unfold zR1 at q1 ⊢
  rw [hE 0 (by omega), hE 26 (by omega), hE 42 (by omega), hE 50 (by omega)]
  exact q1
theorem Rel_T {μ : zM} (h : Rel μ) : ∃ T, VT T ∧ IsR μ 8 T ∧ IsV (μ 43) T := by
  obtain ⟨_, _, _, T, hV, hR, hW, _⟩ := h.2.2.2.1
  exact ⟨T, hV, hR, hW⟩
section AG4
variable {μ : zM} {T : zT} {t s k n v : Int}
theorem X_isNoPlace (hR : IsR μ 8 T) : f_X_isNoPlace t s μ = if (0 ≤ t ∧ t < nT T) ∧ 0 ≤ s then 0 else 1 := by
  unfold f_X_isNoPlace
  rw [R_isTower hR]
  by_cases c : 0 ≤ t ∧ t < nT T
  · rw [z_if1 c]
    by_cases d : s < 0
    · rw [if_pos d, if_neg (by omega)]
    · rw [if_neg d, if_pos (by omega)]
  · rw [z_if0 c, if_neg (fun h => c h.1)]
theorem M_isTold (hW : IsV (μ 43) T) (hV : VT T) : f_M_isTold t s μ = if (0 ≤ t ∧ t < nT T) ∧ 0 ≤ s then 1 else 0 := by
  unfold f_M_isTold
  rw [M_isTower hW hV]
  by_cases c : 0 ≤ t ∧ t < nT T
  · rw [z_if1 c]
    by_cases d : s < 0
    · rw [if_pos d, if_neg (by omega)]
    · rw [if_neg d, if_pos (by omega)]
  · rw [z_if0 c, if_neg (fun h => c h.1)]
theorem W_of {ν : zM} (hW : IsV (μ 43) T) (hν : ν 43 = μ 43) : IsV (ν 43) T := by rw [hν]; exact hW
theorem A_shades (h : Rel μ) : zAg (f_X_shades t s k μ) (f_M_shades t s k) := by
  obtain ⟨T, hV, hR, hW⟩ := Rel_T h
  have hn := nT_le hV
  have hh := hT_le hV t
  unfold f_X_shades
  rw [X_isNoPlace hR]
  by_cases c : (0 ≤ t ∧ t < nT T) ∧ 0 ≤ s
  · rw [z_ifn1 c]
    by_cases d : k < 0
    · rw [if_pos d]
      refine zAg_same h ?_
      unfold f_M_shades
      rw [M_isTold hW hV, z_if1 c, M_in, z_if0 (by omega)]
    · rw [if_neg d]
      by_cases d2 : k < 5
      · rw [if_pos d2]
        by_cases e : 0 ≤ s ∧ s < hT T t
        · rw [R_hasI hR hV e.1 e.2, z_some_bind, if_neg (by omega), R_shaderOf hR hV e.1 (by omega) c.1.1 (by omega) (by omega) d2, z_some_bind]
          refine zAg_same h ?_
          unfold f_M_shades
          rw [M_isTold hW hV, z_if1 c, M_in, z_if1 (by omega), M_isThere hW hV, z_some_bind, z_if1 e, M_shader hW hV e.1 (by omega) c.1.1 (by omega) (by omega) d2, z_some_bind]
        · rw [R_hasO hR hV e, z_some_bind, if_pos rfl]
          refine zAg_found h (by omega) (by omega) (fun ν hν => ?_)
          have hWν := W_of hW (hν 43 (by omega) (by omega))
          unfold f_M_shades
          rw [M_isTold hWν hV, z_if1 c, M_in, z_if1 (by omega), M_isThere hWν hV, z_some_bind, z_if0 e]
      · rw [if_neg d2]
        refine zAg_same h ?_
        unfold f_M_shades
        rw [M_isTold hW hV, z_if1 c, M_in, z_if0 (by omega)]
  · rw [z_ifn0 c]
    refine zAg_same h ?_
    unfold f_M_shades
    rw [M_isTold hW hV, z_if0 c]
theorem A_sees (h : Rel μ) : zAg (f_X_sees t s μ) (f_M_sees t s) := by
  obtain ⟨T, hV, hR, hW⟩ := Rel_T h
  have hn := nT_le hV
  have hh := hT_le hV t
  unfold f_X_sees
  rw [X_isNoPlace hR]
  by_cases c : (0 ≤ t ∧ t < nT T) ∧ 0 ≤ s
  · rw [z_ifn1 c]
    by_cases e : 0 ≤ s ∧ s < hT T t
    · rw [R_hasI hR hV e.1 e.2, z_some_bind, if_neg (by omega), R_lampedAbove hR hV e.1 e.2, z_some_bind]
      have hR2 : IsR (zst μ 0 9 (lampsT T t s)) 8 T := hR
      rw [R_hoursSeen hR2 hV e.1 (by omega) c.1.1 (by omega), z_some_bind]
      refine ⟨_, _, rfl, _, ?_, Rel_tells (v := lampsT T t s) h⟩
      have hW2 := W_of (ν := zst μ 0 9 (lampsT T t s)) hW (zst_p (by omega))
      unfold f_M_sees f_M_tells
      rw [M_isTold hW2 hV, z_if1 c, M_isThere hW2 hV, z_some_bind, z_if1 e, M_lampsOver hW2 hV e.1 e.2, z_some_bind, M_hoursOf hW2 hV e.1 (by omega) c.1.1 (by omega), z_some_bind]
      rfl
    · rw [R_hasO hR hV e, z_some_bind, if_pos rfl]
      refine zAg_found h (by omega) (by omega) (fun ν hν => ?_)
      have hWν := W_of hW (hν 43 (by omega) (by omega))
      unfold f_M_sees
      rw [M_isTold hWν hV, z_if1 c, M_isThere hWν hV, z_some_bind, z_if0 e]
  · rw [z_ifn0 c]
    refine zAg_same h ?_
    unfold f_M_sees
    rw [M_isTold hW hV, z_if0 c]
theorem A_tower (h : Rel μ) : ∃ a, f_X_tower t μ = some a ∧ f_M_tower t μ = some a := by
  obtain ⟨T, hV, hR, hW⟩ := Rel_T h
  have hn := nT_le hV
  unfold f_X_tower f_M_tower
  rw [R_isTower hR, M_isTower hW hV]
  by_cases c : 0 ≤ t ∧ t < nT T
  · rw [z_if1 c, z_if1 c, R_heightOf hR hV, z_some_bind, z32_id (by omega) (by omega), if_pos (by omega), hW.2.1 t c.1 c.2]
    exact ⟨_, rfl, rfl⟩
  · rw [z_if0 c, z_if0 c]
    exact ⟨_, rfl, rfl⟩
theorem A_findings (h : Rel μ) : ∃ a, f_X_findings n μ = some a ∧ f_M_findings n μ = some a := by
  unfold f_X_findings f_M_findings
  rw [M_in]
  by_cases c : n < 1
  · rw [if_pos c, z_if0 (by omega)]; exact ⟨_, rfl, rfl⟩
  · by_cases d : 5 < n
    · rw [if_neg c, if_pos d, z_if0 (by omega)]; exact ⟨_, rfl, rfl⟩
    · rw [if_neg c, if_neg d, z_if1 (by omega), if_pos (by omega), if_pos (by omega), h.1.2.2.2.2 _ (by omega)]
      exact ⟨_, rfl, rfl⟩
theorem R_isNumber (hR : IsR μ 8 T) : f_R_isNumber 8 n μ = if 0 ≤ n ∧ n < tot T then 1 else 0 := by
  unfold f_R_isNumber
  rw [hR.2.1]
  repeat' split
  all_goals first | rfl | (exfalso; omega)
theorem M_isHouse (hW : IsV (μ 43) T) (hV : VT T) : f_M_isHouse n μ = some (if 0 ≤ n ∧ n < tot T then 1 else 0) := by
  have ht := tot_le hV
  unfold f_M_isHouse
  rw [M_houses hW hV, z_some_bind, M_in, z32_id (by omega) (by omega)]
  by_cases c : 0 ≤ n ∧ n < tot T
  · rw [if_pos c, if_pos (by omega)]
  · rw [if_neg c, if_neg (by omega)]
/-- both sides reckon: what's left alike -/
theorem Rel_reckon {μ ν κ : zM} (h : Rel μ) (h1 : zOut μ ν 16 22) (h2 : zOut ν κ 51 51) : Rel κ :=
  Rel_free h (fun o ho => by rw [h2 o (by omega), h1 o (by omega)])
theorem A_owes (h : Rel μ) : zAg (f_X_owes n k μ) (f_M_owes n k) := by
  obtain ⟨T, hV, hR, hW⟩ := Rel_T h
  have ht := tot_le hV
  unfold f_X_owes
  rw [R_isNumber hR, R_isNumber hR]
  by_cases c : 0 ≤ n ∧ n < tot T
  · rw [z_if1 c]
    by_cases d : 0 ≤ k ∧ k < tot T
    · rw [z_if1 d]
      by_cases e : n = k
      · rw [if_pos e]
        refine zAg_same h ?_
        unfold f_M_owes
        rw [M_isHouse hW hV, z_some_bind, z_if1 c, M_isHouse hW hV, z_some_bind, z_if1 d, if_pos e]
      · rw [if_neg e]
        obtain ⟨ν, e1, e2, e3⟩ := L_reckon (μ := μ) hV (o := 8) (by omega) hR
        have hWν := W_of (ν := ν) hW (e3 43 (by omega))
        obtain ⟨κ, g1, g2, g3⟩ := M_layLamps hWν hV
        rw [e1, z_some_bind, L_lampsFromTo hV e2, z_some_bind, if_pos ⟨c, d⟩]
        refine ⟨_, ν, rfl, κ, ?_, Rel_reckon h e3 g3⟩
        unfold f_M_owes
        have e5 := g2 n.toNat k.toNat (by omega) (by omega)
        rw [show ((n.toNat : Nat) : Int) = n by omega, show ((k.toNat : Nat) : Int) = k by omega] at e5
        rw [M_isHouse hWν hV, z_some_bind, z_if1 c, M_isHouse hWν hV, z_some_bind, z_if1 d, if_neg e, g1, z_some_bind, z32_id (z := 12 * n) (by omega) (by omega), z32_id (by omega) (by omega), if_pos (by omega), show (12 * n + k).toNat = 12 * n.toNat + k.toNat by omega, e5]
    · rw [z_if0 d]
      refine zAg_same h ?_
      unfold f_M_owes
      rw [M_isHouse hW hV, z_some_bind, z_if1 c, M_isHouse hW hV, z_some_bind, z_if0 d]
  · rw [z_if0 c]
    refine zAg_same h ?_
    unfold f_M_owes
    rw [M_isHouse hW hV, z_some_bind, z_if0 c]
theorem zst_zOut {ν κ : zM} {o k a b : Nat} (h : zOut μ ν a b) (h2 : o < a ∨ b < o) : zst ν o k v o = zst μ o k v o := by
  funext q; unfold zst; rw [h o h2]
theorem Rel_reckon_tells {μ ν κ : zM} (h : Rel μ) (h1 : zOut μ ν 16 22) (h2 : zOut (zst ν 0 9 v) κ 51 51) : Rel (zst κ 42 10 v) := by
  refine Rel_free (Rel_tells (v := v) h) (fun o ho => ?_)
  by_cases c : o = 42
  · subst c
    funext q
    unfold zst
    rw [h2 42 (by omega), zst_p (by omega), h1 42 (by omega)]
    by_cases d : q = 10
    · rw [if_pos ⟨rfl, d⟩, if_pos ⟨rfl, d⟩]
    · rw [if_neg (fun z => d z.2), if_neg (fun z => d z.2), if_neg (fun z => absurd z.1 (by omega))]
  · rw [zst_p c, zst_p c, h2 o (by omega)]
    by_cases d : o = 0
    · subst d; funext q; unfold zst; rw [h1 0 (by omega)]
    · rw [zst_p d, zst_p d, h1 o (by omega)]
theorem A_debt (h : Rel μ) : zAg (f_X_debt n μ) (f_M_debt n) := by
  obtain ⟨T, hV, hR, hW⟩ := Rel_T h
  have ht := tot_le hV
  unfold f_X_debt
  rw [R_isNumber hR]
  by_cases c : 0 ≤ n ∧ n < tot T
  · rw [z_if1 c]
    obtain ⟨ν, e1, e2, e3⟩ := L_reckon (μ := μ) hV (o := 8) (by omega) hR
    rw [e1, z_some_bind, L_debtOf hV e2, z_some_bind, if_pos c]
    have hWν : IsV (zst ν 0 9 (owesT T n - owedT T n) 43) T := W_of hW (by rw [zst_p (by omega), e3 43 (by omega)])
    obtain ⟨κ, g1, g2, g3⟩ := M_layLamps hWν hV
    refine ⟨1, _, rfl, _, ?_, Rel_reckon_tells h e3 g3⟩
    unfold f_M_debt f_M_tells
    have h1 := owesT_in hV n
    have h2 := owedT_in hV n
    rw [M_isHouse hWν hV, z_some_bind, z_if1 c, g1, z_some_bind, M_owesAll hV g2 c.1 c.2, z_some_bind, M_owedAll hV g2 c.1 c.2, z_some_bind, z32_id (by omega) (by omega)]
    rfl
  · rw [z_if0 c]
    refine zAg_same h ?_
    unfold f_M_debt
    rw [M_isHouse hW hV, z_some_bind, z_if0 c]
theorem A_light (h : Rel μ) : zAg (f_X_light μ) (f_M_light) := by
  obtain ⟨T, hV, hR, hW⟩ := Rel_T h
  have ht := tot_le hV
  unfold f_X_light
  obtain ⟨ν, e1, e2, e3⟩ := L_reckon (μ := μ) hV (o := 8) (by omega) hR
  have e2b : IsL (zst ν 0 9 (ν 16 1)) T := e2
  rw [e1, z_some_bind, L_allLight hV e2b, z_some_bind, e2.2.1]
  have hWν : IsV (zst ν 0 9 (alT T) 43) T := W_of hW (by rw [zst_p (by omega), e3 43 (by omega)])
  obtain ⟨⟨a, κ⟩, g1, g2, g3, g4⟩ := M_allLamps hWν hV
  dsimp only at g2 g3 g4
  subst g2
  have hWκ : IsV (κ 43) T := W_of hWν (g4 43 (by omega))
  refine ⟨_, _, rfl, _, ?_, Rel_reckon_tells h e3 g4⟩
  unfold f_M_light f_M_tells
  rw [g1, z_some_bind, M_allLight hWκ hV, z_some_bind]
  rfl
/-- what a house tells -/
def teT (T : zT) (t s k : Int) : Int := if k = 0 then numT T t s else if k = 1 then cT T t s else if k = 2 then bT T t s else if k = 3 then weiT T t s else if k = 4 then liN T (numT T t s) 0 else if k = 5 then owesT T (numT T t s) else owedT T (numT T t s)
theorem X_toldOf (hR : IsR μ 8 T) (hV : VT T) (hL : IsL μ T) (h1 : 0 ≤ s) (h2 : s < hT T t) : f_X_toldOf t s k μ = some (teT T t s k) := by
  have h3 := hT_pos (show 0 < hT T t by omega)
  have h4 := nT_le hV
  have h5 := hT_le hV t
  have hn := numT_in hV h1 h2
  unfold f_X_toldOf teT
  rw [R_numberOf hR hV h1 (by omega) h3.1 (by omega), z_some_bind, R_kindAt hR hV h1 h2, z_some_bind, R_borneAt hR hV h1 h2, z_some_bind, R_weightOn hR hV h1 h2, z_some_bind, L_lightOf hV hL, z_some_bind, L_owingOf hV hL, z_some_bind, L_owedOf hV hL, z_some_bind, if_pos hn, if_pos hn, if_pos hn]
  repeat' split
  all_goals rfl
theorem M_houseTells (hW : IsV (μ 43) T) (hV : VT T) (hL : ∀ i j : Nat, i < 12 → j < 12 → μ 51 (12 * i + j) = lmT T i j) (h1 : 0 ≤ s) (h2 : s < hT T t) : f_M_houseTells t s k μ = some (teT T t s k) := by
  have h3 := hT_pos (show 0 < hT T t by omega)
  have h4 := nT_le hV
  have h5 := hT_le hV t
  have hn := numT_in hV h1 h2
  unfold f_M_houseTells teT
  rw [M_numberOf hW hV h1 (by omega) h3.1 (by omega), z_some_bind, M_kindAt hW hV h1 h2, z_some_bind, M_bearsAt hW hV h1 h2, z_some_bind, M_weighsOn hW hV h1 h2, z_some_bind, M_lightOf hW hV hn.1 hn.2, z_some_bind, M_owesAll hV hL hn.1 hn.2, z_some_bind, M_owedAll hV hL hn.1 hn.2, z_some_bind]
  repeat' split
  all_goals rfl
theorem A_house (h : Rel μ) : zAg (f_X_house t s k μ) (f_M_house t s k) := by
  obtain ⟨T, hV, hR, hW⟩ := Rel_T h
  unfold f_X_house
  rw [X_isNoPlace hR]
  by_cases c : (0 ≤ t ∧ t < nT T) ∧ 0 ≤ s
  · rw [z_ifn1 c]
    by_cases d : k < 0
    · rw [if_pos d]
      refine zAg_same h ?_
      unfold f_M_house
      rw [M_isTold hW hV, z_if1 c, M_in, z_if0 (by omega)]
    · rw [if_neg d]
      by_cases d2 : 6 < k
      · rw [if_pos d2]
        refine zAg_same h ?_
        unfold f_M_house
        rw [M_isTold hW hV, z_if1 c, M_in, z_if0 (by omega)]
      · rw [if_neg d2]
        by_cases e : 0 ≤ s ∧ s < hT T t
        · obtain ⟨ν, e1, e2, e3⟩ := L_reckon (μ := μ) hV (o := 8) (by omega) hR
          have hRν := IsR_out e3 (by omega) hR
          rw [R_hasI hR hV e.1 e.2, z_some_bind, if_neg (by omega), e1, z_some_bind, X_toldOf hRν hV e2 e.1 e.2, z_some_bind]
          have hWν : IsV (zst ν 0 9 (teT T t s k) 43) T := W_of hW (by rw [zst_p (by omega), e3 43 (by omega)])
          obtain ⟨κ, g1, g2, g3⟩ := M_layLamps hWν hV
          have hWκ : IsV (κ 43) T := W_of hWν (g3 43 (by omega))
          refine ⟨1, _, rfl, _, ?_, Rel_reckon_tells h e3 g3⟩
          unfold f_M_house f_M_tells
          rw [M_isTold hWν hV, z_if1 c, M_in, z_if1 (by omega), M_isThere hWν hV, z_some_bind, z_if1 e, g1, z_some_bind, M_houseTells hWκ hV g2 e.1 e.2, z_some_bind]
          rfl
        · rw [R_hasO hR hV e, z_some_bind, if_pos rfl]
          refine zAg_found h (by omega) (by omega) (fun ν hν => ?_)
          have hWν := W_of hW (hν 43 (by omega) (by omega))
          unfold f_M_house
          rw [M_isTold hWν hV, z_if1 c, M_in, z_if1 (by omega), M_isThere hWν hV, z_some_bind, z_if0 e]
  · rw [z_ifn0 c]
    refine zAg_same h ?_
    unfold f_M_house
    rw [M_isTold hW hV, z_if0 c]
end AG4
