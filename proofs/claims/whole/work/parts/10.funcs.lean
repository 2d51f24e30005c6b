/-! RoofLent$Shelf.knows(I)Z (total) -/
def f_S_knows (o : Nat) (v1 : Int) : Int :=
  if v1 < 0 then
    0
  else if v1 < zsz (o + 1) then
    1
  else
    0
def fo_S_knows (o : Nat) (v1 : Int) : Option Int :=
  if v1 < 0 then
    some 0
  else if v1 < zsz (o + 1) then
    some 1
  else
    some 0
theorem fo_S_knows_eq (o : Nat) (v1 : Int) : fo_S_knows o v1 = some (f_S_knows o v1) := by
  unfold fo_S_knows f_S_knows
  simp only [zsome_ite]
theorem b_S_knows (o : Nat) (v1 : Int) : f_S_knows o v1 = 0 ∨ f_S_knows o v1 = 1 := by
  unfold f_S_knows
  repeat' split
  all_goals first | exact Or.inl rfl | exact Or.inr rfl
/-! RoofLent.found(I)I -/
noncomputable def f_X_found (v1 : Int) (μ : zM) : Option (Int × zM) :=
  if v1 < 0 then
    some ((-3), zst μ 0 8 v1)
  else if v1 < 6 then
    if 0 ≤ v1 ∧ v1 < 6 then
      if 0 ≤ v1 ∧ v1 < 6 then
        some ((-3), zst (zst μ 0 8 v1) 26 v1.toNat (z32 (((zst μ 0 8 v1) 26 v1.toNat) + 1)))
      else none
    else none
  else
    some ((-3), zst μ 0 8 v1)
/-! RoofLent$Shelf.sizeOf(I)I -/
noncomputable def f_S_sizeOf (o : Nat) (v1 : Int) (μ : zM) : Option Int :=
  if f_S_knows o v1 = 0 then
    some (-1)
  else
    if 0 ≤ v1 ∧ v1 < zsz (o + 1) then
      some (μ (o + 1) v1.toNat)
    else none
/-! RoofLent$Shelf.has(II)Z -/
noncomputable def f_S_has (o : Nat) (v1 : Int) (v2 : Int) (μ : zM) : Option Int :=
  if v2 < 0 then
    some 0
  else
    (f_S_sizeOf o v1 μ).bind fun q1 =>
    if v2 < q1 then
      some 1
    else
      some 0
/-! RoofLent$Shelf.set(III)V -/
noncomputable def f_S_set (o : Nat) (v1 : Int) (v2 : Int) (v3 : Int) (μ : zM) : Option zM :=
  (f_S_has o v1 v2 μ).bind fun q1 =>
  if q1 = 0 then
    some μ
  else
    if 0 ≤ z32 ((z32 (v1 * (μ o 0))) + v2) ∧ z32 ((z32 (v1 * (μ o 0))) + v2) < 240 then
      some (zst μ (o + 2) (z32 ((z32 (v1 * (μ o 0))) + v2)).toNat v3)
    else none
/-! RoofLent$Shelf.make(II)V -/
noncomputable def b_S_make_30 (o : Nat) (v1 : Int) (v2 : Int) (v3 : Int) (μ : zM) : Option ((Int × zM) ⊕ zM) :=
  if v3 < v2 then
    (f_S_set o v1 v3 (μ o 1) μ).bind fun q1 =>
    some (.inl ((z32 (v3 + 1), q1)))
  else
    some (.inr μ)
noncomputable def e_S_make (o : Nat) (v1 : Int) (v2 : Int) (μ : zM) : Option ((Int × zM) ⊕ zM) :=
  if f_S_knows o v1 = 0 then
    some (.inr μ)
  else if v2 < 0 then
    some (.inr μ)
  else if μ o 0 < v2 then
    some (.inr μ)
  else
    if 0 ≤ v1 ∧ v1 < zsz (o + 1) then
      some (.inl ((0, zst μ (o + 1) v1.toNat v2)))
    else none
noncomputable def t_S_make (o : Nat) (v1 : Int) (v2 : Int) : (Int × zM) → Option ((Int × zM) ⊕ zM) := fun s => b_S_make_30 o v1 v2 s.1 s.2
noncomputable def f_S_make (o : Nat) (v1 : Int) (v2 : Int) (μ : zM) : Option zM := zgo (t_S_make o v1 v2) (e_S_make o v1 v2 μ)
/-! RoofLent.row(II)I -/
noncomputable def f_X_row (v1 : Int) (v2 : Int) (μ : zM) : Option (Int × zM) :=
  if f_S_knows 1 v1 = 0 then
    some ((-1), μ)
  else if 40 < v2 then
    some ((-1), μ)
  else if v2 < 0 then
    (f_X_found 5 μ).bind fun q2 =>
    some (q2.1, q2.2)
  else
    (f_S_make 1 v1 v2 μ).bind fun q1 =>
    some (v2, q1)
/-! RoofLent$Shelf.isThere(I)Z -/
noncomputable def f_S_isThere (o : Nat) (v1 : Int) (μ : zM) : Option Int :=
  (f_S_sizeOf o v1 μ).bind fun q1 =>
  if q1 < 0 then
    some 0
  else
    some 1
/-! RoofLent$Shelf.get(II)I -/
noncomputable def f_S_get (o : Nat) (v1 : Int) (v2 : Int) (μ : zM) : Option Int :=
  (f_S_has o v1 v2 μ).bind fun q1 =>
  if q1 = 0 then
    some (μ o 1)
  else
    if 0 ≤ z32 ((z32 (v1 * (μ o 0))) + v2) ∧ z32 ((z32 (v1 * (μ o 0))) + v2) < 240 then
      some (μ (o + 2) (z32 ((z32 (v1 * (μ o 0))) + v2)).toNat)
    else none
/-! RoofLent.lay(III)I -/
noncomputable def f_X_lay (v1 : Int) (v2 : Int) (v3 : Int) (μ : zM) : Option (Int × zM) :=
  if f_S_knows 1 v1 = 0 then
    some ((-1), μ)
  else
    (f_S_isThere 1 v1 μ).bind fun q1 =>
    if q1 = 0 then
      (f_X_found 1 μ).bind fun q6 =>
      some (q6.1, q6.2)
    else
      (f_S_has 1 v1 v2 μ).bind fun q2 =>
      if q2 = 0 then
        (f_X_found 2 μ).bind fun q5 =>
        some (q5.1, q5.2)
      else
        (f_S_get 1 v1 v2 μ).bind fun q3 =>
        (f_S_set 1 v1 v2 v3 (zst μ 0 9 q3)).bind fun q4 =>
        some (1, q4)
/-! RoofLent.at(II)I -/
noncomputable def f_X_at (v1 : Int) (v2 : Int) (μ : zM) : Option (Int × zM) :=
  if f_S_knows 1 v1 = 0 then
    some ((-1), μ)
  else
    (f_S_isThere 1 v1 μ).bind fun q1 =>
    if q1 = 0 then
      (f_X_found 1 μ).bind fun q5 =>
      some (q5.1, q5.2)
    else
      (f_S_has 1 v1 v2 μ).bind fun q2 =>
      if q2 = 0 then
        (f_X_found 2 μ).bind fun q4 =>
        some (q4.1, q4.2)
      else
        (f_S_get 1 v1 v2 μ).bind fun q3 =>
        some (1, zst μ 0 9 q3)
/-! RoofLent$Shelf.drop(I)V -/
noncomputable def f_S_drop (o : Nat) (v1 : Int) (μ : zM) : Option zM :=
  if f_S_knows o v1 = 0 then
    some μ
  else
    if 0 ≤ v1 ∧ v1 < zsz (o + 1) then
      some (zst μ (o + 1) v1.toNat (-1))
    else none
/-! RoofLent.tear(I)I -/
noncomputable def f_X_tear (v1 : Int) (μ : zM) : Option (Int × zM) :=
  if f_S_knows 1 v1 = 0 then
    some ((-1), μ)
  else
    (f_S_isThere 1 v1 μ).bind fun q1 =>
    if q1 = 0 then
      (f_X_found 1 μ).bind fun q3 =>
      some (q3.1, q3.2)
    else
      (f_S_drop 1 v1 μ).bind fun q2 =>
      some (1, q2)
/-! RoofLent$Shelf.hasSpan(III)Z -/
noncomputable def f_S_hasSpan (o : Nat) (v1 : Int) (v2 : Int) (v3 : Int) (μ : zM) : Option Int :=
  (f_S_sizeOf o v1 μ).bind fun q1 =>
  if v2 < 0 then
    some 0
  else if v3 < 0 then
    some 0
  else if q1 < v2 then
    some 0
  else if z32 (q1 - v2) < v3 then
    some 0
  else
    some 1
/-! RoofLent$Shelf.move(IIIII)V -/
noncomputable def f_S_move (o : Nat) (v1 : Int) (v2 : Int) (v3 : Int) (v4 : Int) (v5 : Int) (μ : zM) : Option zM :=
  (f_S_hasSpan o v1 v2 v5 μ).bind fun q1 =>
  if q1 = 0 then
    some μ
  else
    (f_S_hasSpan o v3 v4 v5 μ).bind fun q2 =>
    if q2 = 0 then
      some μ
    else
      if 0 ≤ z32 ((z32 (v1 * (μ o 0))) + v2) ∧ 0 ≤ z32 ((z32 (v3 * (μ o 0))) + v4) ∧ 0 ≤ v5 ∧ z32 ((z32 (v1 * (μ o 0))) + v2) + v5 ≤ 240 ∧ z32 ((z32 (v3 * (μ o 0))) + v4) + v5 ≤ 240 then
        some (zcp μ (o + 2) (z32 ((z32 (v1 * (μ o 0))) + v2)).toNat (o + 2) (z32 ((z32 (v3 * (μ o 0))) + v4)).toNat v5.toNat)
      else none
/-! RoofLent.copy(IIIII)I -/
noncomputable def f_X_copy (v1 : Int) (v2 : Int) (v3 : Int) (v4 : Int) (v5 : Int) (μ : zM) : Option (Int × zM) :=
  if f_S_knows 1 v1 = 0 then
    some ((-1), μ)
  else if f_S_knows 1 v3 = 0 then
    some ((-1), μ)
  else if v5 < 0 then
    (f_X_found 5 μ).bind fun q10 =>
    some (q10.1, q10.2)
  else
    (f_S_isThere 1 v1 μ).bind fun q1 =>
    if q1 = 0 then
      (f_X_found 1 μ).bind fun q2 =>
      some (q2.1, q2.2)
    else
      (f_S_isThere 1 v3 μ).bind fun q3 =>
      if q3 = 0 then
        (f_X_found 1 μ).bind fun q9 =>
        some (q9.1, q9.2)
      else
        (f_S_hasSpan 1 v1 v2 v5 μ).bind fun q4 =>
        if q4 = 0 then
          (f_X_found 2 μ).bind fun q5 =>
          some (q5.1, q5.2)
        else
          (f_S_hasSpan 1 v3 v4 v5 μ).bind fun q6 =>
          if q6 = 0 then
            (f_X_found 2 μ).bind fun q8 =>
            some (q8.1, q8.2)
          else
            (f_S_move 1 v1 v2 v3 v4 v5 μ).bind fun q7 =>
            some (1, q7)
/-! RoofLent$Shelf.sumOf(I)J -/
noncomputable def b_S_sumOf_5 (o : Nat) (v1 : Int) (v2 v4 : Int) (μ : zM) : Option ((Int × Int) ⊕ Int) :=
  (f_S_sizeOf o v1 μ).bind fun q1 =>
  if v4 < q1 then
    (f_S_get o v1 v4 μ).bind fun q2 =>
    some (.inl ((z64 (v2 + q2), z32 (v4 + 1))))
  else
    some (.inr v2)
noncomputable def e_S_sumOf (o : Nat) (v1 : Int) (μ : zM) : Option ((Int × Int) ⊕ Int) :=
  some (.inl ((0, 0)))
noncomputable def t_S_sumOf (o : Nat) (v1 : Int) (μ : zM) : (Int × Int) → Option ((Int × Int) ⊕ Int) := fun s => b_S_sumOf_5 o v1 s.1 s.2 μ
noncomputable def f_S_sumOf (o : Nat) (v1 : Int) (μ : zM) : Option Int := zgo (t_S_sumOf o v1 μ) (e_S_sumOf o v1 μ)
/-! RoofLent.mean(I)I -/
noncomputable def f_X_mean (v1 : Int) (μ : zM) : Option (Int × zM) :=
  if f_S_knows 1 v1 = 0 then
    some ((-1), μ)
  else
    (f_S_isThere 1 v1 μ).bind fun q1 =>
    if q1 = 0 then
      (f_X_found 1 μ).bind fun q5 =>
      some (q5.1, q5.2)
    else
      (f_S_sizeOf 1 v1 μ).bind fun q2 =>
      if q2 = 0 then
        (f_X_found 4 μ).bind fun q4 =>
        some (q4.1, q4.2)
      else
        (f_S_sumOf 1 v1 μ).bind fun q3 =>
        if ¬ q2 = 0 then
          some (1, zst μ 0 9 (z32 (zldiv q3 q2)))
        else none
/-! RoofLent.text(II)I -/
noncomputable def f_X_text (v1 : Int) (v2 : Int) (μ : zM) : Option (Int × zM) :=
  if f_S_knows 4 v1 = 0 then
    some ((-1), μ)
  else if 60 < v2 then
    some ((-1), μ)
  else if v2 < 0 then
    (f_X_found 5 μ).bind fun q2 =>
    some (q2.1, q2.2)
  else
    (f_S_make 4 v1 v2 μ).bind fun q1 =>
    some (v2, q1)
/-! RoofLent.put(III)I -/
noncomputable def f_X_put (v1 : Int) (v2 : Int) (v3 : Int) (μ : zM) : Option (Int × zM) :=
  if f_S_knows 4 v1 = 0 then
    some ((-1), μ)
  else
    (f_S_isThere 4 v1 μ).bind fun q1 =>
    if q1 = 0 then
      (f_X_found 1 μ).bind fun q6 =>
      some (q6.1, q6.2)
    else
      (f_S_has 4 v1 v2 μ).bind fun q2 =>
      if q2 = 0 then
        (f_X_found 2 μ).bind fun q5 =>
        some (q5.1, q5.2)
      else
        (f_S_get 4 v1 v2 μ).bind fun q3 =>
        (f_S_set 4 v1 v2 (zi2b v3) μ).bind fun q4 =>
        some (z32 (q3 + 1000), q4)
/-! RoofLent$Rock.clear()V -/
noncomputable def b_R_clear_12 (o : Nat) (v1 : Int) (μ : zM) : Option (((Int × zM) ⊕ (Int × zM)) ⊕ zM) :=
  if v1 < 5 then
    if 0 ≤ v1 ∧ v1 < 5 then
      some (.inl (.inl ((z32 (v1 + 1), zst μ (o + 1) v1.toNat 0))))
    else none
  else
    some (.inl (.inr ((0, μ))))
noncomputable def b_R_clear_36 (o : Nat) (v1 : Int) (μ : zM) : Option (((Int × zM) ⊕ (Int × zM)) ⊕ zM) :=
  if v1 < 30 then
    if 0 ≤ v1 ∧ v1 < 30 then
      some (.inl (.inr ((z32 (v1 + 1), zst μ (o + 2) v1.toNat 0))))
    else none
  else
    some (.inr μ)
noncomputable def e_R_clear (o : Nat) (μ : zM) : Option (((Int × zM) ⊕ (Int × zM)) ⊕ zM) :=
  some (.inl (.inl ((0, zst (zst μ o 0 0) o 1 0))))
noncomputable def t_R_clear (o : Nat) : ((Int × zM) ⊕ (Int × zM)) → Option (((Int × zM) ⊕ (Int × zM)) ⊕ zM) := fun s => match s with
  | .inl (s) => b_R_clear_12 o s.1 s.2
  | .inr (s) => b_R_clear_36 o s.1 s.2
noncomputable def f_R_clear (o : Nat) (μ : zM) : Option zM := zgo (t_R_clear o) (e_R_clear o μ)
/-! RoofLent$Rock.addTower()Z -/
noncomputable def f_R_addTower (o : Nat) (μ : zM) : Option (Int × zM) :=
  if μ o 0 < 5 then
    some (1, zst μ o 0 (z32 ((μ o 0) + 1)))
  else
    some (0, μ)
/-! RoofLent$Rock.towerCount()I (total) -/
def f_R_towerCount (o : Nat) (μ : zM) : Int :=
  μ o 0
def fo_R_towerCount (o : Nat) (μ : zM) : Option Int :=
  some (μ o 0)
theorem fo_R_towerCount_eq (o : Nat) (μ : zM) : fo_R_towerCount o μ = some (f_R_towerCount o μ) := by
  unfold fo_R_towerCount f_R_towerCount
  simp only [zsome_ite]
/-! RoofLent.kindOfLetter(I)I -/
noncomputable def b_X_kindOfLetter_2 (v0 : Int) (v1 : Int) (μ : zM) : Option (Int ⊕ Int) :=
  if v1 < 6 then
    if 0 ≤ v1 ∧ v1 < 6 then
      if (zSV 0).getD v1.toNat 0 = v0 then
        some (.inr v1)
      else
        some (.inl ((z32 (v1 + 1))))
    else none
  else
    some (.inr (-1))
noncomputable def e_X_kindOfLetter (v0 : Int) (μ : zM) : Option (Int ⊕ Int) :=
  some (.inl (0))
noncomputable def t_X_kindOfLetter (v0 : Int) (μ : zM) : Int → Option (Int ⊕ Int) := fun s => b_X_kindOfLetter_2 v0 s μ
noncomputable def f_X_kindOfLetter (v0 : Int) (μ : zM) : Option Int := zgo (t_X_kindOfLetter v0 μ) (e_X_kindOfLetter v0 μ)
/-! RoofLent$Rock.isTower(I)Z (total) -/
def f_R_isTower (o : Nat) (v1 : Int) (μ : zM) : Int :=
  if v1 < 0 then
    0
  else if v1 < μ o 0 then
    1
  else
    0
def fo_R_isTower (o : Nat) (v1 : Int) (μ : zM) : Option Int :=
  if v1 < 0 then
    some 0
  else if v1 < μ o 0 then
    some 1
  else
    some 0
theorem fo_R_isTower_eq (o : Nat) (v1 : Int) (μ : zM) : fo_R_isTower o v1 μ = some (f_R_isTower o v1 μ) := by
  unfold fo_R_isTower f_R_isTower
  simp only [zsome_ite]
theorem b_R_isTower (o : Nat) (v1 : Int) (μ : zM) : f_R_isTower o v1 μ = 0 ∨ f_R_isTower o v1 μ = 1 := by
  unfold f_R_isTower
  repeat' split
  all_goals first | exact Or.inl rfl | exact Or.inr rfl
/-! RoofLent$Rock.heightOf(I)I -/
noncomputable def f_R_heightOf (o : Nat) (v1 : Int) (μ : zM) : Option Int :=
  if v1 < 0 then
    some 0
  else if v1 < 5 then
    if 0 ≤ v1 ∧ v1 < 5 then
      some (μ (o + 1) v1.toNat)
    else none
  else
    some 0
/-! RoofLent$Rock.hasRoom(I)Z -/
noncomputable def f_R_hasRoom (o : Nat) (v1 : Int) (μ : zM) : Option Int :=
  if f_R_isTower o v1 μ = 0 then
    some 0
  else
    (f_R_heightOf o v1 μ).bind fun q1 =>
    if q1 < 6 then
      if μ o 1 < 12 then
        some 1
      else
        some 0
    else
      some 0
/-! RoofLent.isBorne(I)Z (total) -/
def f_X_isBorne (v0 : Int) : Int :=
  if v0 < 0 then
    0
  else if 9 < v0 then
    0
  else
    1
def fo_X_isBorne (v0 : Int) : Option Int :=
  if v0 < 0 then
    some 0
  else if 9 < v0 then
    some 0
  else
    some 1
theorem fo_X_isBorne_eq (v0 : Int) : fo_X_isBorne v0 = some (f_X_isBorne v0) := by
  unfold fo_X_isBorne f_X_isBorne
  simp only [zsome_ite]
theorem b_X_isBorne (v0 : Int) : f_X_isBorne v0 = 0 ∨ f_X_isBorne v0 = 1 := by
  unfold f_X_isBorne
  repeat' split
  all_goals first | exact Or.inl rfl | exact Or.inr rfl
/-! RoofLent$Rock.has(II)Z -/
noncomputable def f_R_has (o : Nat) (v1 : Int) (v2 : Int) (μ : zM) : Option Int :=
  if v1 < 0 then
    some 0
  else if v1 < 5 then
    if v2 < 0 then
      some 0
    else
      if 0 ≤ v1 ∧ v1 < 5 then
        if v2 < μ (o + 1) v1.toNat then
          some 1
        else
          some 0
      else none
  else
    some 0
/-! RoofLent$Rock.change(IIII)V -/
noncomputable def f_R_change (o : Nat) (v1 : Int) (v2 : Int) (v3 : Int) (v4 : Int) (μ : zM) : Option zM :=
  (f_R_has o v1 v2 μ).bind fun q1 =>
  if q1 = 0 then
    some μ
  else
    if 0 ≤ z32 ((z32 (v1 * 6)) + v2) ∧ z32 ((z32 (v1 * 6)) + v2) < 30 then
      some (zst μ (o + 2) (z32 ((z32 (v1 * 6)) + v2)).toNat (z32 ((z32 ((z32 (10 * v3)) + v4)) + 1)))
    else none
/-! RoofLent$Rock.push(III)Z -/
noncomputable def f_R_push (o : Nat) (v1 : Int) (v2 : Int) (v3 : Int) (μ : zM) : Option (Int × zM) :=
  (f_R_hasRoom o v1 μ).bind fun q1 =>
  if q1 = 0 then
    some (0, μ)
  else
    if 0 ≤ v1 ∧ v1 < 5 then
      if 0 ≤ v1 ∧ v1 < 5 then
        if 0 ≤ v1 ∧ v1 < 5 then
          (f_R_change o v1 (z32 (((zst (zst μ (o + 1) v1.toNat (z32 ((μ (o + 1) v1.toNat) + 1))) o 1 (z32 (((zst μ (o + 1) v1.toNat (z32 ((μ (o + 1) v1.toNat) + 1))) o 1) + 1))) (o + 1) v1.toNat) - 1)) v2 v3 (zst (zst μ (o + 1) v1.toNat (z32 ((μ (o + 1) v1.toNat) + 1))) o 1 (z32 (((zst μ (o + 1) v1.toNat (z32 ((μ (o + 1) v1.toNat) + 1))) o 1) + 1)))).bind fun q2 =>
          some (1, q2)
        else none
      else none
    else none
/-! RoofLent.readAside(I)I -/
noncomputable def j_X_readAside_53 (v1 : Int) (v2 v3 v4 : Int) (μ : zM) : Option ((Int × Int × zM) ⊕ (Int × zM)) :=
  if v4 = 114 then
    some (.inl ((v2, z32 (v3 + 1), μ)))
  else if v4 = 32 then
    some (.inl ((v2, z32 (v3 + 1), μ)))
  else
    (f_X_kindOfLetter v4 μ).bind fun q5 =>
    if q5 = (-1) then
      some (.inr (v3, μ))
    else
      (f_R_hasRoom 13 (z32 ((f_R_towerCount 13 μ) - 1)) μ).bind fun q6 =>
      if q6 = 0 then
        some (.inr (v3, μ))
      else
        (f_S_get 4 v1 (z32 (v3 + 1)) μ).bind fun q7 =>
        if z32 (v3 + 1) < v2 then
          if f_X_isBorne (z32 (q7 - 48)) = 0 then
            some (.inr (z32 (v3 + 1), μ))
          else
            (f_R_push 13 (z32 ((f_R_towerCount 13 μ) - 1)) q5 (z32 (q7 - 48)) μ).bind fun q8 =>
            some (.inl ((v2, z32 (v3 + 2), q8.2)))
        else
          some (.inr (z32 (v3 + 1), μ))
noncomputable def b_X_readAside_18 (v1 : Int) (v2 v3 : Int) (μ : zM) : Option ((Int × Int × zM) ⊕ (Int × zM)) :=
  if v3 < v2 then
    (f_S_get 4 v1 v3 μ).bind fun q3 =>
    if q3 = 114 then
      (f_R_addTower 13 μ).bind fun q4 =>
      if q4.1 = 0 then
        some (.inr (v3, q4.2))
      else
        j_X_readAside_53 v1 v2 v3 q3 q4.2
    else
      j_X_readAside_53 v1 v2 v3 q3 μ
  else if f_R_towerCount 13 μ = 0 then
    some (.inr (v2, μ))
  else
    some (.inr ((-9), μ))
noncomputable def e_X_readAside (v1 : Int) (μ : zM) : Option ((Int × Int × zM) ⊕ (Int × zM)) :=
  (f_S_sizeOf 4 v1 μ).bind fun q1 =>
  (f_R_clear 13 μ).bind fun q2 =>
  some (.inl ((q1, 0, q2)))
noncomputable def t_X_readAside (v1 : Int) : (Int × Int × zM) → Option ((Int × Int × zM) ⊕ (Int × zM)) := fun s => b_X_readAside_18 v1 s.1 s.2.1 s.2.2
noncomputable def f_X_readAside (v1 : Int) (μ : zM) : Option (Int × zM) := zgo (t_X_readAside v1) (e_X_readAside v1 μ)
/-! RoofLent.fault(I)I -/
noncomputable def f_X_fault (v1 : Int) (μ : zM) : Option (Int × zM) :=
  if f_S_knows 4 v1 = 0 then
    some ((-1), μ)
  else
    (f_S_isThere 4 v1 μ).bind fun q1 =>
    if q1 = 0 then
      (f_X_found 1 μ).bind fun q3 =>
      some (q3.1, q3.2)
    else
      (f_X_readAside v1 μ).bind fun q2 =>
      some (q2.1, q2.2)
/-! RoofLent$Rock.kindAt(II)I -/
noncomputable def f_R_kindAt (o : Nat) (v1 : Int) (v2 : Int) (μ : zM) : Option Int :=
  (f_R_has o v1 v2 μ).bind fun q1 =>
  if q1 = 0 then
    some (-1)
  else
    if 0 ≤ z32 ((z32 (v1 * 6)) + v2) ∧ z32 ((z32 (v1 * 6)) + v2) < 30 then
      some (zdiv (z32 ((μ (o + 2) (z32 ((z32 (v1 * 6)) + v2)).toNat) - 1)) 10)
    else none
/-! RoofLent$Rock.borneAt(II)I -/
noncomputable def f_R_borneAt (o : Nat) (v1 : Int) (v2 : Int) (μ : zM) : Option Int :=
  (f_R_has o v1 v2 μ).bind fun q1 =>
  if q1 = 0 then
    some 0
  else
    if 0 ≤ z32 ((z32 (v1 * 6)) + v2) ∧ z32 ((z32 (v1 * 6)) + v2) < 30 then
      some (zrem (z32 ((μ (o + 2) (z32 ((z32 (v1 * 6)) + v2)).toNat) - 1)) 10)
    else none
/-! RoofLent$Rock.takeWithout(LRoofLent$Rock;I)V -/
noncomputable def b_R_takeWithout_9 (o : Nat) (o1 : Nat) (v2 : Int) (v3 v4 : Int) (μ : zM) : Option (((Int × Int × zM) ⊕ (Int × Int × Int × zM)) ⊕ zM) :=
  if v4 < μ o1 0 then
    (f_R_addTower o μ).bind fun q2 =>
    some (.inl (.inr ((v3, v4, 0, q2.2))))
  else
    some (.inr μ)
noncomputable def b_R_takeWithout_26 (o : Nat) (o1 : Nat) (v2 : Int) (v3 v4 v5 : Int) (μ : zM) : Option (((Int × Int × zM) ⊕ (Int × Int × Int × zM)) ⊕ zM) :=
  (f_R_heightOf o1 v4 μ).bind fun q3 =>
  if v5 < q3 then
    if zand (zshr v2 v3) 1 = 0 then
      (f_R_kindAt o1 v4 v5 μ).bind fun q4 =>
      (f_R_borneAt o1 v4 v5 μ).bind fun q5 =>
      (f_R_push o v4 q4 q5 μ).bind fun q6 =>
      some (.inl (.inr ((z32 (v3 + 1), v4, z32 (v5 + 1), q6.2))))
    else
      some (.inl (.inr ((z32 (v3 + 1), v4, z32 (v5 + 1), μ))))
  else
    some (.inl (.inl ((v3, z32 (v4 + 1), μ))))
noncomputable def e_R_takeWithout (o : Nat) (o1 : Nat) (v2 : Int) (μ : zM) : Option (((Int × Int × zM) ⊕ (Int × Int × Int × zM)) ⊕ zM) :=
  (f_R_clear o μ).bind fun q1 =>
  some (.inl (.inl ((0, 0, q1))))
noncomputable def t_R_takeWithout (o : Nat) (o1 : Nat) (v2 : Int) : ((Int × Int × zM) ⊕ (Int × Int × Int × zM)) → Option (((Int × Int × zM) ⊕ (Int × Int × Int × zM)) ⊕ zM) := fun s => match s with
  | .inl (s) => b_R_takeWithout_9 o o1 v2 s.1 s.2.1 s.2.2
  | .inr (s) => b_R_takeWithout_26 o o1 v2 s.1 s.2.1 s.2.2.1 s.2.2.2
noncomputable def f_R_takeWithout (o : Nat) (o1 : Nat) (v2 : Int) (μ : zM) : Option zM := zgo (t_R_takeWithout o o1 v2) (e_R_takeWithout o o1 v2 μ)
/-! RoofLent$Rock.takeFrom(LRoofLent$Rock;)V -/
noncomputable def f_R_takeFrom (o : Nat) (o1 : Nat) (μ : zM) : Option zM :=
  (f_R_takeWithout o o1 0 μ).bind fun q1 =>
  some q1
/-! RoofLent$Story.startWith(LRoofLent$Rock;)V -/
noncomputable def f_Y_startWith (o : Nat) (o1 : Nat) (μ : zM) : Option zM :=
  (f_R_takeFrom (o + 1) o1 μ).bind fun q1 =>
  some (zst q1 o 2 0)
/-! RoofLent.keptAt(I)LRoofLent$Story; -/
noncomputable def f_X_keptAt (v1 : Int) : Option (Option Nat) :=
  if v1 < 0 then
    some none
  else if v1 < 3 then
    if 0 ≤ v1 ∧ v1 < 3 then
      some (some (27 + 5 * v1.toNat))
    else none
  else
    some none
theorem f_X_keptAt_sh {v1 : Int} {q : Option Nat} {o : Nat} (h1 : f_X_keptAt v1 = some q) (h2 : q = some o) : zsh o = (0, 4) := by
  subst h2
  unfold f_X_keptAt at h1
  repeat' split at h1
  all_goals first | (cases h1; rename_i hc; exact zkept hc) | cases h1
/-! RoofLent$Story.forget()V -/
noncomputable def f_Y_forget (o : Nat) (μ : zM) : Option zM :=
  some (zst μ o 2 (-1))
/-! RoofLent.forgetKept()V -/
noncomputable def b_X_forgetKept_2 (v1 : Int) (μ : zM) : Option ((Int × zM) ⊕ zM) :=
  if v1 < 3 then
    (f_X_keptAt v1).bind fun q1 =>
    match q1 with
    | none =>
      some (.inl ((z32 (v1 + 1), μ)))
    | some o_2 =>
      (f_Y_forget o_2 μ).bind fun q3 =>
      some (.inl ((z32 (v1 + 1), q3)))
  else
    some (.inr μ)
noncomputable def e_X_forgetKept (μ : zM) : Option ((Int × zM) ⊕ zM) :=
  some (.inl ((0, μ)))
noncomputable def t_X_forgetKept : (Int × zM) → Option ((Int × zM) ⊕ zM) := fun s => b_X_forgetKept_2 s.1 s.2
noncomputable def f_X_forgetKept (μ : zM) : Option zM := zgo (t_X_forgetKept) (e_X_forgetKept μ)
/-! RoofLent.rock(I)I -/
noncomputable def f_X_rock (v1 : Int) (μ : zM) : Option (Int × zM) :=
  if f_S_knows 4 v1 = 0 then
    some ((-1), μ)
  else
    (f_S_isThere 4 v1 μ).bind fun q1 =>
    if q1 = 0 then
      (f_X_found 1 μ).bind fun q5 =>
      some (q5.1, q5.2)
    else
      (f_X_readAside v1 μ).bind fun q2 =>
      if q2.1 = (-9) then
        (f_Y_startWith 7 13 q2.2).bind fun q3 =>
        (f_X_forgetKept  q3).bind fun q4 =>
        some (f_R_towerCount 13 q4, q4)
      else
        some ((-4), q2.2)
/-! RoofLent.tower(I)I -/
noncomputable def f_X_tower (v1 : Int) (μ : zM) : Option Int :=
  if f_R_isTower 8 v1 μ = 0 then
    some (-1)
  else
    (f_R_heightOf 8 v1 μ).bind fun q1 =>
    some q1
/-! RoofLent.isNoPlace(II)Z (total) -/
def f_X_isNoPlace (v1 : Int) (v2 : Int) (μ : zM) : Int :=
  if f_R_isTower 8 v1 μ = 0 then
    1
  else if v2 < 0 then
    1
  else
    0
def fo_X_isNoPlace (v1 : Int) (v2 : Int) (μ : zM) : Option Int :=
  if f_R_isTower 8 v1 μ = 0 then
    some 1
  else if v2 < 0 then
    some 1
  else
    some 0
theorem fo_X_isNoPlace_eq (v1 : Int) (v2 : Int) (μ : zM) : fo_X_isNoPlace v1 v2 μ = some (f_X_isNoPlace v1 v2 μ) := by
  unfold fo_X_isNoPlace f_X_isNoPlace
  simp only [zsome_ite]
theorem b_X_isNoPlace (v1 : Int) (v2 : Int) (μ : zM) : f_X_isNoPlace v1 v2 μ = 0 ∨ f_X_isNoPlace v1 v2 μ = 1 := by
  unfold f_X_isNoPlace
  repeat' split
  all_goals first | exact Or.inl rfl | exact Or.inr rfl
/-! RoofLent$Rock.houseCount()I (total) -/
def f_R_houseCount (o : Nat) (μ : zM) : Int :=
  μ o 1
def fo_R_houseCount (o : Nat) (μ : zM) : Option Int :=
  some (μ o 1)
theorem fo_R_houseCount_eq (o : Nat) (μ : zM) : fo_R_houseCount o μ = some (f_R_houseCount o μ) := by
  unfold fo_R_houseCount f_R_houseCount
  simp only [zsome_ite]
/-! RoofLent$Ledger.isNumber(I)Z (total) -/
def f_L_isNumber (v1 : Int) (μ : zM) : Int :=
  if v1 < 0 then
    0
  else if v1 < μ 16 0 then
    1
  else
    0
def fo_L_isNumber (v1 : Int) (μ : zM) : Option Int :=
  if v1 < 0 then
    some 0
  else if v1 < μ 16 0 then
    some 1
  else
    some 0
theorem fo_L_isNumber_eq (v1 : Int) (μ : zM) : fo_L_isNumber v1 μ = some (f_L_isNumber v1 μ) := by
  unfold fo_L_isNumber f_L_isNumber
  simp only [zsome_ite]
theorem b_L_isNumber (v1 : Int) (μ : zM) : f_L_isNumber v1 μ = 0 ∨ f_L_isNumber v1 μ = 1 := by
  unfold f_L_isNumber
  repeat' split
  all_goals first | exact Or.inl rfl | exact Or.inr rfl
/-! RoofLent$Rock.lampedAbove(II)I -/
noncomputable def b_R_lampedAbove_7 (o : Nat) (v1 : Int) (v2 : Int) (v3 v4 : Int) (μ : zM) : Option ((Int × Int) ⊕ Int) :=
  (f_R_heightOf o v1 μ).bind fun q1 =>
  if v4 < q1 then
    (f_R_kindAt o v1 v4 μ).bind fun q2 =>
    if q2 = 5 then
      some (.inl ((z32 (v3 + 1), z32 (v4 + 1))))
    else
      some (.inl ((v3, z32 (v4 + 1))))
  else
    some (.inr v3)
noncomputable def e_R_lampedAbove (o : Nat) (v1 : Int) (v2 : Int) (μ : zM) : Option ((Int × Int) ⊕ Int) :=
  some (.inl ((0, z32 (v2 + 1))))
noncomputable def t_R_lampedAbove (o : Nat) (v1 : Int) (v2 : Int) (μ : zM) : (Int × Int) → Option ((Int × Int) ⊕ Int) := fun s => b_R_lampedAbove_7 o v1 v2 s.1 s.2 μ
noncomputable def f_R_lampedAbove (o : Nat) (v1 : Int) (v2 : Int) (μ : zM) : Option Int := zgo (t_R_lampedAbove o v1 v2 μ) (e_R_lampedAbove o v1 v2 μ)
/-! RoofLent$Ledger.lampsAnHour(I)I (total) -/
def f_L_lampsAnHour (v0 : Int) : Int :=
  if v0 = 4 then
    0
  else if v0 = 3 then
    2
  else
    1
def fo_L_lampsAnHour (v0 : Int) : Option Int :=
  if v0 = 4 then
    some 0
  else if v0 = 3 then
    some 2
  else
    some 1
theorem fo_L_lampsAnHour_eq (v0 : Int) : fo_L_lampsAnHour v0 = some (f_L_lampsAnHour v0) := by
  unfold fo_L_lampsAnHour f_L_lampsAnHour
  simp only [zsome_ite]
/-! RoofLent.isOf(II)Z -/
noncomputable def j_X_isOf_15 (v0 : Int) (v1 : Int) : Option Int :=
  if v0 = 5 then
    if v1 = 2 then
      some 1
    else
      some 0
  else
    some 0
noncomputable def f_X_isOf (v0 : Int) (v1 : Int) : Option Int :=
  if v0 = v1 then
    some 1
  else if v0 = 4 then
    if v1 = 1 then
      some 1
    else
      j_X_isOf_15 v0 v1
  else
    j_X_isOf_15 v0 v1
/-! RoofLent$Rock.numberOf(II)I -/
noncomputable def b_R_numberOf_5 (o : Nat) (v1 : Int) (v2 : Int) (v3 v4 : Int) (μ : zM) : Option ((Int × Int) ⊕ Int) :=
  if v4 < v1 then
    (f_R_heightOf o v4 μ).bind fun q1 =>
    some (.inl ((z32 (v3 + q1), z32 (v4 + 1))))
  else
    some (.inr v3)
noncomputable def e_R_numberOf (o : Nat) (v1 : Int) (v2 : Int) (μ : zM) : Option ((Int × Int) ⊕ Int) :=
  some (.inl ((v2, 0)))
noncomputable def t_R_numberOf (o : Nat) (v1 : Int) (v2 : Int) (μ : zM) : (Int × Int) → Option ((Int × Int) ⊕ Int) := fun s => b_R_numberOf_5 o v1 v2 s.1 s.2 μ
noncomputable def f_R_numberOf (o : Nat) (v1 : Int) (v2 : Int) (μ : zM) : Option Int := zgo (t_R_numberOf o v1 v2 μ) (e_R_numberOf o v1 v2 μ)
/-! RoofLent$Rock.shaderOf(III)I -/
noncomputable def b_R_shaderOf_26 (o : Nat) (v1 : Int) (v2 : Int) (v3 : Int) (v4 : Int) (μ : zM) : Option (Int ⊕ Int) :=
  if v4 < 6 then
    if 0 ≤ v3 ∧ v3 < 5 then
      if 0 ≤ v3 ∧ v3 < 5 then
        (f_R_has o (z32 (v1 + (z32 (v4 * ((zSV 2).getD v3.toNat 0))))) (z32 (v2 + (z32 (v4 * ((zSV 3).getD v3.toNat 0))))) μ).bind fun q1 =>
        if q1 = 0 then
          some (.inl ((z32 (v4 + 1))))
        else
          (f_R_kindAt o (z32 (v1 + (z32 (v4 * ((zSV 2).getD v3.toNat 0))))) (z32 (v2 + (z32 (v4 * ((zSV 3).getD v3.toNat 0))))) μ).bind fun q2 =>
          (f_X_isOf q2 1).bind fun q3 =>
          if q3 = 0 then
            (f_R_numberOf o (z32 (v1 + (z32 (v4 * ((zSV 2).getD v3.toNat 0))))) (z32 (v2 + (z32 (v4 * ((zSV 3).getD v3.toNat 0))))) μ).bind fun q4 =>
            some (.inr q4)
          else
            some (.inl ((z32 (v4 + 1))))
      else none
    else none
  else
    some (.inr (-9))
noncomputable def e_R_shaderOf (o : Nat) (v1 : Int) (v2 : Int) (v3 : Int) (μ : zM) : Option (Int ⊕ Int) :=
  if v3 < 0 then
    some (.inr (-9))
  else if v3 < 5 then
    if v3 < 5 then
      some (.inl (1))
    else
      some (.inr (-9))
  else
    some (.inr (-9))
noncomputable def t_R_shaderOf (o : Nat) (v1 : Int) (v2 : Int) (v3 : Int) (μ : zM) : Int → Option (Int ⊕ Int) := fun s => b_R_shaderOf_26 o v1 v2 v3 s μ
noncomputable def f_R_shaderOf (o : Nat) (v1 : Int) (v2 : Int) (v3 : Int) (μ : zM) : Option Int := zgo (t_R_shaderOf o v1 v2 v3 μ) (e_R_shaderOf o v1 v2 v3 μ)
/-! RoofLent$Ledger.charge(III)V -/
noncomputable def f_L_charge (v1 : Int) (v2 : Int) (v3 : Int) (μ : zM) : Option zM :=
  if f_L_isNumber v1 μ = 0 then
    some μ
  else if f_L_isNumber v2 μ = 0 then
    some μ
  else
    if 0 ≤ z32 ((z32 (v1 * 12)) + v2) ∧ z32 ((z32 (v1 * 12)) + v2) < 144 then
      if 0 ≤ z32 ((z32 (v1 * 12)) + v2) ∧ z32 ((z32 (v1 * 12)) + v2) < 144 then
        if 0 ≤ v1 ∧ v1 < 12 then
          if 0 ≤ v1 ∧ v1 < 12 then
            if 0 ≤ v2 ∧ v2 < 12 then
              if 0 ≤ v2 ∧ v2 < 12 then
                some (zst (zst (zst (zst μ 21 (z32 ((z32 (v1 * 12)) + v2)).toNat (z32 ((μ 21 (z32 ((z32 (v1 * 12)) + v2)).toNat) + v3))) 19 v1.toNat (z32 (((zst μ 21 (z32 ((z32 (v1 * 12)) + v2)).toNat (z32 ((μ 21 (z32 ((z32 (v1 * 12)) + v2)).toNat) + v3))) 19 v1.toNat) + v3))) 20 v2.toNat (z32 (((zst (zst μ 21 (z32 ((z32 (v1 * 12)) + v2)).toNat (z32 ((μ 21 (z32 ((z32 (v1 * 12)) + v2)).toNat) + v3))) 19 v1.toNat (z32 (((zst μ 21 (z32 ((z32 (v1 * 12)) + v2)).toNat (z32 ((μ 21 (z32 ((z32 (v1 * 12)) + v2)).toNat) + v3))) 19 v1.toNat) + v3))) 20 v2.toNat) + v3))) 16 1 (z32 (((zst (zst (zst μ 21 (z32 ((z32 (v1 * 12)) + v2)).toNat (z32 ((μ 21 (z32 ((z32 (v1 * 12)) + v2)).toNat) + v3))) 19 v1.toNat (z32 (((zst μ 21 (z32 ((z32 (v1 * 12)) + v2)).toNat (z32 ((μ 21 (z32 ((z32 (v1 * 12)) + v2)).toNat) + v3))) 19 v1.toNat) + v3))) 20 v2.toNat (z32 (((zst (zst μ 21 (z32 ((z32 (v1 * 12)) + v2)).toNat (z32 ((μ 21 (z32 ((z32 (v1 * 12)) + v2)).toNat) + v3))) 19 v1.toNat (z32 (((zst μ 21 (z32 ((z32 (v1 * 12)) + v2)).toNat (z32 ((μ 21 (z32 ((z32 (v1 * 12)) + v2)).toNat) + v3))) 19 v1.toNat) + v3))) 20 v2.toNat) + v3))) 16 1) + v3)))
              else none
            else none
          else none
        else none
      else none
    else none
/-! RoofLent$Ledger.reckonHouse(LRoofLent$Rock;III)V -/
noncomputable def b_L_reckonHouse_45 (o1 : Nat) (v2 : Int) (v3 : Int) (v4 : Int) (v5 v6 : Int) (μ : zM) : Option ((Int × Int × zM) ⊕ zM) :=
  if v6 < 5 then
    (f_R_shaderOf o1 v2 v3 v6 μ).bind fun q3 =>
    if q3 = (-9) then
      if 0 ≤ v4 ∧ v4 < 12 then
        if 0 ≤ v4 ∧ v4 < 12 then
          some (.inl ((v5, z32 (v6 + 1), zst μ 17 v4.toNat (zor (μ 17 v4.toNat) (zshl 1 v6)))))
        else none
      else none
    else
      (f_L_charge q3 v4 v5 μ).bind fun q4 =>
      some (.inl ((v5, z32 (v6 + 1), q4)))
  else
    some (.inr μ)
noncomputable def e_L_reckonHouse (o1 : Nat) (v2 : Int) (v3 : Int) (v4 : Int) (μ : zM) : Option ((Int × Int × zM) ⊕ zM) :=
  if f_L_isNumber v4 μ = 0 then
    some (.inr μ)
  else
    (f_R_lampedAbove o1 v2 v3 μ).bind fun q1 =>
    if 0 ≤ v4 ∧ v4 < 12 then
      if 0 ≤ v4 ∧ v4 < 12 then
        (f_R_kindAt o1 v2 v3 (zst (zst μ 18 v4.toNat q1) 17 v4.toNat 0)).bind fun q2 =>
        some (.inl ((f_L_lampsAnHour q2, 0, zst (zst μ 18 v4.toNat q1) 17 v4.toNat 0)))
      else none
    else none
noncomputable def t_L_reckonHouse (o1 : Nat) (v2 : Int) (v3 : Int) (v4 : Int) : (Int × Int × zM) → Option ((Int × Int × zM) ⊕ zM) := fun s => b_L_reckonHouse_45 o1 v2 v3 v4 s.1 s.2.1 s.2.2
noncomputable def f_L_reckonHouse (o1 : Nat) (v2 : Int) (v3 : Int) (v4 : Int) (μ : zM) : Option zM := zgo (t_L_reckonHouse o1 v2 v3 v4) (e_L_reckonHouse o1 v2 v3 v4 μ)
/-! RoofLent$Ledger.reckon(LRoofLent$Rock;)V -/
noncomputable def b_L_reckon_20 (o1 : Nat) (v2 : Int) (μ : zM) : Option (((Int × zM) ⊕ (Int × zM) ⊕ (Int × Int × zM) ⊕ (Int × Int × Int × zM)) ⊕ zM) :=
  if v2 < 12 then
    if 0 ≤ v2 ∧ v2 < 12 then
      if 0 ≤ v2 ∧ v2 < 12 then
        some (.inl (.inl ((z32 (v2 + 1), zst (zst μ 19 v2.toNat 0) 20 v2.toNat 0))))
      else none
    else none
  else
    some (.inl (.inr (.inl ((0, μ)))))
noncomputable def b_L_reckon_48 (o1 : Nat) (v2 : Int) (μ : zM) : Option (((Int × zM) ⊕ (Int × zM) ⊕ (Int × Int × zM) ⊕ (Int × Int × Int × zM)) ⊕ zM) :=
  if v2 < 144 then
    if 0 ≤ v2 ∧ v2 < 144 then
      some (.inl (.inr (.inl ((z32 (v2 + 1), zst μ 21 v2.toNat 0)))))
    else none
  else
    some (.inl (.inr (.inr (.inl ((0, 0, μ))))))
noncomputable def b_L_reckon_74 (o1 : Nat) (v2 v3 : Int) (μ : zM) : Option (((Int × zM) ⊕ (Int × zM) ⊕ (Int × Int × zM) ⊕ (Int × Int × Int × zM)) ⊕ zM) :=
  if v3 < f_R_towerCount o1 μ then
    some (.inl (.inr (.inr (.inr ((v2, v3, 0, μ))))))
  else
    some (.inr μ)
noncomputable def b_L_reckon_85 (o1 : Nat) (v2 v3 v4 : Int) (μ : zM) : Option (((Int × zM) ⊕ (Int × zM) ⊕ (Int × Int × zM) ⊕ (Int × Int × Int × zM)) ⊕ zM) :=
  (f_R_heightOf o1 v3 μ).bind fun q1 =>
  if v4 < q1 then
    (f_L_reckonHouse o1 v3 v4 v2 μ).bind fun q2 =>
    some (.inl (.inr (.inr (.inr ((z32 (v2 + 1), v3, z32 (v4 + 1), q2))))))
  else
    some (.inl (.inr (.inr (.inl ((v2, z32 (v3 + 1), μ))))))
noncomputable def e_L_reckon (o1 : Nat) (μ : zM) : Option (((Int × zM) ⊕ (Int × zM) ⊕ (Int × Int × zM) ⊕ (Int × Int × Int × zM)) ⊕ zM) :=
  some (.inl (.inl ((0, zst (zst μ 16 0 (min (f_R_houseCount o1 μ) 12)) 16 1 0))))
noncomputable def t_L_reckon (o1 : Nat) : ((Int × zM) ⊕ (Int × zM) ⊕ (Int × Int × zM) ⊕ (Int × Int × Int × zM)) → Option (((Int × zM) ⊕ (Int × zM) ⊕ (Int × Int × zM) ⊕ (Int × Int × Int × zM)) ⊕ zM) := fun s => match s with
  | .inl (s) => b_L_reckon_20 o1 s.1 s.2
  | .inr (.inl (s)) => b_L_reckon_48 o1 s.1 s.2
  | .inr (.inr (.inl (s))) => b_L_reckon_74 o1 s.1 s.2.1 s.2.2
  | .inr (.inr (.inr (s))) => b_L_reckon_85 o1 s.1 s.2.1 s.2.2.1 s.2.2.2
noncomputable def f_L_reckon (o1 : Nat) (μ : zM) : Option zM := zgo (t_L_reckon o1) (e_L_reckon o1 μ)
/-! RoofLent$Rock.weightInOwnTower(II)I -/
noncomputable def j_R_weightInOwnTower_37 (o : Nat) (v1 : Int) (v2 : Int) (w0 : Int) (μ : zM) : Option Int :=
  if 0 ≤ v2 ∧ v2 < 6 then
    if w0 = 0 then
      some (z32 (((zSV 1).getD v2.toNat 0) + 0))
    else
      some (z32 (((zSV 1).getD v2.toNat 0) + 1))
  else none
noncomputable def j_R_weightInOwnTower_36 (o : Nat) (v1 : Int) (v2 : Int) (μ : zM) : Option Int :=
  j_R_weightInOwnTower_37 o v1 v2 0 μ
noncomputable def f_R_weightInOwnTower (o : Nat) (v1 : Int) (v2 : Int) (μ : zM) : Option Int :=
  if v2 < 0 then
    some 0
  else if v2 < 6 then
    (f_X_isOf v2 2).bind fun q1 =>
    if q1 = 0 then
      j_R_weightInOwnTower_36 o v1 v2 μ
    else if f_R_isTower o (z32 (v1 + 1)) μ = 0 then
      j_R_weightInOwnTower_37 o v1 v2 1 μ
    else
      j_R_weightInOwnTower_36 o v1 v2 μ
  else
    some 0
/-! RoofLent$Rock.weightOn(II)I -/
noncomputable def b_R_weightOn_7 (o : Nat) (v1 : Int) (v2 : Int) (v3 v4 : Int) (μ : zM) : Option (((Int × Int) ⊕ (Int × Int)) ⊕ Int) :=
  (f_R_heightOf o v1 μ).bind fun q1 =>
  if v4 < q1 then
    (f_R_kindAt o v1 v4 μ).bind fun q2 =>
    (f_R_weightInOwnTower o v1 q2 μ).bind fun q3 =>
    some (.inl (.inl ((z32 (v3 + q3), z32 (v4 + 1)))))
  else
    some (.inl (.inr ((v3, v2))))
noncomputable def b_R_weightOn_41 (o : Nat) (v1 : Int) (v2 : Int) (v3 v4 : Int) (μ : zM) : Option (((Int × Int) ⊕ (Int × Int)) ⊕ Int) :=
  (f_R_heightOf o (z32 (v1 - 1)) μ).bind fun q4 =>
  if v4 < q4 then
    (f_R_kindAt o (z32 (v1 - 1)) v4 μ).bind fun q5 =>
    (f_X_isOf q5 2).bind fun q6 =>
    if q6 = 0 then
      some (.inl (.inr ((v3, z32 (v4 + 1)))))
    else
      some (.inl (.inr ((z32 (v3 + 1), z32 (v4 + 1)))))
  else
    some (.inr v3)
noncomputable def e_R_weightOn (o : Nat) (v1 : Int) (v2 : Int) (μ : zM) : Option (((Int × Int) ⊕ (Int × Int)) ⊕ Int) :=
  some (.inl (.inl ((0, z32 (v2 + 1)))))
noncomputable def t_R_weightOn (o : Nat) (v1 : Int) (v2 : Int) (μ : zM) : ((Int × Int) ⊕ (Int × Int)) → Option (((Int × Int) ⊕ (Int × Int)) ⊕ Int) := fun s => match s with
  | .inl (s) => b_R_weightOn_7 o v1 v2 s.1 s.2 μ
  | .inr (s) => b_R_weightOn_41 o v1 v2 s.1 s.2 μ
noncomputable def f_R_weightOn (o : Nat) (v1 : Int) (v2 : Int) (μ : zM) : Option Int := zgo (t_R_weightOn o v1 v2 μ) (e_R_weightOn o v1 v2 μ)
/-! java/lang/Integer.bitCount(I)I (total) -/
def f_J_bitCount (v0 : Int) : Int :=
  zand (z32 ((z32 ((zand (z32 ((z32 ((zand (z32 (v0 - (zand (zushr v0 1) 1431655765))) 858993459) + (zand (zushr (z32 (v0 - (zand (zushr v0 1) 1431655765))) 2) 858993459))) + (zushr (z32 ((zand (z32 (v0 - (zand (zushr v0 1) 1431655765))) 858993459) + (zand (zushr (z32 (v0 - (zand (zushr v0 1) 1431655765))) 2) 858993459))) 4))) 252645135) + (zushr (zand (z32 ((z32 ((zand (z32 (v0 - (zand (zushr v0 1) 1431655765))) 858993459) + (zand (zushr (z32 (v0 - (zand (zushr v0 1) 1431655765))) 2) 858993459))) + (zushr (z32 ((zand (z32 (v0 - (zand (zushr v0 1) 1431655765))) 858993459) + (zand (zushr (z32 (v0 - (zand (zushr v0 1) 1431655765))) 2) 858993459))) 4))) 252645135) 8))) + (zushr (z32 ((zand (z32 ((z32 ((zand (z32 (v0 - (zand (zushr v0 1) 1431655765))) 858993459) + (zand (zushr (z32 (v0 - (zand (zushr v0 1) 1431655765))) 2) 858993459))) + (zushr (z32 ((zand (z32 (v0 - (zand (zushr v0 1) 1431655765))) 858993459) + (zand (zushr (z32 (v0 - (zand (zushr v0 1) 1431655765))) 2) 858993459))) 4))) 252645135) + (zushr (zand (z32 ((z32 ((zand (z32 (v0 - (zand (zushr v0 1) 1431655765))) 858993459) + (zand (zushr (z32 (v0 - (zand (zushr v0 1) 1431655765))) 2) 858993459))) + (zushr (z32 ((zand (z32 (v0 - (zand (zushr v0 1) 1431655765))) 858993459) + (zand (zushr (z32 (v0 - (zand (zushr v0 1) 1431655765))) 2) 858993459))) 4))) 252645135) 8))) 16))) 63
def fo_J_bitCount (v0 : Int) : Option Int :=
  some (zand (z32 ((z32 ((zand (z32 ((z32 ((zand (z32 (v0 - (zand (zushr v0 1) 1431655765))) 858993459) + (zand (zushr (z32 (v0 - (zand (zushr v0 1) 1431655765))) 2) 858993459))) + (zushr (z32 ((zand (z32 (v0 - (zand (zushr v0 1) 1431655765))) 858993459) + (zand (zushr (z32 (v0 - (zand (zushr v0 1) 1431655765))) 2) 858993459))) 4))) 252645135) + (zushr (zand (z32 ((z32 ((zand (z32 (v0 - (zand (zushr v0 1) 1431655765))) 858993459) + (zand (zushr (z32 (v0 - (zand (zushr v0 1) 1431655765))) 2) 858993459))) + (zushr (z32 ((zand (z32 (v0 - (zand (zushr v0 1) 1431655765))) 858993459) + (zand (zushr (z32 (v0 - (zand (zushr v0 1) 1431655765))) 2) 858993459))) 4))) 252645135) 8))) + (zushr (z32 ((zand (z32 ((z32 ((zand (z32 (v0 - (zand (zushr v0 1) 1431655765))) 858993459) + (zand (zushr (z32 (v0 - (zand (zushr v0 1) 1431655765))) 2) 858993459))) + (zushr (z32 ((zand (z32 (v0 - (zand (zushr v0 1) 1431655765))) 858993459) + (zand (zushr (z32 (v0 - (zand (zushr v0 1) 1431655765))) 2) 858993459))) 4))) 252645135) + (zushr (zand (z32 ((z32 ((zand (z32 (v0 - (zand (zushr v0 1) 1431655765))) 858993459) + (zand (zushr (z32 (v0 - (zand (zushr v0 1) 1431655765))) 2) 858993459))) + (zushr (z32 ((zand (z32 (v0 - (zand (zushr v0 1) 1431655765))) 858993459) + (zand (zushr (z32 (v0 - (zand (zushr v0 1) 1431655765))) 2) 858993459))) 4))) 252645135) 8))) 16))) 63)
theorem fo_J_bitCount_eq (v0 : Int) : fo_J_bitCount v0 = some (f_J_bitCount v0) := by
  unfold fo_J_bitCount f_J_bitCount
  simp only [zsome_ite]
/-! RoofLent$Ledger.lightIn(II)I -/
noncomputable def f_L_lightIn (v1 : Int) (v2 : Int) (μ : zM) : Option Int :=
  if f_L_isNumber v1 μ = 0 then
    some 0
  else
    if 0 ≤ v1 ∧ v1 < 12 then
      if 0 ≤ v1 ∧ v1 < 12 then
        some (min 5 (z32 ((f_J_bitCount (zand (μ 17 v1.toNat) (zxor v2 (-1)))) + (μ 18 v1.toNat))))
      else none
    else none
/-! RoofLent$Ledger.lightOf(I)I -/
noncomputable def f_L_lightOf (v1 : Int) (μ : zM) : Option Int :=
  (f_L_lightIn v1 0 μ).bind fun q1 =>
  some q1
/-! RoofLent$Ledger.owingOf(I)I -/
noncomputable def f_L_owingOf (v1 : Int) (μ : zM) : Option Int :=
  if f_L_isNumber v1 μ = 0 then
    some 0
  else
    if 0 ≤ v1 ∧ v1 < 12 then
      some (μ 19 v1.toNat)
    else none
/-! RoofLent$Ledger.owedOf(I)I -/
noncomputable def f_L_owedOf (v1 : Int) (μ : zM) : Option Int :=
  if f_L_isNumber v1 μ = 0 then
    some 0
  else
    if 0 ≤ v1 ∧ v1 < 12 then
      some (μ 20 v1.toNat)
    else none
/-! RoofLent.toldOf(III)I -/
noncomputable def f_X_toldOf (v1 : Int) (v2 : Int) (v3 : Int) (μ : zM) : Option Int :=
  (f_R_numberOf 8 v1 v2 μ).bind fun q1 =>
  if v3 = 0 then
    some q1
  else if v3 = 1 then
    (f_R_kindAt 8 v1 v2 μ).bind fun q4 =>
    some q4
  else if v3 = 2 then
    (f_R_borneAt 8 v1 v2 μ).bind fun q6 =>
    some q6
  else if v3 = 3 then
    (f_R_weightOn 8 v1 v2 μ).bind fun q8 =>
    some q8
  else if v3 = 4 then
    (f_L_lightOf q1 μ).bind fun q10 =>
    some q10
  else if v3 = 5 then
    (f_L_owingOf q1 μ).bind fun q12 =>
    some q12
  else
    (f_L_owedOf q1 μ).bind fun q13 =>
    some q13
/-! RoofLent.house(III)I -/
noncomputable def f_X_house (v1 : Int) (v2 : Int) (v3 : Int) (μ : zM) : Option (Int × zM) :=
  if f_X_isNoPlace v1 v2 μ = 0 then
    if v3 < 0 then
      some ((-1), μ)
    else if 6 < v3 then
      some ((-1), μ)
    else
      (f_R_has 8 v1 v2 μ).bind fun q1 =>
      if q1 = 0 then
        (f_X_found 2 μ).bind fun q4 =>
        some (q4.1, q4.2)
      else
        (f_L_reckon 8 μ).bind fun q2 =>
        (f_X_toldOf v1 v2 v3 q2).bind fun q3 =>
        some (1, zst q2 0 9 q3)
  else
    some ((-1), μ)
/-! RoofLent.isKind(I)Z (total) -/
def f_X_isKind (v0 : Int) : Int :=
  if v0 < 0 then
    0
  else if v0 < 6 then
    1
  else
    0
def fo_X_isKind (v0 : Int) : Option Int :=
  if v0 < 0 then
    some 0
  else if v0 < 6 then
    some 1
  else
    some 0
theorem fo_X_isKind_eq (v0 : Int) : fo_X_isKind v0 = some (f_X_isKind v0) := by
  unfold fo_X_isKind f_X_isKind
  simp only [zsome_ite]
theorem b_X_isKind (v0 : Int) : f_X_isKind v0 = 0 ∨ f_X_isKind v0 = 1 := by
  unfold f_X_isKind
  repeat' split
  all_goals first | exact Or.inl rfl | exact Or.inr rfl
/-! RoofLent$Rock.hoursSeen(II)I -/
noncomputable def b_R_hoursSeen_5 (o : Nat) (v1 : Int) (v2 : Int) (v3 v4 : Int) (μ : zM) : Option ((Int × Int) ⊕ Int) :=
  if v4 < 5 then
    (f_R_shaderOf o v1 v2 v4 μ).bind fun q1 =>
    if q1 = (-9) then
      some (.inl ((zor v3 (zshl 1 v4), z32 (v4 + 1))))
    else
      some (.inl ((v3, z32 (v4 + 1))))
  else
    some (.inr v3)
noncomputable def e_R_hoursSeen (o : Nat) (v1 : Int) (v2 : Int) (μ : zM) : Option ((Int × Int) ⊕ Int) :=
  some (.inl ((0, 0)))
noncomputable def t_R_hoursSeen (o : Nat) (v1 : Int) (v2 : Int) (μ : zM) : (Int × Int) → Option ((Int × Int) ⊕ Int) := fun s => b_R_hoursSeen_5 o v1 v2 s.1 s.2 μ
noncomputable def f_R_hoursSeen (o : Nat) (v1 : Int) (v2 : Int) (μ : zM) : Option Int := zgo (t_R_hoursSeen o v1 v2 μ) (e_R_hoursSeen o v1 v2 μ)
/-! RoofLent.hoursSeenInAll(LRoofLent$Rock;)I -/
noncomputable def b_X_hoursSeenInAll_4 (o0 : Nat) (v1 v2 : Int) (μ : zM) : Option (((Int × Int) ⊕ (Int × Int × Int)) ⊕ Int) :=
  if v2 < f_R_towerCount o0 μ then
    some (.inl (.inr ((v1, v2, 0))))
  else
    some (.inr v1)
noncomputable def b_X_hoursSeenInAll_14 (o0 : Nat) (v1 v2 v3 : Int) (μ : zM) : Option (((Int × Int) ⊕ (Int × Int × Int)) ⊕ Int) :=
  (f_R_heightOf o0 v2 μ).bind fun q1 =>
  if v3 < q1 then
    (f_R_hoursSeen o0 v2 v3 μ).bind fun q2 =>
    some (.inl (.inr ((z32 (v1 + (f_J_bitCount q2)), v2, z32 (v3 + 1)))))
  else
    some (.inl (.inl ((v1, z32 (v2 + 1)))))
noncomputable def e_X_hoursSeenInAll (o0 : Nat) (μ : zM) : Option (((Int × Int) ⊕ (Int × Int × Int)) ⊕ Int) :=
  some (.inl (.inl ((0, 0))))
noncomputable def t_X_hoursSeenInAll (o0 : Nat) (μ : zM) : ((Int × Int) ⊕ (Int × Int × Int)) → Option (((Int × Int) ⊕ (Int × Int × Int)) ⊕ Int) := fun s => match s with
  | .inl (s) => b_X_hoursSeenInAll_4 o0 s.1 s.2 μ
  | .inr (s) => b_X_hoursSeenInAll_14 o0 s.1 s.2.1 s.2.2 μ
noncomputable def f_X_hoursSeenInAll (o0 : Nat) (μ : zM) : Option Int := zgo (t_X_hoursSeenInAll o0 μ) (e_X_hoursSeenInAll o0 μ)
/-! RoofLent.hoursTakenIfHouse(II)I -/
noncomputable def f_X_hoursTakenIfHouse (v1 : Int) (v2 : Int) (μ : zM) : Option (Int × zM) :=
  (f_X_hoursSeenInAll 8 μ).bind fun q1 =>
  (f_R_takeFrom 13 8 μ).bind fun q2 =>
  (f_R_borneAt 13 v1 v2 q2).bind fun q3 =>
  (f_R_change 13 v1 v2 0 q3 q2).bind fun q4 =>
  (f_X_hoursSeenInAll 13 q4).bind fun q5 =>
  some (z32 (q1 - q5), q4)
/-! RoofLent.lightenedBelow(II)I -/
noncomputable def b_X_lightenedBelow_5 (v1 : Int) (v2 : Int) (v3 v4 : Int) (μ : zM) : Option ((Int × Int) ⊕ Int) :=
  if v4 < v2 then
    (f_R_hoursSeen 8 v1 v4 μ).bind fun q1 =>
    (f_R_lampedAbove 8 v1 v4 μ).bind fun q2 =>
    if 5 < z32 ((f_J_bitCount q1) + q2) then
      some (.inl ((v3, z32 (v4 + 1))))
    else
      some (.inl ((z32 (v3 + 1), z32 (v4 + 1))))
  else
    some (.inr v3)
noncomputable def e_X_lightenedBelow (v1 : Int) (v2 : Int) (μ : zM) : Option ((Int × Int) ⊕ Int) :=
  some (.inl ((0, 0)))
noncomputable def t_X_lightenedBelow (v1 : Int) (v2 : Int) (μ : zM) : (Int × Int) → Option ((Int × Int) ⊕ Int) := fun s => b_X_lightenedBelow_5 v1 v2 s.1 s.2 μ
noncomputable def f_X_lightenedBelow (v1 : Int) (v2 : Int) (μ : zM) : Option Int := zgo (t_X_lightenedBelow v1 v2 μ) (e_X_lightenedBelow v1 v2 μ)
/-! RoofLent.markOf(III)I -/
noncomputable def f_X_markOf (v1 : Int) (v2 : Int) (v3 : Int) (μ : zM) : Option (Int × zM) :=
  if v3 = 1 then
    (f_X_hoursTakenIfHouse v1 v2 μ).bind fun q2 =>
    some (q2.1, q2.2)
  else if v3 = 2 then
    (f_R_heightOf 8 (z32 (v1 + 1)) μ).bind fun q4 =>
    some (min q4 (z32 (v2 + 1)), μ)
  else if v3 = 3 then
    (f_L_reckon 8 μ).bind fun q6 =>
    (f_R_numberOf 8 v1 v2 q6).bind fun q7 =>
    (f_L_owedOf q7 q6).bind fun q8 =>
    some (q8, q6)
  else if v3 = 4 then
    (f_R_heightOf 8 v1 μ).bind fun q10 =>
    some (z32 ((z32 (q10 - 1)) - v2), μ)
  else
    (f_X_lightenedBelow v1 v2 μ).bind fun q11 =>
    some (q11, μ)
/-! RoofLent.mark(III)I -/
noncomputable def f_X_mark (v1 : Int) (v2 : Int) (v3 : Int) (μ : zM) : Option (Int × zM) :=
  if f_X_isNoPlace v1 v2 μ = 0 then
    if f_X_isKind v3 = 0 then
      some ((-1), μ)
    else if v3 = 0 then
      some ((-1), μ)
    else
      (f_R_has 8 v1 v2 μ).bind fun q1 =>
      if q1 = 0 then
        (f_X_found 2 μ).bind fun q6 =>
        some (q6.1, q6.2)
      else
        (f_R_kindAt 8 v1 v2 μ).bind fun q2 =>
        (f_X_isOf q2 v3).bind fun q3 =>
        if q3 = 0 then
          (f_X_found 3 μ).bind fun q5 =>
          some (q5.1, q5.2)
        else
          (f_X_markOf v1 v2 v3 μ).bind fun q4 =>
          some (q4.1, q4.2)
  else
    some ((-1), μ)
/-! RoofLent.bear(III)I -/
noncomputable def f_X_bear (v1 : Int) (v2 : Int) (v3 : Int) (μ : zM) : Option (Int × zM) :=
  if f_X_isNoPlace v1 v2 μ = 0 then
    if f_X_isBorne v3 = 0 then
      some ((-1), μ)
    else
      (f_R_has 8 v1 v2 μ).bind fun q1 =>
      if q1 = 0 then
        (f_X_found 2 μ).bind fun q5 =>
        some (q5.1, q5.2)
      else
        (f_R_borneAt 8 v1 v2 μ).bind fun q2 =>
        (f_R_kindAt 8 v1 v2 μ).bind fun q3 =>
        (f_R_change 8 v1 v2 q3 v3 μ).bind fun q4 =>
        some (q2, q4)
  else
    some ((-1), μ)
/-! RoofLent$Story.hasRoomFor(I)Z (total) -/
def f_Y_hasRoomFor (o : Nat) (v1 : Int) (μ : zM) : Int :=
  if 40 < z32 ((μ o 2) + v1) then
    0
  else
    1
def fo_Y_hasRoomFor (o : Nat) (v1 : Int) (μ : zM) : Option Int :=
  if 40 < z32 ((μ o 2) + v1) then
    some 0
  else
    some 1
theorem fo_Y_hasRoomFor_eq (o : Nat) (v1 : Int) (μ : zM) : fo_Y_hasRoomFor o v1 μ = some (f_Y_hasRoomFor o v1 μ) := by
  unfold fo_Y_hasRoomFor f_Y_hasRoomFor
  simp only [zsome_ite]
theorem b_Y_hasRoomFor (o : Nat) (v1 : Int) (μ : zM) : f_Y_hasRoomFor o v1 μ = 0 ∨ f_Y_hasRoomFor o v1 μ = 1 := by
  unfold f_Y_hasRoomFor
  repeat' split
  all_goals first | exact Or.inl rfl | exact Or.inr rfl
/-! RoofLent$Rock.saveTo([II)V -/
noncomputable def f_R_saveTo (o : Nat) (o1 : Nat) (v2 : Int) (μ : zM) : Option zM :=
  if v2 < 0 then
    some μ
  else if z32 ((zsz o1) - 30) < v2 then
    some μ
  else
    if 0 ≤ (0 : Int) ∧ 0 ≤ v2 ∧ 0 ≤ (30 : Int) ∧ (0 : Int) + 30 ≤ 30 ∧ v2 + 30 ≤ zsz o1 then
      some (zcp μ (o + 2) (0 : Int).toNat o1 v2.toNat (30 : Int).toNat)
    else none
/-! RoofLent$Story.noteDeed()V -/
noncomputable def f_Y_noteDeed (o : Nat) (μ : zM) : Option zM :=
  if f_Y_hasRoomFor o 1 μ = 0 then
    some μ
  else
    (f_R_saveTo (o + 1) (o + 4) (z32 ((μ o 2) * 30)) μ).bind fun q1 =>
    some (zst q1 o 2 (z32 ((q1 o 2) + 1)))
/-! RoofLent.build(III)I -/
noncomputable def f_X_build (v1 : Int) (v2 : Int) (v3 : Int) (μ : zM) : Option (Int × zM) :=
  if f_R_isTower 8 v1 μ = 0 then
    some ((-1), μ)
  else if f_X_isKind v2 = 0 then
    some ((-1), μ)
  else if f_X_isBorne v3 = 0 then
    some ((-1), μ)
  else
    (f_R_hasRoom 8 v1 μ).bind fun q1 =>
    if q1 = 0 then
      some ((-2), μ)
    else if f_Y_hasRoomFor 7 1 μ = 0 then
      some ((-2), μ)
    else
      (f_Y_noteDeed 7 μ).bind fun q2 =>
      (f_R_push 8 v1 v2 v3 q2).bind fun q3 =>
      (f_R_heightOf 8 v1 q3.2).bind fun q4 =>
      some (z32 (q4 - 1), q3.2)
/-! RoofLent$Rock.remove(II)V -/
noncomputable def b_R_remove_22 (o : Nat) (v1 : Int) (v2 : Int) (v3 v4 : Int) (μ : zM) : Option ((Int × Int × zM) ⊕ zM) :=
  if v4 < v3 then
    (f_R_kindAt o v1 (z32 (v4 + 1)) μ).bind fun q2 =>
    (f_R_borneAt o v1 (z32 (v4 + 1)) μ).bind fun q3 =>
    (f_R_change o v1 v4 q2 q3 μ).bind fun q4 =>
    some (.inl ((v3, z32 (v4 + 1), q4)))
  else
    if 0 ≤ z32 ((z32 (v1 * 6)) + v3) ∧ z32 ((z32 (v1 * 6)) + v3) < 30 then
      if 0 ≤ v1 ∧ v1 < 5 then
        if 0 ≤ v1 ∧ v1 < 5 then
          some (.inr (zst (zst (zst μ (o + 2) (z32 ((z32 (v1 * 6)) + v3)).toNat 0) (o + 1) v1.toNat (z32 (((zst μ (o + 2) (z32 ((z32 (v1 * 6)) + v3)).toNat 0) (o + 1) v1.toNat) - 1))) o 1 (z32 (((zst (zst μ (o + 2) (z32 ((z32 (v1 * 6)) + v3)).toNat 0) (o + 1) v1.toNat (z32 (((zst μ (o + 2) (z32 ((z32 (v1 * 6)) + v3)).toNat 0) (o + 1) v1.toNat) - 1))) o 1) - 1))))
        else none
      else none
    else none
noncomputable def e_R_remove (o : Nat) (v1 : Int) (v2 : Int) (μ : zM) : Option ((Int × Int × zM) ⊕ zM) :=
  (f_R_has o v1 v2 μ).bind fun q1 =>
  if q1 = 0 then
    some (.inr μ)
  else
    if 0 ≤ v1 ∧ v1 < 5 then
      some (.inl ((z32 ((μ (o + 1) v1.toNat) - 1), v2, μ)))
    else none
noncomputable def t_R_remove (o : Nat) (v1 : Int) (v2 : Int) : (Int × Int × zM) → Option ((Int × Int × zM) ⊕ zM) := fun s => b_R_remove_22 o v1 v2 s.1 s.2.1 s.2.2
noncomputable def f_R_remove (o : Nat) (v1 : Int) (v2 : Int) (μ : zM) : Option zM := zgo (t_R_remove o v1 v2) (e_R_remove o v1 v2 μ)
/-! RoofLent.leave(II)I -/
noncomputable def f_X_leave (v1 : Int) (v2 : Int) (μ : zM) : Option (Int × zM) :=
  if f_X_isNoPlace v1 v2 μ = 0 then
    (f_R_has 8 v1 v2 μ).bind fun q1 =>
    if q1 = 0 then
      (f_X_found 2 μ).bind fun q5 =>
      some (q5.1, q5.2)
    else if f_Y_hasRoomFor 7 1 μ = 0 then
      some ((-2), μ)
    else
      (f_Y_noteDeed 7 μ).bind fun q2 =>
      (f_R_remove 8 v1 v2 q2).bind fun q3 =>
      (f_R_heightOf 8 v1 q3).bind fun q4 =>
      some (z32 (q4 - v2), q3)
  else
    some ((-1), μ)
/-! RoofLent$Rock.housesIn(I)I -/
noncomputable def b_R_housesIn_4 (o : Nat) (v1 : Int) (v2 v3 : Int) (μ : zM) : Option ((Int × Int) ⊕ Int) :=
  if v3 < 6 then
    if z32 ((z32 (v1 * 6)) + v3) < 0 then
      some (.inl ((v2, z32 (v3 + 1))))
    else if z32 ((z32 (v1 * 6)) + v3) < 30 then
      if 0 ≤ z32 ((z32 (v1 * 6)) + v3) ∧ z32 ((z32 (v1 * 6)) + v3) < 30 then
        if μ (o + 2) (z32 ((z32 (v1 * 6)) + v3)).toNat = 0 then
          some (.inl ((v2, z32 (v3 + 1))))
        else
          some (.inl ((z32 (v2 + 1), z32 (v3 + 1))))
      else none
    else
      some (.inl ((v2, z32 (v3 + 1))))
  else
    some (.inr v2)
noncomputable def e_R_housesIn (o : Nat) (v1 : Int) (μ : zM) : Option ((Int × Int) ⊕ Int) :=
  some (.inl ((0, 0)))
noncomputable def t_R_housesIn (o : Nat) (v1 : Int) (μ : zM) : (Int × Int) → Option ((Int × Int) ⊕ Int) := fun s => b_R_housesIn_4 o v1 s.1 s.2 μ
noncomputable def f_R_housesIn (o : Nat) (v1 : Int) (μ : zM) : Option Int := zgo (t_R_housesIn o v1 μ) (e_R_housesIn o v1 μ)
/-! RoofLent$Rock.loadFrom([II)V -/
noncomputable def b_R_loadFrom_33 (o : Nat) (o1 : Nat) (v2 : Int) (v3 : Int) (μ : zM) : Option ((Int × zM) ⊕ zM) :=
  if v3 < 5 then
    (f_R_housesIn o v3 μ).bind fun q1 =>
    if 0 ≤ v3 ∧ v3 < 5 then
      if 0 ≤ v3 ∧ v3 < 5 then
        some (.inl ((z32 (v3 + 1), zst (zst μ (o + 1) v3.toNat q1) o 1 (z32 (((zst μ (o + 1) v3.toNat q1) o 1) + ((zst μ (o + 1) v3.toNat q1) (o + 1) v3.toNat))))))
      else none
    else none
  else
    some (.inr μ)
noncomputable def e_R_loadFrom (o : Nat) (o1 : Nat) (v2 : Int) (μ : zM) : Option ((Int × zM) ⊕ zM) :=
  if v2 < 0 then
    some (.inr μ)
  else if z32 ((zsz o1) - 30) < v2 then
    some (.inr μ)
  else
    if 0 ≤ v2 ∧ 0 ≤ (0 : Int) ∧ 0 ≤ (30 : Int) ∧ v2 + 30 ≤ zsz o1 ∧ (0 : Int) + 30 ≤ 30 then
      some (.inl ((0, zst (zcp μ o1 v2.toNat (o + 2) (0 : Int).toNat (30 : Int).toNat) o 1 0)))
    else none
noncomputable def t_R_loadFrom (o : Nat) (o1 : Nat) (v2 : Int) : (Int × zM) → Option ((Int × zM) ⊕ zM) := fun s => b_R_loadFrom_33 o o1 v2 s.1 s.2
noncomputable def f_R_loadFrom (o : Nat) (o1 : Nat) (v2 : Int) (μ : zM) : Option zM := zgo (t_R_loadFrom o o1 v2) (e_R_loadFrom o o1 v2 μ)
/-! RoofLent$Story.goBackTo(I)V -/
noncomputable def f_Y_goBackTo (o : Nat) (v1 : Int) (μ : zM) : Option zM :=
  if v1 < 0 then
    some μ
  else if v1 < μ o 2 then
    (f_R_loadFrom (o + 1) (o + 4) (z32 (v1 * 30)) μ).bind fun q1 =>
    some (zst q1 o 2 v1)
  else
    some μ
/-! RoofLent.undo(I)I -/
noncomputable def f_X_undo (v1 : Int) (μ : zM) : Option (Int × zM) :=
  if v1 < 0 then
    some ((-1), μ)
  else if μ 7 2 < v1 then
    some ((-1), μ)
  else
    (f_Y_goBackTo 7 v1 μ).bind fun q1 =>
    some (z32 ((μ 7 2) - v1), q1)
/-! RoofLent$Story.takeFrom(LRoofLent$Story;)V -/
noncomputable def f_Y_takeFrom (o : Nat) (o1 : Nat) (μ : zM) : Option zM :=
  (f_R_takeFrom (o + 1) (o1 + 1) μ).bind fun q1 =>
  if 0 ≤ (0 : Int) ∧ 0 ≤ (0 : Int) ∧ 0 ≤ (1200 : Int) ∧ (0 : Int) + 1200 ≤ 1200 ∧ (0 : Int) + 1200 ≤ 1200 then
    some (zcp (zst q1 o 2 (q1 o1 2)) (o1 + 4) (0 : Int).toNat (o + 4) (0 : Int).toNat (1200 : Int).toNat)
  else none
/-! RoofLent.keep(I)I -/
noncomputable def f_X_keep (v1 : Int) (μ : zM) : Option (Int × zM) :=
  (f_X_keptAt v1).bind fun q1 =>
  match q1 with
  | none =>
    some ((-1), μ)
  | some o_2 =>
    if f_R_towerCount 8 μ = 0 then
      some ((-4), μ)
    else
      (f_Y_takeFrom o_2 7 μ).bind fun q3 =>
      some (q3 7 2, q3)
/-! RoofLent$Story.isThere()Z (total) -/
def f_Y_isThere (o : Nat) (μ : zM) : Int :=
  if μ o 2 < 0 then
    0
  else
    1
def fo_Y_isThere (o : Nat) (μ : zM) : Option Int :=
  if μ o 2 < 0 then
    some 0
  else
    some 1
theorem fo_Y_isThere_eq (o : Nat) (μ : zM) : fo_Y_isThere o μ = some (f_Y_isThere o μ) := by
  unfold fo_Y_isThere f_Y_isThere
  simp only [zsome_ite]
theorem b_Y_isThere (o : Nat) (μ : zM) : f_Y_isThere o μ = 0 ∨ f_Y_isThere o μ = 1 := by
  unfold f_Y_isThere
  repeat' split
  all_goals first | exact Or.inl rfl | exact Or.inr rfl
/-! RoofLent.on(I)I -/
noncomputable def f_X_on (v1 : Int) (μ : zM) : Option (Int × zM) :=
  (f_X_keptAt v1).bind fun q1 =>
  match q1 with
  | none =>
    some ((-1), μ)
  | some o_2 =>
    if f_Y_isThere o_2 μ = 0 then
      (f_X_found 1 μ).bind fun q4 =>
      some (q4.1, q4.2)
    else
      (f_Y_takeFrom 7 o_2 μ).bind fun q3 =>
      some (q3 7 2, q3)
/-! RoofLent.shades(III)I -/
noncomputable def f_X_shades (v1 : Int) (v2 : Int) (v3 : Int) (μ : zM) : Option (Int × zM) :=
  if f_X_isNoPlace v1 v2 μ = 0 then
    if v3 < 0 then
      some ((-1), μ)
    else if v3 < 5 then
      (f_R_has 8 v1 v2 μ).bind fun q1 =>
      if q1 = 0 then
        (f_X_found 2 μ).bind fun q3 =>
        some (q3.1, q3.2)
      else
        (f_R_shaderOf 8 v1 v2 v3 μ).bind fun q2 =>
        some (q2, μ)
    else
      some ((-1), μ)
  else
    some ((-1), μ)
/-! RoofLent.sees(II)I -/
noncomputable def f_X_sees (v1 : Int) (v2 : Int) (μ : zM) : Option (Int × zM) :=
  if f_X_isNoPlace v1 v2 μ = 0 then
    (f_R_has 8 v1 v2 μ).bind fun q1 =>
    if q1 = 0 then
      (f_X_found 2 μ).bind fun q4 =>
      some (q4.1, q4.2)
    else
      (f_R_lampedAbove 8 v1 v2 μ).bind fun q2 =>
      (f_R_hoursSeen 8 v1 v2 (zst μ 0 9 q2)).bind fun q3 =>
      some (q3, zst μ 0 9 q2)
  else
    some ((-1), μ)
/-! RoofLent$Rock.isNumber(I)Z (total) -/
def f_R_isNumber (o : Nat) (v1 : Int) (μ : zM) : Int :=
  if v1 < 0 then
    0
  else if v1 < μ o 1 then
    1
  else
    0
def fo_R_isNumber (o : Nat) (v1 : Int) (μ : zM) : Option Int :=
  if v1 < 0 then
    some 0
  else if v1 < μ o 1 then
    some 1
  else
    some 0
theorem fo_R_isNumber_eq (o : Nat) (v1 : Int) (μ : zM) : fo_R_isNumber o v1 μ = some (f_R_isNumber o v1 μ) := by
  unfold fo_R_isNumber f_R_isNumber
  simp only [zsome_ite]
theorem b_R_isNumber (o : Nat) (v1 : Int) (μ : zM) : f_R_isNumber o v1 μ = 0 ∨ f_R_isNumber o v1 μ = 1 := by
  unfold f_R_isNumber
  repeat' split
  all_goals first | exact Or.inl rfl | exact Or.inr rfl
/-! RoofLent$Ledger.lampsFromTo(II)I -/
noncomputable def f_L_lampsFromTo (v1 : Int) (v2 : Int) (μ : zM) : Option Int :=
  if f_L_isNumber v1 μ = 0 then
    some 0
  else if f_L_isNumber v2 μ = 0 then
    some 0
  else
    if 0 ≤ z32 ((z32 (v1 * 12)) + v2) ∧ z32 ((z32 (v1 * 12)) + v2) < 144 then
      some (μ 21 (z32 ((z32 (v1 * 12)) + v2)).toNat)
    else none
/-! RoofLent.owes(II)I -/
noncomputable def f_X_owes (v1 : Int) (v2 : Int) (μ : zM) : Option (Int × zM) :=
  if f_R_isNumber 8 v1 μ = 0 then
    some ((-1), μ)
  else if f_R_isNumber 8 v2 μ = 0 then
    some ((-1), μ)
  else if v1 = v2 then
    some ((-1), μ)
  else
    (f_L_reckon 8 μ).bind fun q1 =>
    (f_L_lampsFromTo v1 v2 q1).bind fun q2 =>
    some (q2, q1)
/-! RoofLent$Ledger.debtOf(I)I -/
noncomputable def f_L_debtOf (v1 : Int) (μ : zM) : Option Int :=
  (f_L_owingOf v1 μ).bind fun q1 =>
  (f_L_owedOf v1 μ).bind fun q2 =>
  some (z32 (q1 - q2))
/-! RoofLent.debt(I)I -/
noncomputable def f_X_debt (v1 : Int) (μ : zM) : Option (Int × zM) :=
  if f_R_isNumber 8 v1 μ = 0 then
    some ((-1), μ)
  else
    (f_L_reckon 8 μ).bind fun q1 =>
    (f_L_debtOf v1 q1).bind fun q2 =>
    some (1, zst q1 0 9 q2)
/-! RoofLent$Ledger.allLight()I -/
noncomputable def b_L_allLight_4 (v1 v2 : Int) (μ : zM) : Option ((Int × Int) ⊕ Int) :=
  if v2 < μ 16 0 then
    (f_L_lightOf v2 μ).bind fun q1 =>
    some (.inl ((z32 (v1 + q1), z32 (v2 + 1))))
  else
    some (.inr v1)
noncomputable def e_L_allLight (μ : zM) : Option ((Int × Int) ⊕ Int) :=
  some (.inl ((0, 0)))
noncomputable def t_L_allLight (μ : zM) : (Int × Int) → Option ((Int × Int) ⊕ Int) := fun s => b_L_allLight_4 s.1 s.2 μ
noncomputable def f_L_allLight (μ : zM) : Option Int := zgo (t_L_allLight μ) (e_L_allLight μ)
/-! RoofLent.light()I -/
noncomputable def f_X_light (μ : zM) : Option (Int × zM) :=
  (f_L_reckon 8 μ).bind fun q1 =>
  (f_L_allLight  (zst q1 0 9 (q1 16 1))).bind fun q2 =>
  some (q2, zst q1 0 9 (q1 16 1))
/-! RoofLent.ruined()I -/
noncomputable def b_X_ruined_19 (v1 v2 : Int) (μ : zM) : Option ((Int × Int × zM) ⊕ (Int × zM)) :=
  if v2 < f_R_houseCount 8 μ then
    if v1 = (-9) then
      some (.inl ((v2, z32 (v2 + 1), μ)))
    else
      (f_L_owingOf v2 μ).bind fun q3 =>
      (f_L_owingOf v1 μ).bind fun q4 =>
      if q4 < q3 then
        some (.inl ((v2, z32 (v2 + 1), μ)))
      else
        some (.inl ((v1, z32 (v2 + 1), μ)))
  else if v1 = (-9) then
    some (.inr (v1, μ))
  else
    (f_L_owingOf v1 μ).bind fun q2 =>
    some (.inr (v1, zst μ 0 9 q2))
noncomputable def e_X_ruined (μ : zM) : Option ((Int × Int × zM) ⊕ (Int × zM)) :=
  (f_L_reckon 8 μ).bind fun q1 =>
  some (.inl (((-9), 0, q1)))
noncomputable def t_X_ruined : (Int × Int × zM) → Option ((Int × Int × zM) ⊕ (Int × zM)) := fun s => b_X_ruined_19 s.1 s.2.1 s.2.2
noncomputable def f_X_ruined (μ : zM) : Option (Int × zM) := zgo (t_X_ruined) (e_X_ruined μ)
/-! RoofLent$Rock.isSwaying(II)Z -/
noncomputable def f_R_isSwaying (o : Nat) (v1 : Int) (v2 : Int) (μ : zM) : Option Int :=
  (f_R_has o v1 v2 μ).bind fun q1 =>
  if q1 = 0 then
    some 0
  else
    (f_R_weightOn o v1 v2 μ).bind fun q2 =>
    (f_R_borneAt o v1 v2 μ).bind fun q3 =>
    if q3 < q2 then
      some 1
    else
      some 0
/-! RoofLent.sways()I -/
noncomputable def b_X_sways_16 (v1 v2 v4 : Int) (μ : zM) : Option (((Int × Int × Int × zM) ⊕ (Int × Int × Int × Int × zM)) ⊕ (Int × zM)) :=
  if v4 < f_R_towerCount 8 μ then
    some (.inl (.inr ((v1, v2, v4, 0, μ))))
  else
    some (.inr (v1, zst μ 0 9 v2))
noncomputable def b_X_sways_28 (v1 v2 v4 v5 : Int) (μ : zM) : Option (((Int × Int × Int × zM) ⊕ (Int × Int × Int × Int × zM)) ⊕ (Int × zM)) :=
  (f_R_heightOf 8 v4 μ).bind fun q1 =>
  if v5 < q1 then
    (f_R_isSwaying 8 v4 v5 μ).bind fun q2 =>
    if q2 = 0 then
      some (.inl (.inr ((v1, v2, v4, z32 (v5 + 1), μ))))
    else if v2 = 0 then
      (f_R_numberOf 8 v4 v5 μ).bind fun q3 =>
      some (.inl (.inr ((q3, z32 (v2 + 1), v4, z32 (v5 + 1), μ))))
    else
      some (.inl (.inr ((v1, z32 (v2 + 1), v4, z32 (v5 + 1), μ))))
  else
    some (.inl (.inl ((v1, v2, z32 (v4 + 1), μ))))
noncomputable def e_X_sways (μ : zM) : Option (((Int × Int × Int × zM) ⊕ (Int × Int × Int × Int × zM)) ⊕ (Int × zM)) :=
  some (.inl (.inl (((-9), 0, 0, μ))))
noncomputable def t_X_sways : ((Int × Int × Int × zM) ⊕ (Int × Int × Int × Int × zM)) → Option (((Int × Int × Int × zM) ⊕ (Int × Int × Int × Int × zM)) ⊕ (Int × zM)) := fun s => match s with
  | .inl (s) => b_X_sways_16 s.1 s.2.1 s.2.2.1 s.2.2.2
  | .inr (s) => b_X_sways_28 s.1 s.2.1 s.2.2.1 s.2.2.2.1 s.2.2.2.2
noncomputable def f_X_sways (μ : zM) : Option (Int × zM) := zgo (t_X_sways) (e_X_sways μ)
/-! RoofLent$Rock.isSteady()Z -/
noncomputable def b_R_isSteady_2 (o : Nat) (v1 : Int) (μ : zM) : Option ((Int ⊕ (Int × Int)) ⊕ Int) :=
  if v1 < μ o 0 then
    some (.inl (.inr ((v1, 0))))
  else
    some (.inr 1)
noncomputable def b_R_isSteady_12 (o : Nat) (v1 v2 : Int) (μ : zM) : Option ((Int ⊕ (Int × Int)) ⊕ Int) :=
  (f_R_heightOf o v1 μ).bind fun q1 =>
  if v2 < q1 then
    (f_R_isSwaying o v1 v2 μ).bind fun q2 =>
    if q2 = 0 then
      some (.inl (.inr ((v1, z32 (v2 + 1)))))
    else
      some (.inr 0)
  else
    some (.inl (.inl ((z32 (v1 + 1)))))
noncomputable def e_R_isSteady (o : Nat) (μ : zM) : Option ((Int ⊕ (Int × Int)) ⊕ Int) :=
  some (.inl (.inl (0)))
noncomputable def t_R_isSteady (o : Nat) (μ : zM) : (Int ⊕ (Int × Int)) → Option ((Int ⊕ (Int × Int)) ⊕ Int) := fun s => match s with
  | .inl (s) => b_R_isSteady_2 o s μ
  | .inr (s) => b_R_isSteady_12 o s.1 s.2 μ
noncomputable def f_R_isSteady (o : Nat) (μ : zM) : Option Int := zgo (t_R_isSteady o μ) (e_R_isSteady o μ)
/-! RoofLent.lampsWhereSteady(LRoofLent$Rock;)I -/
noncomputable def f_X_lampsWhereSteady (o1 : Nat) (μ : zM) : Option (Int × zM) :=
  (f_R_isSteady o1 μ).bind fun q1 =>
  if q1 = 0 then
    some ((-9), μ)
  else
    (f_L_reckon o1 μ).bind fun q2 =>
    some (q2 16 1, q2)
/-! RoofLent$Rock.pop(I)V -/
noncomputable def f_R_pop (o : Nat) (v1 : Int) (μ : zM) : Option zM :=
  (f_R_heightOf o v1 μ).bind fun q1 =>
  (f_R_remove o v1 (z32 (q1 - 1)) μ).bind fun q2 =>
  some q2
/-! RoofLent.best(II)I -/
noncomputable def b_X_best_55 (v1 : Int) (v2 : Int) (v3 v4 v5 : Int) (μ : zM) : Option ((Int × Int × Int × zM) ⊕ (Int × zM)) :=
  if v5 < f_R_towerCount 13 μ then
    (f_R_push 13 v5 v1 v2 μ).bind fun q2 =>
    if q2.1 = 0 then
      some (.inl ((v3, v4, z32 (v5 + 1), q2.2)))
    else
      (f_X_lampsWhereSteady 13 q2.2).bind fun q3 =>
      if q3.1 = (-9) then
        (f_R_pop 13 v5 q3.2).bind fun q4 =>
        some (.inl ((v3, v4, z32 (v5 + 1), q4)))
      else if v3 = (-9) then
        (f_R_pop 13 v5 q3.2).bind fun q5 =>
        some (.inl ((v5, q3.1, z32 (v5 + 1), q5)))
      else if q3.1 < v4 then
        (f_R_pop 13 v5 q3.2).bind fun q7 =>
        some (.inl ((v5, q3.1, z32 (v5 + 1), q7)))
      else
        (f_R_pop 13 v5 q3.2).bind fun q6 =>
        some (.inl ((v3, v4, z32 (v5 + 1), q6)))
  else if v3 = (-9) then
    some (.inr (v3, μ))
  else
    some (.inr (v3, zst μ 0 9 v4))
noncomputable def e_X_best (v1 : Int) (v2 : Int) (μ : zM) : Option ((Int × Int × Int × zM) ⊕ (Int × zM)) :=
  if f_X_isKind v1 = 0 then
    some (.inr ((-1), μ))
  else if f_X_isBorne v2 = 0 then
    some (.inr ((-1), μ))
  else if f_R_towerCount 8 μ = 0 then
    some (.inr ((-4), μ))
  else
    (f_R_takeFrom 13 8 μ).bind fun q1 =>
    some (.inl (((-9), 0, 0, q1)))
noncomputable def t_X_best (v1 : Int) (v2 : Int) : (Int × Int × Int × zM) → Option ((Int × Int × Int × zM) ⊕ (Int × zM)) := fun s => b_X_best_55 v1 v2 s.1 s.2.1 s.2.2.1 s.2.2.2
noncomputable def f_X_best (v1 : Int) (v2 : Int) (μ : zM) : Option (Int × zM) := zgo (t_X_best v1 v2) (e_X_best v1 v2 μ)
/-! RoofLent.both(III)I -/
noncomputable def b_X_both_67 (v1 : Int) (v2 : Int) (v3 : Int) (v4 v5 v6 v7 : Int) (μ : zM) : Option (((Int × Int × Int × Int × zM) ⊕ (Int × Int × Int × Int × Int × zM)) ⊕ (Int × zM)) :=
  if v7 < v4 then
    (f_R_push 13 v7 v1 v3 μ).bind fun q2 =>
    if q2.1 = 0 then
      some (.inl (.inl ((v4, v5, v6, z32 (v7 + 1), q2.2))))
    else
      some (.inl (.inr ((v4, v5, v6, v7, 0, q2.2))))
  else if v5 = (-9) then
    some (.inr (v5, μ))
  else
    some (.inr (v5, zst μ 0 9 v6))
noncomputable def b_X_both_94 (v1 : Int) (v2 : Int) (v3 : Int) (v4 v5 v6 v7 v8 : Int) (μ : zM) : Option (((Int × Int × Int × Int × zM) ⊕ (Int × Int × Int × Int × Int × zM)) ⊕ (Int × zM)) :=
  if v8 < v4 then
    (f_R_push 13 v8 v2 v3 μ).bind fun q4 =>
    if q4.1 = 0 then
      some (.inl (.inr ((v4, v5, v6, v7, z32 (v8 + 1), q4.2))))
    else
      (f_X_lampsWhereSteady 13 q4.2).bind fun q5 =>
      if q5.1 = (-9) then
        (f_R_pop 13 v8 q5.2).bind fun q6 =>
        some (.inl (.inr ((v4, v5, v6, v7, z32 (v8 + 1), q6))))
      else if v5 = (-9) then
        (f_R_pop 13 v8 q5.2).bind fun q7 =>
        some (.inl (.inr ((v4, z32 ((z32 (10 * v7)) + v8), q5.1, v7, z32 (v8 + 1), q7))))
      else if q5.1 < v6 then
        (f_R_pop 13 v8 q5.2).bind fun q9 =>
        some (.inl (.inr ((v4, z32 ((z32 (10 * v7)) + v8), q5.1, v7, z32 (v8 + 1), q9))))
      else
        (f_R_pop 13 v8 q5.2).bind fun q8 =>
        some (.inl (.inr ((v4, v5, v6, v7, z32 (v8 + 1), q8))))
  else
    (f_R_pop 13 v7 μ).bind fun q3 =>
    some (.inl (.inl ((v4, v5, v6, z32 (v7 + 1), q3))))
noncomputable def e_X_both (v1 : Int) (v2 : Int) (v3 : Int) (μ : zM) : Option (((Int × Int × Int × Int × zM) ⊕ (Int × Int × Int × Int × Int × zM)) ⊕ (Int × zM)) :=
  if f_X_isKind v1 = 0 then
    some (.inr ((-1), μ))
  else if f_X_isKind v2 = 0 then
    some (.inr ((-1), μ))
  else if f_X_isBorne v3 = 0 then
    some (.inr ((-1), μ))
  else if f_R_towerCount 8 μ = 0 then
    some (.inr ((-4), μ))
  else
    (f_R_takeFrom 13 8 μ).bind fun q1 =>
    some (.inl (.inl ((f_R_towerCount 8 μ, (-9), 0, 0, q1))))
noncomputable def t_X_both (v1 : Int) (v2 : Int) (v3 : Int) : ((Int × Int × Int × Int × zM) ⊕ (Int × Int × Int × Int × Int × zM)) → Option (((Int × Int × Int × Int × zM) ⊕ (Int × Int × Int × Int × Int × zM)) ⊕ (Int × zM)) := fun s => match s with
  | .inl (s) => b_X_both_67 v1 v2 v3 s.1 s.2.1 s.2.2.1 s.2.2.2.1 s.2.2.2.2
  | .inr (s) => b_X_both_94 v1 v2 v3 s.1 s.2.1 s.2.2.1 s.2.2.2.1 s.2.2.2.2.1 s.2.2.2.2.2
noncomputable def f_X_both (v1 : Int) (v2 : Int) (v3 : Int) (μ : zM) : Option (Int × zM) := zgo (t_X_both v1 v2 v3) (e_X_both v1 v2 v3 μ)
/-! RoofLent.fewest()I -/
noncomputable def j_X_fewest_81 (v1 v2 : Int) (μ : zM) : Option ((Int × Int × Int × Int × zM) ⊕ (Int × zM)) :=
  if 3 < v1 then
    some (.inr ((-9), μ))
  else
    some (.inr (v1, zst μ 0 9 v2))
noncomputable def b_X_fewest_20 (v1 v2 v3 v4 : Int) (μ : zM) : Option ((Int × Int × Int × Int × zM) ⊕ (Int × zM)) :=
  if v4 < v3 then
    if 0 < v1 then
      if f_J_bitCount v4 < v1 then
        (f_R_takeWithout 13 8 v4 μ).bind fun q1 =>
        (f_R_isSteady 13 q1).bind fun q2 =>
        if q2 = 0 then
          some (.inl ((v1, v2, v3, z32 (v4 + 1), q1)))
        else
          some (.inl ((f_J_bitCount v4, v4, v3, z32 (v4 + 1), q1)))
      else
        some (.inl ((v1, v2, v3, z32 (v4 + 1), μ)))
    else
      j_X_fewest_81 v1 v2 μ
  else
    j_X_fewest_81 v1 v2 μ
noncomputable def e_X_fewest (μ : zM) : Option ((Int × Int × Int × Int × zM) ⊕ (Int × zM)) :=
  some (.inl ((4, 0, zshl 1 (f_R_houseCount 8 μ), 0, μ)))
noncomputable def t_X_fewest : (Int × Int × Int × Int × zM) → Option ((Int × Int × Int × Int × zM) ⊕ (Int × zM)) := fun s => b_X_fewest_20 s.1 s.2.1 s.2.2.1 s.2.2.2.1 s.2.2.2.2
noncomputable def f_X_fewest (μ : zM) : Option (Int × zM) := zgo (t_X_fewest) (e_X_fewest μ)
/-! RoofLent.relief()I -/
noncomputable def b_X_relief_30 (v1 v2 v3 v4 : Int) (μ : zM) : Option ((Int × Int × Int × Int × zM) ⊕ (Int × zM)) :=
  if v4 < f_R_houseCount 8 μ then
    (f_L_reckon 8 μ).bind fun q3 =>
    (f_L_lightOf v4 q3).bind fun q4 =>
    (f_R_takeWithout 13 8 (zshl 1 v4) q3).bind fun q5 =>
    (f_L_reckon 13 q5).bind fun q6 =>
    (f_L_allLight  q6).bind fun q7 =>
    if v2 = (-9) then
      some (.inl ((v1, v4, z32 (q7 - (z32 (v1 - q4))), z32 (v4 + 1), q6)))
    else if v3 < z32 (q7 - (z32 (v1 - q4))) then
      some (.inl ((v1, v4, z32 (q7 - (z32 (v1 - q4))), z32 (v4 + 1), q6)))
    else
      some (.inl ((v1, v2, v3, z32 (v4 + 1), q6)))
  else if v2 = (-9) then
    some (.inr (v2, μ))
  else
    some (.inr (v2, zst μ 0 9 v3))
noncomputable def e_X_relief (μ : zM) : Option ((Int × Int × Int × Int × zM) ⊕ (Int × zM)) :=
  (f_L_reckon 8 μ).bind fun q1 =>
  (f_L_allLight  q1).bind fun q2 =>
  some (.inl ((q2, (-9), 0, 0, q1)))
noncomputable def t_X_relief : (Int × Int × Int × Int × zM) → Option ((Int × Int × Int × Int × zM) ⊕ (Int × zM)) := fun s => b_X_relief_30 s.1 s.2.1 s.2.2.1 s.2.2.2.1 s.2.2.2.2
noncomputable def f_X_relief (μ : zM) : Option (Int × zM) := zgo (t_X_relief) (e_X_relief μ)
/-! RoofLent.high(II)I -/
noncomputable def b_X_high_39 (v1 : Int) (v2 : Int) (v3 : Int) (μ : zM) : Option ((Int × zM) ⊕ (Int × zM)) :=
  if v3 < 6 then
    (f_R_push 13 v1 0 v2 μ).bind fun q2 =>
    if q2.1 = 0 then
      some (.inr (v3, q2.2))
    else
      (f_R_isSteady 13 q2.2).bind fun q3 =>
      if q3 = 0 then
        some (.inr (v3, q2.2))
      else
        some (.inl ((z32 (v3 + 1), q2.2)))
  else
    some (.inr (v3, μ))
noncomputable def e_X_high (v1 : Int) (v2 : Int) (μ : zM) : Option ((Int × zM) ⊕ (Int × zM)) :=
  if f_R_isTower 8 v1 μ = 0 then
    some (.inr ((-1), μ))
  else if f_X_isBorne v2 = 0 then
    some (.inr ((-1), μ))
  else
    (f_R_takeFrom 13 8 μ).bind fun q1 =>
    some (.inl ((0, q1)))
noncomputable def t_X_high (v1 : Int) (v2 : Int) : (Int × zM) → Option ((Int × zM) ⊕ (Int × zM)) := fun s => b_X_high_39 v1 v2 s.1 s.2
noncomputable def f_X_high (v1 : Int) (v2 : Int) (μ : zM) : Option (Int × zM) := zgo (t_X_high v1 v2) (e_X_high v1 v2 μ)
/-! RoofLent$Settling.clear()V -/
noncomputable def f_G_clear (μ : zM) : Option zM :=
  some (zst μ 23 0 0)
/-! RoofLent$Settling.add(I)V -/
noncomputable def f_G_add (v1 : Int) (μ : zM) : Option zM :=
  if v1 = 0 then
    some μ
  else if μ 23 0 < 12 then
    if 0 ≤ μ 23 0 ∧ μ 23 0 < 12 then
      some (zst (zst μ 24 (μ 23 0).toNat v1) 23 0 (z32 (((zst μ 24 (μ 23 0).toNat v1) 23 0) + 1)))
    else none
  else
    some μ
/-! RoofLent$Settling.mostGroups(I)I -/
noncomputable def j_G_mostGroups_49 (v1 : Int) (v2 v3 v4 v5 : Int) (μ : zM) : Option ((Int × Int × Int) ⊕ Int) :=
  if v5 < v1 then
    if 0 ≤ v4 ∧ v4 < 12 then
      some (.inl ((z32 (v2 + (μ 24 v4.toNat)), v3, z32 (v4 + 1))))
    else none
  else
    some (.inl ((v2, v3, z32 (v4 + 1))))
noncomputable def b_G_mostGroups_7 (v1 : Int) (v2 v3 v4 : Int) (μ : zM) : Option ((Int × Int × Int) ⊕ Int) :=
  if v4 < μ 23 0 then
    if 0 < zand v1 (zxor (zshl 1 v4) (-1)) then
      if zand v1 (zxor (zshl 1 v4) (-1)) < v1 then
        if 0 ≤ zand v1 (zxor (zshl 1 v4) (-1)) ∧ zand v1 (zxor (zshl 1 v4) (-1)) < 4096 then
          j_G_mostGroups_49 v1 v2 (max v3 (μ 25 (zand v1 (zxor (zshl 1 v4) (-1))).toNat)) v4 (zand v1 (zxor (zshl 1 v4) (-1))) μ
        else none
      else
        j_G_mostGroups_49 v1 v2 v3 v4 (zand v1 (zxor (zshl 1 v4) (-1))) μ
    else
      j_G_mostGroups_49 v1 v2 v3 v4 (zand v1 (zxor (zshl 1 v4) (-1))) μ
  else if v2 = 0 then
    some (.inr (z32 (v3 + 1)))
  else
    some (.inr v3)
noncomputable def e_G_mostGroups (v1 : Int) (μ : zM) : Option ((Int × Int × Int) ⊕ Int) :=
  some (.inl ((0, 0, 0)))
noncomputable def t_G_mostGroups (v1 : Int) (μ : zM) : (Int × Int × Int) → Option ((Int × Int × Int) ⊕ Int) := fun s => b_G_mostGroups_7 v1 s.1 s.2.1 s.2.2 μ
noncomputable def f_G_mostGroups (v1 : Int) (μ : zM) : Option Int := zgo (t_G_mostGroups v1 μ) (e_G_mostGroups v1 μ)
/-! RoofLent$Settling.fewestPayments()I -/
noncomputable def j_G_fewestPayments_42 (v1 : Int) (μ : zM) : Option ((Int × Int × zM) ⊕ (Int × zM)) :=
  if 0 < v1 then
    if v1 < 4096 then
      if 0 ≤ v1 ∧ v1 < 4096 then
        some (.inr (z32 ((μ 23 0) - (μ 25 v1.toNat)), μ))
      else none
    else
      some (.inr (0, μ))
  else
    some (.inr (0, μ))
noncomputable def b_G_fewestPayments_11 (v1 v2 : Int) (μ : zM) : Option ((Int × Int × zM) ⊕ (Int × zM)) :=
  if v1 < v2 then
    j_G_fewestPayments_42 v1 μ
  else if v2 < 4096 then
    (f_G_mostGroups v2 μ).bind fun q1 =>
    if 0 ≤ v2 ∧ v2 < 4096 then
      some (.inl ((v1, z32 (v2 + 1), zst μ 25 v2.toNat q1)))
    else none
  else
    j_G_fewestPayments_42 v1 μ
noncomputable def e_G_fewestPayments (μ : zM) : Option ((Int × Int × zM) ⊕ (Int × zM)) :=
  some (.inl ((z32 ((zshl 1 (μ 23 0)) - 1), 1, μ)))
noncomputable def t_G_fewestPayments : (Int × Int × zM) → Option ((Int × Int × zM) ⊕ (Int × zM)) := fun s => b_G_fewestPayments_11 s.1 s.2.1 s.2.2
noncomputable def f_G_fewestPayments (μ : zM) : Option (Int × zM) := zgo (t_G_fewestPayments) (e_G_fewestPayments μ)
/-! RoofLent.settle()I -/
noncomputable def b_X_settle_23 (v1 : Int) (μ : zM) : Option ((Int × zM) ⊕ (Int × zM)) :=
  if v1 < f_R_houseCount 8 μ then
    (f_L_debtOf v1 μ).bind fun q4 =>
    (f_G_add q4 μ).bind fun q5 =>
    some (.inl ((z32 (v1 + 1), q5)))
  else
    (f_G_fewestPayments  μ).bind fun q3 =>
    some (.inr (q3.1, q3.2))
noncomputable def e_X_settle (μ : zM) : Option ((Int × zM) ⊕ (Int × zM)) :=
  (f_L_reckon 8 μ).bind fun q1 =>
  (f_G_clear  q1).bind fun q2 =>
  some (.inl ((0, q2)))
noncomputable def t_X_settle : (Int × zM) → Option ((Int × zM) ⊕ (Int × zM)) := fun s => b_X_settle_23 s.1 s.2
noncomputable def f_X_settle (μ : zM) : Option (Int × zM) := zgo (t_X_settle) (e_X_settle μ)
/-! RoofLent$Ledger.mutualPairs()I -/
noncomputable def b_L_mutualPairs_4 (v1 v2 : Int) (μ : zM) : Option (((Int × Int) ⊕ (Int × Int × Int)) ⊕ Int) :=
  if v2 < μ 16 0 then
    some (.inl (.inr ((v1, v2, z32 (v2 + 1)))))
  else
    some (.inr v1)
noncomputable def b_L_mutualPairs_16 (v1 v2 v3 : Int) (μ : zM) : Option (((Int × Int) ⊕ (Int × Int × Int)) ⊕ Int) :=
  if v3 < μ 16 0 then
    (f_L_lampsFromTo v2 v3 μ).bind fun q1 =>
    if 0 < q1 then
      (f_L_lampsFromTo v3 v2 μ).bind fun q2 =>
      if 0 < q2 then
        some (.inl (.inr ((z32 (v1 + 1), v2, z32 (v3 + 1)))))
      else
        some (.inl (.inr ((v1, v2, z32 (v3 + 1)))))
    else
      some (.inl (.inr ((v1, v2, z32 (v3 + 1)))))
  else
    some (.inl (.inl ((v1, z32 (v2 + 1)))))
noncomputable def e_L_mutualPairs (μ : zM) : Option (((Int × Int) ⊕ (Int × Int × Int)) ⊕ Int) :=
  some (.inl (.inl ((0, 0))))
noncomputable def t_L_mutualPairs (μ : zM) : ((Int × Int) ⊕ (Int × Int × Int)) → Option (((Int × Int) ⊕ (Int × Int × Int)) ⊕ Int) := fun s => match s with
  | .inl (s) => b_L_mutualPairs_4 s.1 s.2 μ
  | .inr (s) => b_L_mutualPairs_16 s.1 s.2.1 s.2.2 μ
noncomputable def f_L_mutualPairs (μ : zM) : Option Int := zgo (t_L_mutualPairs μ) (e_L_mutualPairs μ)
/-! RoofLent$Ledger.owedBy(I)I -/
noncomputable def b_L_owedBy_4 (v1 : Int) (v2 v3 : Int) (μ : zM) : Option ((Int × Int) ⊕ Int) :=
  if v3 < μ 16 0 then
    (f_L_lampsFromTo v1 v3 μ).bind fun q1 =>
    if 0 < q1 then
      some (.inl ((zor v2 (zshl 1 v3), z32 (v3 + 1))))
    else
      some (.inl ((v2, z32 (v3 + 1))))
  else
    some (.inr v2)
noncomputable def e_L_owedBy (v1 : Int) (μ : zM) : Option ((Int × Int) ⊕ Int) :=
  some (.inl ((0, 0)))
noncomputable def t_L_owedBy (v1 : Int) (μ : zM) : (Int × Int) → Option ((Int × Int) ⊕ Int) := fun s => b_L_owedBy_4 v1 s.1 s.2 μ
noncomputable def f_L_owedBy (v1 : Int) (μ : zM) : Option Int := zgo (t_L_owedBy v1 μ) (e_L_owedBy v1 μ)
/-! RoofLent$Ledger.ringed()I -/
noncomputable def b_L_ringed_2 (v1 : Int) (μ : zM) : Option (((Int × zM) ⊕ (Int × zM) ⊕ (Int × Int × zM) ⊕ (Int × Int × zM)) ⊕ (Int × zM)) :=
  if v1 < μ 16 0 then
    (f_L_owedBy v1 μ).bind fun q1 =>
    if 0 ≤ v1 ∧ v1 < 12 then
      some (.inl (.inl ((z32 (v1 + 1), zst μ 22 v1.toNat q1))))
    else none
  else
    some (.inl (.inr (.inl ((0, μ)))))
noncomputable def b_L_ringed_29 (v1 : Int) (μ : zM) : Option (((Int × zM) ⊕ (Int × zM) ⊕ (Int × Int × zM) ⊕ (Int × Int × zM)) ⊕ (Int × zM)) :=
  if v1 < μ 16 0 then
    some (.inl (.inr (.inr (.inr ((v1, 0, μ))))))
  else
    some (.inl (.inr (.inr (.inl ((0, 0, μ))))))
noncomputable def b_L_ringed_91 (v1 v2 : Int) (μ : zM) : Option (((Int × zM) ⊕ (Int × zM) ⊕ (Int × Int × zM) ⊕ (Int × Int × zM)) ⊕ (Int × zM)) :=
  if v2 < μ 16 0 then
    if 0 ≤ v2 ∧ v2 < 12 then
      some (.inl (.inr (.inr (.inl ((zor v1 (zand (μ 22 v2.toNat) (zshl 1 v2)), z32 (v2 + 1), μ))))))
    else none
  else
    some (.inr (v1, μ))
noncomputable def b_L_ringed_39 (v1 v2 : Int) (μ : zM) : Option (((Int × zM) ⊕ (Int × zM) ⊕ (Int × Int × zM) ⊕ (Int × Int × zM)) ⊕ (Int × zM)) :=
  if v2 < μ 16 0 then
    if 0 ≤ v2 ∧ v2 < 12 then
      if zand (zshr (μ 22 v2.toNat) v1) 1 = 0 then
        some (.inl (.inr (.inr (.inr ((v1, z32 (v2 + 1), μ))))))
      else
        if 0 ≤ v2 ∧ v2 < 12 then
          if 0 ≤ v1 ∧ v1 < 12 then
            if 0 ≤ v2 ∧ v2 < 12 then
              some (.inl (.inr (.inr (.inr ((v1, z32 (v2 + 1), zst μ 22 v2.toNat (zor (μ 22 v2.toNat) (μ 22 v1.toNat))))))))
            else none
          else none
        else none
    else none
  else
    some (.inl (.inr (.inl ((z32 (v1 + 1), μ)))))
noncomputable def e_L_ringed (μ : zM) : Option (((Int × zM) ⊕ (Int × zM) ⊕ (Int × Int × zM) ⊕ (Int × Int × zM)) ⊕ (Int × zM)) :=
  some (.inl (.inl ((0, μ))))
noncomputable def t_L_ringed : ((Int × zM) ⊕ (Int × zM) ⊕ (Int × Int × zM) ⊕ (Int × Int × zM)) → Option (((Int × zM) ⊕ (Int × zM) ⊕ (Int × Int × zM) ⊕ (Int × Int × zM)) ⊕ (Int × zM)) := fun s => match s with
  | .inl (s) => b_L_ringed_2 s.1 s.2
  | .inr (.inl (s)) => b_L_ringed_29 s.1 s.2
  | .inr (.inr (.inl (s))) => b_L_ringed_91 s.1 s.2.1 s.2.2
  | .inr (.inr (.inr (s))) => b_L_ringed_39 s.1 s.2.1 s.2.2
noncomputable def f_L_ringed (μ : zM) : Option (Int × zM) := zgo (t_L_ringed) (e_L_ringed μ)
/-! RoofLent.rings()I -/
noncomputable def f_X_rings (μ : zM) : Option (Int × zM) :=
  (f_L_reckon 8 μ).bind fun q1 =>
  (f_L_mutualPairs  q1).bind fun q2 =>
  (f_L_ringed  (zst q1 0 9 q2)).bind fun q3 =>
  some (q3.1, q3.2)
/-! RoofLent.winningTower(LRoofLent$Rock;II)I -/
noncomputable def j_X_winningTower_52 (rec : Nat → Int → Int → zM → Option (Int × zM)) (o0 : Nat) (v1 : Int) (v2 : Int) (v3 w0 : Int) (μ : zM) : Option ((Int × zM) ⊕ (Int × zM)) :=
  (f_R_pop o0 v3 μ).bind fun q4 =>
  if w0 = 0 then
    some (.inl ((z32 (v3 + 1), q4)))
  else
    some (.inr (v3, q4))
noncomputable def j_X_winningTower_51 (rec : Nat → Int → Int → zM → Option (Int × zM)) (o0 : Nat) (v1 : Int) (v2 : Int) (v3 : Int) (μ : zM) : Option ((Int × zM) ⊕ (Int × zM)) :=
  j_X_winningTower_52 rec o0 v1 v2 v3 0 μ
noncomputable def b_X_winningTower_9 (rec : Nat → Int → Int → zM → Option (Int × zM)) (o0 : Nat) (v1 : Int) (v2 : Int) (v3 : Int) (μ : zM) : Option ((Int × zM) ⊕ (Int × zM)) :=
  if v3 < f_R_towerCount o0 μ then
    (f_R_push o0 v3 0 v1 μ).bind fun q1 =>
    if q1.1 = 0 then
      some (.inl ((z32 (v3 + 1), q1.2)))
    else
      (f_R_isSteady o0 q1.2).bind fun q2 =>
      if q2 = 0 then
        j_X_winningTower_51 rec o0 v1 v2 v3 q1.2
      else
        (rec o0 v1 (z32 (v2 - 1)) q1.2).bind fun q3 =>
        if q3.1 = (-9) then
          j_X_winningTower_52 rec o0 v1 v2 v3 1 q3.2
        else
          j_X_winningTower_51 rec o0 v1 v2 v3 q3.2
  else
    some (.inr ((-9), μ))
noncomputable def e_X_winningTower (rec : Nat → Int → Int → zM → Option (Int × zM)) (o0 : Nat) (v1 : Int) (v2 : Int) (μ : zM) : Option ((Int × zM) ⊕ (Int × zM)) :=
  if 0 < v2 then
    some (.inl ((0, μ)))
  else
    some (.inr ((-9), μ))
noncomputable def t_X_winningTower (rec : Nat → Int → Int → zM → Option (Int × zM)) (o0 : Nat) (v1 : Int) (v2 : Int) : (Int × zM) → Option ((Int × zM) ⊕ (Int × zM)) := fun s => b_X_winningTower_9 rec o0 v1 v2 s.1 s.2
noncomputable def f_X_winningTower : Nat → Nat → Int → Int → zM → Option (Int × zM)
  | 0 => fun _ _ _ _ => none
  | n + 1 => fun o0 v1 v2 μ => zgo (t_X_winningTower (f_X_winningTower n) o0 v1 v2) (e_X_winningTower (f_X_winningTower n) o0 v1 v2 μ)
/-! RoofLent.game(II)I -/
noncomputable def f_X_game (v1 : Int) (v2 : Int) (μ : zM) : Option (Int × zM) :=
  if f_X_isBorne v1 = 0 then
    some ((-1), μ)
  else if v2 < 0 then
    some ((-1), μ)
  else if 4 < v2 then
    some ((-1), μ)
  else if f_R_towerCount 8 μ = 0 then
    some ((-4), μ)
  else
    (f_R_takeFrom 13 8 μ).bind fun q1 =>
    (f_X_winningTower 6 13 v1 v2 q1).bind fun q2 =>
    if q2.1 = (-9) then
      some (0, q2.2)
    else
      some (1, q2.2)
/-! RoofLent.begin(II)I -/
noncomputable def f_X_begin (v1 : Int) (v2 : Int) (μ : zM) : Option (Int × zM) :=
  if f_X_isBorne v1 = 0 then
    some ((-1), μ)
  else if v2 < 0 then
    some ((-1), μ)
  else if 4 < v2 then
    some ((-1), μ)
  else if f_R_towerCount 8 μ = 0 then
    some ((-4), μ)
  else
    (f_R_takeFrom 13 8 μ).bind fun q1 =>
    (f_X_winningTower 6 13 v1 v2 q1).bind fun q2 =>
    some (q2.1, q2.2)
/-! RoofLent.isLightAsIn(II)Z -/
noncomputable def b_X_isLightAsIn_2 (v1 : Int) (v2 : Int) (v3 : Int) (μ : zM) : Option (Int ⊕ Int) :=
  (f_S_sizeOf 1 v1 μ).bind fun q1 =>
  if v3 < q1 then
    (f_S_get 1 v1 v3 μ).bind fun q2 =>
    (f_L_lightIn v3 v2 μ).bind fun q3 =>
    if q2 = q3 then
      some (.inl ((z32 (v3 + 1))))
    else
      some (.inr 0)
  else
    some (.inr 1)
noncomputable def e_X_isLightAsIn (v1 : Int) (v2 : Int) (μ : zM) : Option (Int ⊕ Int) :=
  some (.inl (0))
noncomputable def t_X_isLightAsIn (v1 : Int) (v2 : Int) (μ : zM) : Int → Option (Int ⊕ Int) := fun s => b_X_isLightAsIn_2 v1 v2 s μ
noncomputable def f_X_isLightAsIn (v1 : Int) (v2 : Int) (μ : zM) : Option Int := zgo (t_X_isLightAsIn v1 v2 μ) (e_X_isLightAsIn v1 v2 μ)
/-! RoofLent.fog(I)I -/
noncomputable def b_X_fog_79 (v1 : Int) (v2 v3 v4 : Int) (μ : zM) : Option ((Int × Int × Int × zM) ⊕ (Int × zM)) :=
  if 31 < v4 then
    some (.inr (v2, zst μ 0 9 v3))
  else
    (f_X_isLightAsIn v1 v4 μ).bind fun q6 =>
    if q6 = 0 then
      some (.inl ((v2, v3, z32 (v4 + 1), μ)))
    else if v2 = 0 then
      some (.inl ((z32 (v2 + 1), v4, z32 (v4 + 1), μ)))
    else
      some (.inl ((z32 (v2 + 1), v3, z32 (v4 + 1), μ)))
noncomputable def e_X_fog (v1 : Int) (μ : zM) : Option ((Int × Int × Int × zM) ⊕ (Int × zM)) :=
  if f_S_knows 1 v1 = 0 then
    some (.inr ((-1), μ))
  else
    (f_S_isThere 1 v1 μ).bind fun q1 =>
    if q1 = 0 then
      (f_X_found 1 μ).bind fun q5 =>
      some (.inr (q5.1, q5.2))
    else
      (f_S_sizeOf 1 v1 μ).bind fun q2 =>
      if q2 = f_R_houseCount 8 μ then
        (f_L_reckon 8 μ).bind fun q3 =>
        some (.inl ((0, (-9), 0, q3)))
      else
        (f_X_found 5 μ).bind fun q4 =>
        some (.inr (q4.1, q4.2))
noncomputable def t_X_fog (v1 : Int) : (Int × Int × Int × zM) → Option ((Int × Int × Int × zM) ⊕ (Int × zM)) := fun s => b_X_fog_79 v1 s.1 s.2.1 s.2.2.1 s.2.2.2
noncomputable def f_X_fog (v1 : Int) (μ : zM) : Option (Int × zM) := zgo (t_X_fog v1) (e_X_fog v1 μ)
/-! RoofLent.kinds(III)I -/
noncomputable def b_X_kinds_107 (v1 : Int) (v2 : Int) (v3 : Int) (v4 v5 : Int) (μ : zM) : Option ((Int × Int × zM) ⊕ (Int × zM)) :=
  if v5 < 6 then
    (f_R_borneAt 13 v1 v2 μ).bind fun q8 =>
    (f_R_change 13 v1 v2 v5 q8 μ).bind fun q9 =>
    (f_L_reckon 13 q9).bind fun q10 =>
    (f_X_isLightAsIn v3 0 q10).bind fun q11 =>
    if q11 = 0 then
      some (.inl ((v4, z32 (v5 + 1), q10)))
    else
      some (.inl ((zor v4 (zshl 1 v5), z32 (v5 + 1), q10)))
  else
    some (.inr (v4, μ))
noncomputable def e_X_kinds (v1 : Int) (v2 : Int) (v3 : Int) (μ : zM) : Option ((Int × Int × zM) ⊕ (Int × zM)) :=
  if f_X_isNoPlace v1 v2 μ = 0 then
    if f_S_knows 1 v3 = 0 then
      some (.inr ((-1), μ))
    else
      (f_R_has 8 v1 v2 μ).bind fun q1 =>
      if q1 = 0 then
        (f_X_found 2 μ).bind fun q7 =>
        some (.inr (q7.1, q7.2))
      else
        (f_S_isThere 1 v3 μ).bind fun q2 =>
        if q2 = 0 then
          (f_X_found 1 μ).bind fun q6 =>
          some (.inr (q6.1, q6.2))
        else
          (f_S_sizeOf 1 v3 μ).bind fun q3 =>
          if q3 = f_R_houseCount 8 μ then
            (f_R_takeFrom 13 8 μ).bind fun q4 =>
            some (.inl ((0, 0, q4)))
          else
            (f_X_found 5 μ).bind fun q5 =>
            some (.inr (q5.1, q5.2))
  else
    some (.inr ((-1), μ))
noncomputable def t_X_kinds (v1 : Int) (v2 : Int) (v3 : Int) : (Int × Int × zM) → Option ((Int × Int × zM) ⊕ (Int × zM)) := fun s => b_X_kinds_107 v1 v2 v3 s.1 s.2.1 s.2.2
noncomputable def f_X_kinds (v1 : Int) (v2 : Int) (v3 : Int) (μ : zM) : Option (Int × zM) := zgo (t_X_kinds v1 v2 v3) (e_X_kinds v1 v2 v3 μ)
/-! RoofLent.odds(II)I -/
noncomputable def j_X_odds_79 (v1 : Int) (v2 : Int) (v4 w1 : Int) (μ : zM) : Option (Int × zM) :=
  if v4 = 0 then
    some (1, zst (zst μ 0 10 w1) 0 11 5)
  else
    some (1, zst (zst μ 0 10 w1) 0 11 1)
noncomputable def j_X_odds_62 (v1 : Int) (v2 : Int) (v3 w0 : Int) (μ : zM) : Option (Int × zM) :=
  if w0 = 0 then
    j_X_odds_79 v1 v2 w0 v3 μ
  else
    j_X_odds_79 v1 v2 w0 (zdiv v3 5) μ
noncomputable def j_X_odds_57 (v1 : Int) (v2 : Int) (v3 : Int) (μ : zM) : Option (Int × zM) :=
  j_X_odds_62 v1 v2 v3 1 μ
noncomputable def f_X_odds (v1 : Int) (v2 : Int) (μ : zM) : Option (Int × zM) :=
  if f_X_isNoPlace v1 v2 μ = 0 then
    (f_R_has 8 v1 v2 μ).bind fun q1 =>
    if q1 = 0 then
      (f_X_found 2 μ).bind fun q3 =>
      some (q3.1, q3.2)
    else
      (f_R_hoursSeen 8 v1 v2 μ).bind fun q2 =>
      if f_J_bitCount q2 = 0 then
        j_X_odds_57 v1 v2 (f_J_bitCount q2) μ
      else if f_J_bitCount q2 = 5 then
        j_X_odds_57 v1 v2 (f_J_bitCount q2) μ
      else
        j_X_odds_62 v1 v2 (f_J_bitCount q2) 0 μ
  else
    some ((-1), μ)
/-! RoofLent.lots(II)I -/
noncomputable def b_X_lots_67 (v1 : Int) (v2 : Int) (v3 v4 v5 v7 : Int) (μ : zM) : Option ((Int × Int × Int × Int × zM) ⊕ (Int × zM)) :=
  if v7 < v1 then
    if ¬ v3 = 0 then
      (f_X_build (z32 (zlrem (zlrem (z64 (v5 * 48271)) 2147483647) v3)) (z32 (zlrem (zldiv (zlrem (z64 (v5 * 48271)) 2147483647) 8) 6)) (z32 (zlrem (zldiv (zlrem (z64 (v5 * 48271)) 2147483647) 64) 10)) μ).bind fun q1 =>
      if q1.1 < 0 then
        some (.inl ((v3, v4, zlrem (z64 (v5 * 48271)) 2147483647, z32 (v7 + 1), q1.2)))
      else
        some (.inl ((v3, z32 (v4 + 1), zlrem (z64 (v5 * 48271)) 2147483647, z32 (v7 + 1), q1.2)))
    else none
  else
    some (.inr (v4, μ))
noncomputable def e_X_lots (v1 : Int) (v2 : Int) (μ : zM) : Option ((Int × Int × Int × Int × zM) ⊕ (Int × zM)) :=
  if v1 < 1 then
    some (.inr ((-1), μ))
  else if 12 < v1 then
    some (.inr ((-1), μ))
  else if v2 < 1 then
    some (.inr ((-1), μ))
  else if v2 < 2147483647 then
    if f_R_towerCount 8 μ = 0 then
      some (.inr ((-4), μ))
    else if f_Y_hasRoomFor 7 v1 μ = 0 then
      some (.inr ((-2), μ))
    else
      some (.inl ((f_R_towerCount 8 μ, 0, v2, 0, μ)))
  else
    some (.inr ((-1), μ))
noncomputable def t_X_lots (v1 : Int) (v2 : Int) : (Int × Int × Int × Int × zM) → Option ((Int × Int × Int × Int × zM) ⊕ (Int × zM)) := fun s => b_X_lots_67 v1 v2 s.1 s.2.1 s.2.2.1 s.2.2.2.1 s.2.2.2.2
noncomputable def f_X_lots (v1 : Int) (v2 : Int) (μ : zM) : Option (Int × zM) := zgo (t_X_lots v1 v2) (e_X_lots v1 v2 μ)
/-! RoofLent.asked()I (total) -/
def f_X_asked (μ : zM) : Int :=
  μ 0 9
def fo_X_asked (μ : zM) : Option Int :=
  some (μ 0 9)
theorem fo_X_asked_eq (μ : zM) : fo_X_asked μ = some (f_X_asked μ) := by
  unfold fo_X_asked f_X_asked
  simp only [zsome_ite]
/-! RoofLent.upper()J (total) -/
def f_X_upper (μ : zM) : Int :=
  μ 0 10
def fo_X_upper (μ : zM) : Option Int :=
  some (μ 0 10)
theorem fo_X_upper_eq (μ : zM) : fo_X_upper μ = some (f_X_upper μ) := by
  unfold fo_X_upper f_X_upper
  simp only [zsome_ite]
/-! RoofLent.lower()J (total) -/
def f_X_lower (μ : zM) : Int :=
  μ 0 11
def fo_X_lower (μ : zM) : Option Int :=
  some (μ 0 11)
theorem fo_X_lower_eq (μ : zM) : fo_X_lower μ = some (f_X_lower μ) := by
  unfold fo_X_lower f_X_lower
  simp only [zsome_ite]
/-! RoofLent$Rock.mostStoreys()I -/
noncomputable def b_R_mostStoreys_4 (o : Nat) (v1 v2 : Int) (μ : zM) : Option ((Int × Int) ⊕ Int) :=
  if v2 < μ o 0 then
    (f_R_heightOf o v2 μ).bind fun q1 =>
    some (.inl ((max v1 q1, z32 (v2 + 1))))
  else
    some (.inr v1)
noncomputable def e_R_mostStoreys (o : Nat) (μ : zM) : Option ((Int × Int) ⊕ Int) :=
  some (.inl ((0, 0)))
noncomputable def t_R_mostStoreys (o : Nat) (μ : zM) : (Int × Int) → Option ((Int × Int) ⊕ Int) := fun s => b_R_mostStoreys_4 o s.1 s.2 μ
noncomputable def f_R_mostStoreys (o : Nat) (μ : zM) : Option Int := zgo (t_R_mostStoreys o μ) (e_R_mostStoreys o μ)
/-! RoofLent$Rock.countOf(I)I -/
noncomputable def b_R_countOf_4 (o : Nat) (v1 : Int) (v2 v3 : Int) (μ : zM) : Option (((Int × Int) ⊕ (Int × Int × Int)) ⊕ Int) :=
  if v3 < μ o 0 then
    some (.inl (.inr ((v2, v3, 0))))
  else
    some (.inr v2)
noncomputable def b_R_countOf_15 (o : Nat) (v1 : Int) (v2 v3 v4 : Int) (μ : zM) : Option (((Int × Int) ⊕ (Int × Int × Int)) ⊕ Int) :=
  (f_R_heightOf o v3 μ).bind fun q1 =>
  if v4 < q1 then
    (f_R_kindAt o v3 v4 μ).bind fun q2 =>
    (f_X_isOf q2 v1).bind fun q3 =>
    if q3 = 0 then
      some (.inl (.inr ((v2, v3, z32 (v4 + 1)))))
    else
      some (.inl (.inr ((z32 (v2 + 1), v3, z32 (v4 + 1)))))
  else
    some (.inl (.inl ((v2, z32 (v3 + 1)))))
noncomputable def e_R_countOf (o : Nat) (v1 : Int) (μ : zM) : Option (((Int × Int) ⊕ (Int × Int × Int)) ⊕ Int) :=
  some (.inl (.inl ((0, 0))))
noncomputable def t_R_countOf (o : Nat) (v1 : Int) (μ : zM) : ((Int × Int) ⊕ (Int × Int × Int)) → Option (((Int × Int) ⊕ (Int × Int × Int)) ⊕ Int) := fun s => match s with
  | .inl (s) => b_R_countOf_4 o v1 s.1 s.2 μ
  | .inr (s) => b_R_countOf_15 o v1 s.1 s.2.1 s.2.2 μ
noncomputable def f_R_countOf (o : Nat) (v1 : Int) (μ : zM) : Option Int := zgo (t_R_countOf o v1 μ) (e_R_countOf o v1 μ)
/-! RoofLent$Shelf.thereCount()I -/
noncomputable def b_S_thereCount_4 (o : Nat) (v1 v2 : Int) (μ : zM) : Option ((Int × Int) ⊕ Int) :=
  if v2 < zsz (o + 1) then
    (f_S_isThere o v2 μ).bind fun q1 =>
    if q1 = 0 then
      some (.inl ((v1, z32 (v2 + 1))))
    else
      some (.inl ((z32 (v1 + 1), z32 (v2 + 1))))
  else
    some (.inr v1)
noncomputable def e_S_thereCount (o : Nat) (μ : zM) : Option ((Int × Int) ⊕ Int) :=
  some (.inl ((0, 0)))
noncomputable def t_S_thereCount (o : Nat) (μ : zM) : (Int × Int) → Option ((Int × Int) ⊕ Int) := fun s => b_S_thereCount_4 o s.1 s.2 μ
noncomputable def f_S_thereCount (o : Nat) (μ : zM) : Option Int := zgo (t_S_thereCount o μ) (e_S_thereCount o μ)
/-! RoofLent.deedsKeptIn(I)I -/
noncomputable def f_X_deedsKeptIn (v1 : Int) (μ : zM) : Option Int :=
  (f_X_keptAt v1).bind fun q1 =>
  match q1 with
  | none =>
    some (-1)
  | some o_2 =>
    some (μ o_2 2)
/-! RoofLent.keptCount()I -/
noncomputable def b_X_keptCount_4 (v1 v2 : Int) (μ : zM) : Option ((Int × Int) ⊕ Int) :=
  if v2 < 3 then
    (f_X_deedsKeptIn v2 μ).bind fun q1 =>
    if q1 = (-1) then
      some (.inl ((v1, z32 (v2 + 1))))
    else
      some (.inl ((z32 (v1 + 1), z32 (v2 + 1))))
  else
    some (.inr v1)
noncomputable def e_X_keptCount (μ : zM) : Option ((Int × Int) ⊕ Int) :=
  some (.inl ((0, 0)))
noncomputable def t_X_keptCount (μ : zM) : (Int × Int) → Option ((Int × Int) ⊕ Int) := fun s => b_X_keptCount_4 s.1 s.2 μ
noncomputable def f_X_keptCount (μ : zM) : Option Int := zgo (t_X_keptCount μ) (e_X_keptCount μ)
/-! RoofLent.count(I)I -/
noncomputable def f_X_count (v1 : Int) (μ : zM) : Option Int :=
  if v1 < 0 then
    some (-1)
  else if 8 < v1 then
    some (-1)
  else if v1 = 0 then
    some (f_R_towerCount 8 μ)
  else if v1 = 1 then
    some (f_R_houseCount 8 μ)
  else if v1 = 2 then
    some (μ 7 2)
  else if v1 = 3 then
    (f_R_mostStoreys 8 μ).bind fun q5 =>
    some q5
  else if v1 = 4 then
    (f_R_countOf 8 1 μ).bind fun q7 =>
    some q7
  else if v1 = 5 then
    (f_R_countOf 8 2 μ).bind fun q9 =>
    some q9
  else if v1 = 6 then
    (f_S_thereCount 1 μ).bind fun q11 =>
    some q11
  else if v1 = 7 then
    (f_S_thereCount 4 μ).bind fun q13 =>
    some q13
  else
    (f_X_keptCount  μ).bind fun q14 =>
    some q14
/-! RoofLent.finding()I (total) -/
def f_X_finding (μ : zM) : Int :=
  μ 0 8
def fo_X_finding (μ : zM) : Option Int :=
  some (μ 0 8)
theorem fo_X_finding_eq (μ : zM) : fo_X_finding μ = some (f_X_finding μ) := by
  unfold fo_X_finding f_X_finding
  simp only [zsome_ite]
/-! RoofLent.findings(I)I -/
noncomputable def f_X_findings (v1 : Int) (μ : zM) : Option Int :=
  if v1 < 1 then
    some (-1)
  else if 5 < v1 then
    some (-1)
  else
    if 0 ≤ v1 ∧ v1 < 6 then
      some (μ 26 v1.toNat)
    else none
/-! RoofLent.digestHouses(J)J -/
noncomputable def b_X_digestHouses_19 (v1 : Int) (v3 v5 : Int) (μ : zM) : Option (((Int × Int × zM) ⊕ (Int × Int × Int × zM) ⊕ (Int × Int × Int × Int × zM)) ⊕ (Int × zM)) :=
  if v5 < f_R_towerCount 8 μ then
    (f_R_heightOf 8 v5 μ).bind fun q2 =>
    some (.inl (.inr (.inl ((z64 ((z64 (31 * v3)) + q2), v5, 0, μ)))))
  else
    some (.inr (v3, μ))
noncomputable def b_X_digestHouses_57 (v1 : Int) (v3 v5 v6 : Int) (μ : zM) : Option (((Int × Int × zM) ⊕ (Int × Int × Int × zM) ⊕ (Int × Int × Int × Int × zM)) ⊕ (Int × zM)) :=
  (f_R_heightOf 8 v5 μ).bind fun q3 =>
  if v6 < q3 then
    some (.inl (.inr (.inr ((v3, v5, v6, 0, μ)))))
  else
    some (.inl (.inl ((v3, z32 (v5 + 1), μ))))
noncomputable def b_X_digestHouses_77 (v1 : Int) (v3 v5 v6 v7 : Int) (μ : zM) : Option (((Int × Int × zM) ⊕ (Int × Int × Int × zM) ⊕ (Int × Int × Int × Int × zM)) ⊕ (Int × zM)) :=
  if 6 < v7 then
    some (.inl (.inr (.inl ((v3, v5, z32 (v6 + 1), μ)))))
  else
    (f_X_toldOf v5 v6 v7 μ).bind fun q4 =>
    some (.inl (.inr (.inr ((z64 ((z64 (31 * v3)) + q4), v5, v6, z32 (v7 + 1), μ)))))
noncomputable def e_X_digestHouses (v1 : Int) (μ : zM) : Option (((Int × Int × zM) ⊕ (Int × Int × Int × zM) ⊕ (Int × Int × Int × Int × zM)) ⊕ (Int × zM)) :=
  (f_L_reckon 8 μ).bind fun q1 =>
  some (.inl (.inl ((v1, 0, q1))))
noncomputable def t_X_digestHouses (v1 : Int) : ((Int × Int × zM) ⊕ (Int × Int × Int × zM) ⊕ (Int × Int × Int × Int × zM)) → Option (((Int × Int × zM) ⊕ (Int × Int × Int × zM) ⊕ (Int × Int × Int × Int × zM)) ⊕ (Int × zM)) := fun s => match s with
  | .inl (s) => b_X_digestHouses_19 v1 s.1 s.2.1 s.2.2
  | .inr (.inl (s)) => b_X_digestHouses_57 v1 s.1 s.2.1 s.2.2.1 s.2.2.2
  | .inr (.inr (s)) => b_X_digestHouses_77 v1 s.1 s.2.1 s.2.2.1 s.2.2.2.1 s.2.2.2.2
noncomputable def f_X_digestHouses (v1 : Int) (μ : zM) : Option (Int × zM) := zgo (t_X_digestHouses v1) (e_X_digestHouses v1 μ)
/-! RoofLent$Shelf.digestAll(J)J -/
noncomputable def b_S_digestAll_5 (o : Nat) (v1 : Int) (v3 v5 : Int) (μ : zM) : Option (((Int × Int) ⊕ (Int × Int × Int)) ⊕ Int) :=
  if v5 < zsz (o + 1) then
    (f_S_sizeOf o v5 μ).bind fun q1 =>
    some (.inl (.inr ((z64 ((z64 (31 * v3)) + q1), v5, 0))))
  else
    some (.inr v3)
noncomputable def b_S_digestAll_32 (o : Nat) (v1 : Int) (v3 v5 v6 : Int) (μ : zM) : Option (((Int × Int) ⊕ (Int × Int × Int)) ⊕ Int) :=
  (f_S_sizeOf o v5 μ).bind fun q2 =>
  if v6 < q2 then
    (f_S_get o v5 v6 μ).bind fun q3 =>
    some (.inl (.inr ((z64 ((z64 (31 * v3)) + q3), v5, z32 (v6 + 1)))))
  else
    some (.inl (.inl ((v3, z32 (v5 + 1)))))
noncomputable def e_S_digestAll (o : Nat) (v1 : Int) (μ : zM) : Option (((Int × Int) ⊕ (Int × Int × Int)) ⊕ Int) :=
  some (.inl (.inl ((v1, 0))))
noncomputable def t_S_digestAll (o : Nat) (v1 : Int) (μ : zM) : ((Int × Int) ⊕ (Int × Int × Int)) → Option (((Int × Int) ⊕ (Int × Int × Int)) ⊕ Int) := fun s => match s with
  | .inl (s) => b_S_digestAll_5 o v1 s.1 s.2 μ
  | .inr (s) => b_S_digestAll_32 o v1 s.1 s.2.1 s.2.2 μ
noncomputable def f_S_digestAll (o : Nat) (v1 : Int) (μ : zM) : Option Int := zgo (t_S_digestAll o v1 μ) (e_S_digestAll o v1 μ)
/-! RoofLent.digest()J -/
noncomputable def b_X_digest_6 (v1 v3 : Int) (μ : zM) : Option (((Int × Int × zM) ⊕ (Int × Int × zM)) ⊕ (Int × zM)) :=
  if 8 < v3 then
    (f_X_digestHouses v1 μ).bind fun q1 =>
    some (.inl (.inr ((q1.1, 0, q1.2))))
  else
    (f_X_count v3 μ).bind fun q2 =>
    some (.inl (.inl ((z64 ((z64 (31 * v1)) + q2), z32 (v3 + 1), μ))))
noncomputable def b_X_digest_39 (v1 v3 : Int) (μ : zM) : Option (((Int × Int × zM) ⊕ (Int × Int × zM)) ⊕ (Int × zM)) :=
  if v3 < 3 then
    (f_X_deedsKeptIn v3 μ).bind fun q5 =>
    some (.inl (.inr ((z64 ((z64 (31 * v1)) + q5), z32 (v3 + 1), μ))))
  else
    (f_S_digestAll 1 v1 μ).bind fun q3 =>
    (f_S_digestAll 4 q3 μ).bind fun q4 =>
    some (.inr (q4, μ))
noncomputable def e_X_digest (μ : zM) : Option (((Int × Int × zM) ⊕ (Int × Int × zM)) ⊕ (Int × zM)) :=
  some (.inl (.inl ((17, 0, μ))))
noncomputable def t_X_digest : ((Int × Int × zM) ⊕ (Int × Int × zM)) → Option (((Int × Int × zM) ⊕ (Int × Int × zM)) ⊕ (Int × zM)) := fun s => match s with
  | .inl (s) => b_X_digest_6 s.1 s.2.1 s.2.2
  | .inr (s) => b_X_digest_39 s.1 s.2.1 s.2.2
noncomputable def f_X_digest (μ : zM) : Option (Int × zM) := zgo (t_X_digest) (e_X_digest μ)
/-! RoofLentModel.in(JJJ)Z (total) -/
def f_M_in (v0 : Int) (v2 : Int) (v4 : Int) : Int :=
  if zlcmp v0 v2 < 0 then
    0
  else if 0 < zlcmp v0 v4 then
    0
  else
    1
def fo_M_in (v0 : Int) (v2 : Int) (v4 : Int) : Option Int :=
  if zlcmp v0 v2 < 0 then
    some 0
  else if 0 < zlcmp v0 v4 then
    some 0
  else
    some 1
theorem fo_M_in_eq (v0 : Int) (v2 : Int) (v4 : Int) : fo_M_in v0 v2 v4 = some (f_M_in v0 v2 v4) := by
  unfold fo_M_in f_M_in
  simp only [zsome_ite]
theorem b_M_in (v0 : Int) (v2 : Int) (v4 : Int) : f_M_in v0 v2 v4 = 0 ∨ f_M_in v0 v2 v4 = 1 := by
  unfold f_M_in
  repeat' split
  all_goals first | exact Or.inl rfl | exact Or.inr rfl
/-! RoofLentModel.has(II)Z (total) -/
def f_M_has (v0 : Int) (v1 : Int) : Int :=
  if zand (zshr v0 v1) 1 = 1 then
    1
  else
    0
def fo_M_has (v0 : Int) (v1 : Int) : Option Int :=
  if zand (zshr v0 v1) 1 = 1 then
    some 1
  else
    some 0
theorem fo_M_has_eq (v0 : Int) (v1 : Int) : fo_M_has v0 v1 = some (f_M_has v0 v1) := by
  unfold fo_M_has f_M_has
  simp only [zsome_ite]
theorem b_M_has (v0 : Int) (v1 : Int) : f_M_has v0 v1 = 0 ∨ f_M_has v0 v1 = 1 := by
  unfold f_M_has
  repeat' split
  all_goals first | exact Or.inl rfl | exact Or.inr rfl
/-! RoofLentModel.ones(I)I -/
noncomputable def b_M_ones_4 (v0 : Int) (v1 v2 : Int) : Option ((Int × Int) ⊕ Int) :=
  if 0 < v2 then
    some (.inl ((z32 (v1 + (zand v2 1)), zshr v2 1)))
  else
    some (.inr v1)
noncomputable def e_M_ones (v0 : Int) : Option ((Int × Int) ⊕ Int) :=
  some (.inl ((0, v0)))
noncomputable def t_M_ones (v0 : Int) : (Int × Int) → Option ((Int × Int) ⊕ Int) := fun s => b_M_ones_4 v0 s.1 s.2 
noncomputable def f_M_ones (v0 : Int) : Option Int := zgo (t_M_ones v0) (e_M_ones v0)
/-! RoofLentModel.found(I)I -/
noncomputable def f_M_found (v1 : Int) (μ : zM) : Option (Int × zM) :=
  if 0 ≤ v1 ∧ v1 < 6 then
    if 0 ≤ v1 ∧ v1 < 6 then
      some ((-3), zst (zst μ 42 8 v1) 50 v1.toNat (z32 (((zst μ 42 8 v1) 50 v1.toNat) + 1)))
    else none
  else none
/-! RoofLentModel.tells(II)I -/
noncomputable def f_M_tells (v1 : Int) (v2 : Int) (μ : zM) : Option (Int × zM) :=
  some (v2, zst μ 42 10 v1)
/-! RoofLentModel.copyAll(III)V -/
noncomputable def b_M_copyAll_3 (v1 : Int) (v2 : Int) (v3 : Int) (v4 : Int) (μ : zM) : Option ((Int × zM) ⊕ zM) :=
  if v4 < v3 then
    if 0 ≤ z32 (v1 + v4) ∧ z32 (v1 + v4) < 10956 then
      if 0 ≤ z32 (v2 + v4) ∧ z32 (v2 + v4) < 10956 then
        some (.inl ((z32 (v4 + 1), zst μ 43 (z32 (v2 + v4)).toNat (μ 43 (z32 (v1 + v4)).toNat))))
      else none
    else none
  else
    some (.inr μ)
noncomputable def e_M_copyAll (v1 : Int) (v2 : Int) (v3 : Int) (μ : zM) : Option ((Int × zM) ⊕ zM) :=
  some (.inl ((0, μ)))
noncomputable def t_M_copyAll (v1 : Int) (v2 : Int) (v3 : Int) : (Int × zM) → Option ((Int × zM) ⊕ zM) := fun s => b_M_copyAll_3 v1 v2 v3 s.1 s.2
noncomputable def f_M_copyAll (v1 : Int) (v2 : Int) (v3 : Int) (μ : zM) : Option zM := zgo (t_M_copyAll v1 v2 v3) (e_M_copyAll v1 v2 v3 μ)
/-! RoofLentModel.isRow(I)Z (total) -/
def f_M_isRow (v0 : Int) : Int :=
  f_M_in v0 0 5
def fo_M_isRow (v0 : Int) : Option Int :=
  some (f_M_in v0 0 5)
theorem fo_M_isRow_eq (v0 : Int) : fo_M_isRow v0 = some (f_M_isRow v0) := by
  unfold fo_M_isRow f_M_isRow
  simp only [zsome_ite]
theorem b_M_isRow (v0 : Int) : f_M_isRow v0 = 0 ∨ f_M_isRow v0 = 1 := b_M_in _ _ _
/-! RoofLentModel.isText(I)Z (total) -/
def f_M_isText (v0 : Int) : Int :=
  f_M_in v0 0 3
def fo_M_isText (v0 : Int) : Option Int :=
  some (f_M_in v0 0 3)
theorem fo_M_isText_eq (v0 : Int) : fo_M_isText v0 = some (f_M_isText v0) := by
  unfold fo_M_isText f_M_isText
  simp only [zsome_ite]
theorem b_M_isText (v0 : Int) : f_M_isText v0 = 0 ∨ f_M_isText v0 = 1 := b_M_in _ _ _
/-! RoofLentModel.row(II)I -/
noncomputable def b_M_row_34 (v1 : Int) (v2 : Int) (v3 : Int) (μ : zM) : Option ((Int × zM) ⊕ (Int × zM)) :=
  if v3 < 40 then
    if 0 ≤ z32 ((z32 (40 * v1)) + v3) ∧ z32 ((z32 (40 * v1)) + v3) < 240 then
      some (.inl ((z32 (v3 + 1), zst μ 45 (z32 ((z32 (40 * v1)) + v3)).toNat 0)))
    else none
  else
    some (.inr (v2, μ))
noncomputable def e_M_row (v1 : Int) (v2 : Int) (μ : zM) : Option ((Int × zM) ⊕ (Int × zM)) :=
  if f_M_isRow v1 = 0 then
    some (.inr ((-1), μ))
  else if 40 < v2 then
    some (.inr ((-1), μ))
  else if v2 < 0 then
    (f_M_found 5 μ).bind fun q1 =>
    some (.inr (q1.1, q1.2))
  else
    if 0 ≤ v1 ∧ v1 < 6 then
      some (.inl ((0, zst μ 46 v1.toNat v2)))
    else none
noncomputable def t_M_row (v1 : Int) (v2 : Int) : (Int × zM) → Option ((Int × zM) ⊕ (Int × zM)) := fun s => b_M_row_34 v1 v2 s.1 s.2
noncomputable def f_M_row (v1 : Int) (v2 : Int) (μ : zM) : Option (Int × zM) := zgo (t_M_row v1 v2) (e_M_row v1 v2 μ)
/-! RoofLentModel.at(II)I -/
noncomputable def f_M_at (v1 : Int) (v2 : Int) (μ : zM) : Option (Int × zM) :=
  if f_M_isRow v1 = 0 then
    some ((-1), μ)
  else
    if 0 ≤ v1 ∧ v1 < 6 then
      if μ 46 v1.toNat < 0 then
        (f_M_found 1 μ).bind fun q3 =>
        some (q3.1, q3.2)
      else
        if 0 ≤ v1 ∧ v1 < 6 then
          if f_M_in v2 0 (z32 ((μ 46 v1.toNat) - 1)) = 0 then
            (f_M_found 2 μ).bind fun q1 =>
            some (q1.1, q1.2)
          else
            if 0 ≤ z32 ((z32 (40 * v1)) + v2) ∧ z32 ((z32 (40 * v1)) + v2) < 240 then
              (f_M_tells (μ 45 (z32 ((z32 (40 * v1)) + v2)).toNat) 1 μ).bind fun q2 =>
              some (q2.1, q2.2)
            else none
        else none
    else none
/-! RoofLentModel.lay(III)I -/
noncomputable def f_M_lay (v1 : Int) (v2 : Int) (v3 : Int) (μ : zM) : Option (Int × zM) :=
  (f_M_at v1 v2 μ).bind fun q1 =>
  if q1.1 = 1 then
    if 0 ≤ z32 ((z32 (40 * v1)) + v2) ∧ z32 ((z32 (40 * v1)) + v2) < 240 then
      some (q1.1, zst q1.2 45 (z32 ((z32 (40 * v1)) + v2)).toNat v3)
    else none
  else
    some (q1.1, q1.2)
/-! RoofLentModel.tear(I)I -/
noncomputable def f_M_tear (v1 : Int) (μ : zM) : Option (Int × zM) :=
  if f_M_isRow v1 = 0 then
    some ((-1), μ)
  else
    if 0 ≤ v1 ∧ v1 < 6 then
      if μ 46 v1.toNat < 0 then
        (f_M_found 1 μ).bind fun q1 =>
        some (q1.1, q1.2)
      else
        if 0 ≤ v1 ∧ v1 < 6 then
          some (1, zst μ 46 v1.toNat (-1))
        else none
    else none
/-! RoofLentModel.fits(III)Z (total) -/
def f_M_fits (v0 : Int) (v1 : Int) (v2 : Int) : Int :=
  if v0 < 0 then
    0
  else if 0 < zlcmp (z64 (v0 + v1)) v2 then
    0
  else
    1
def fo_M_fits (v0 : Int) (v1 : Int) (v2 : Int) : Option Int :=
  if v0 < 0 then
    some 0
  else if 0 < zlcmp (z64 (v0 + v1)) v2 then
    some 0
  else
    some 1
theorem fo_M_fits_eq (v0 : Int) (v1 : Int) (v2 : Int) : fo_M_fits v0 v1 v2 = some (f_M_fits v0 v1 v2) := by
  unfold fo_M_fits f_M_fits
  simp only [zsome_ite]
theorem b_M_fits (v0 : Int) (v1 : Int) (v2 : Int) : f_M_fits v0 v1 v2 = 0 ∨ f_M_fits v0 v1 v2 = 1 := by
  unfold f_M_fits
  repeat' split
  all_goals first | exact Or.inl rfl | exact Or.inr rfl
/-! RoofLentModel.copy(IIIII)I -/
noncomputable def b_M_copy_91 (v1 : Int) (v2 : Int) (v3 : Int) (v4 : Int) (v5 : Int) (v6 : Int) (μ : zM) : Option (((Int × zM) ⊕ (Int × zM)) ⊕ (Int × zM)) :=
  if v6 < v5 then
    if 0 ≤ z32 ((z32 ((z32 (40 * v1)) + v2)) + v6) ∧ z32 ((z32 ((z32 (40 * v1)) + v2)) + v6) < 240 then
      if 0 ≤ v6 ∧ v6 < 40 then
        some (.inl (.inl ((z32 (v6 + 1), zst μ 49 v6.toNat (μ 45 (z32 ((z32 ((z32 (40 * v1)) + v2)) + v6)).toNat)))))
      else none
    else none
  else
    some (.inl (.inr ((0, μ))))
noncomputable def b_M_copy_128 (v1 : Int) (v2 : Int) (v3 : Int) (v4 : Int) (v5 : Int) (v6 : Int) (μ : zM) : Option (((Int × zM) ⊕ (Int × zM)) ⊕ (Int × zM)) :=
  if v6 < v5 then
    if 0 ≤ v6 ∧ v6 < 40 then
      if 0 ≤ z32 ((z32 ((z32 (40 * v3)) + v4)) + v6) ∧ z32 ((z32 ((z32 (40 * v3)) + v4)) + v6) < 240 then
        some (.inl (.inr ((z32 (v6 + 1), zst μ 45 (z32 ((z32 ((z32 (40 * v3)) + v4)) + v6)).toNat (μ 49 v6.toNat)))))
      else none
    else none
  else
    some (.inr (1, μ))
noncomputable def e_M_copy (v1 : Int) (v2 : Int) (v3 : Int) (v4 : Int) (v5 : Int) (μ : zM) : Option (((Int × zM) ⊕ (Int × zM)) ⊕ (Int × zM)) :=
  if f_M_isRow v1 = 0 then
    some (.inr ((-1), μ))
  else if f_M_isRow v3 = 0 then
    some (.inr ((-1), μ))
  else if v5 < 0 then
    (f_M_found 5 μ).bind fun q5 =>
    some (.inr (q5.1, q5.2))
  else
    if 0 ≤ v1 ∧ v1 < 6 then
      if μ 46 v1.toNat < 0 then
        (f_M_found 1 μ).bind fun q1 =>
        some (.inr (q1.1, q1.2))
      else
        if 0 ≤ v3 ∧ v3 < 6 then
          if μ 46 v3.toNat < 0 then
            (f_M_found 1 μ).bind fun q4 =>
            some (.inr (q4.1, q4.2))
          else
            if 0 ≤ v1 ∧ v1 < 6 then
              if f_M_fits v2 v5 (μ 46 v1.toNat) = 0 then
                (f_M_found 2 μ).bind fun q2 =>
                some (.inr (q2.1, q2.2))
              else
                if 0 ≤ v3 ∧ v3 < 6 then
                  if f_M_fits v4 v5 (μ 46 v3.toNat) = 0 then
                    (f_M_found 2 μ).bind fun q3 =>
                    some (.inr (q3.1, q3.2))
                  else
                    some (.inl (.inl ((0, μ))))
                else none
            else none
        else none
    else none
noncomputable def t_M_copy (v1 : Int) (v2 : Int) (v3 : Int) (v4 : Int) (v5 : Int) : ((Int × zM) ⊕ (Int × zM)) → Option (((Int × zM) ⊕ (Int × zM)) ⊕ (Int × zM)) := fun s => match s with
  | .inl (s) => b_M_copy_91 v1 v2 v3 v4 v5 s.1 s.2
  | .inr (s) => b_M_copy_128 v1 v2 v3 v4 v5 s.1 s.2
noncomputable def f_M_copy (v1 : Int) (v2 : Int) (v3 : Int) (v4 : Int) (v5 : Int) (μ : zM) : Option (Int × zM) := zgo (t_M_copy v1 v2 v3 v4 v5) (e_M_copy v1 v2 v3 v4 v5 μ)
/-! RoofLentModel.mean(I)I -/
noncomputable def b_M_mean_44 (v1 : Int) (v2 v4 : Int) (μ : zM) : Option ((Int × Int × zM) ⊕ (Int × zM)) :=
  if 0 ≤ v1 ∧ v1 < 6 then
    if v4 < μ 46 v1.toNat then
      if 0 ≤ z32 ((z32 (40 * v1)) + v4) ∧ z32 ((z32 (40 * v1)) + v4) < 240 then
        some (.inl ((z64 (v2 + (μ 45 (z32 ((z32 (40 * v1)) + v4)).toNat)), z32 (v4 + 1), μ)))
      else none
    else
      if 0 ≤ v1 ∧ v1 < 6 then
        if ¬ μ 46 v1.toNat = 0 then
          (f_M_tells (z32 (zldiv v2 (μ 46 v1.toNat))) 1 μ).bind fun q3 =>
          some (.inr (q3.1, q3.2))
        else none
      else none
  else none
noncomputable def e_M_mean (v1 : Int) (μ : zM) : Option ((Int × Int × zM) ⊕ (Int × zM)) :=
  if f_M_isRow v1 = 0 then
    some (.inr ((-1), μ))
  else
    if 0 ≤ v1 ∧ v1 < 6 then
      if μ 46 v1.toNat < 0 then
        (f_M_found 1 μ).bind fun q2 =>
        some (.inr (q2.1, q2.2))
      else
        if 0 ≤ v1 ∧ v1 < 6 then
          if μ 46 v1.toNat = 0 then
            (f_M_found 4 μ).bind fun q1 =>
            some (.inr (q1.1, q1.2))
          else
            some (.inl ((0, 0, μ)))
        else none
    else none
noncomputable def t_M_mean (v1 : Int) : (Int × Int × zM) → Option ((Int × Int × zM) ⊕ (Int × zM)) := fun s => b_M_mean_44 v1 s.1 s.2.1 s.2.2
noncomputable def f_M_mean (v1 : Int) (μ : zM) : Option (Int × zM) := zgo (t_M_mean v1) (e_M_mean v1 μ)
/-! RoofLentModel.text(II)I -/
noncomputable def b_M_text_34 (v1 : Int) (v2 : Int) (v3 : Int) (μ : zM) : Option ((Int × zM) ⊕ (Int × zM)) :=
  if v3 < 60 then
    if 0 ≤ z32 ((z32 (60 * v1)) + v3) ∧ z32 ((z32 (60 * v1)) + v3) < 240 then
      some (.inl ((z32 (v3 + 1), zst μ 47 (z32 ((z32 (60 * v1)) + v3)).toNat 32)))
    else none
  else
    some (.inr (v2, μ))
noncomputable def e_M_text (v1 : Int) (v2 : Int) (μ : zM) : Option ((Int × zM) ⊕ (Int × zM)) :=
  if f_M_isText v1 = 0 then
    some (.inr ((-1), μ))
  else if 60 < v2 then
    some (.inr ((-1), μ))
  else if v2 < 0 then
    (f_M_found 5 μ).bind fun q1 =>
    some (.inr (q1.1, q1.2))
  else
    if 0 ≤ v1 ∧ v1 < 4 then
      some (.inl ((0, zst μ 48 v1.toNat v2)))
    else none
noncomputable def t_M_text (v1 : Int) (v2 : Int) : (Int × zM) → Option ((Int × zM) ⊕ (Int × zM)) := fun s => b_M_text_34 v1 v2 s.1 s.2
noncomputable def f_M_text (v1 : Int) (v2 : Int) (μ : zM) : Option (Int × zM) := zgo (t_M_text v1 v2) (e_M_text v1 v2 μ)
/-! RoofLentModel.put(III)I -/
noncomputable def f_M_put (v1 : Int) (v2 : Int) (v3 : Int) (μ : zM) : Option (Int × zM) :=
  if f_M_isText v1 = 0 then
    some ((-1), μ)
  else
    if 0 ≤ v1 ∧ v1 < 4 then
      if μ 48 v1.toNat < 0 then
        (f_M_found 1 μ).bind fun q2 =>
        some (q2.1, q2.2)
      else
        if 0 ≤ v1 ∧ v1 < 4 then
          if f_M_in v2 0 (z32 ((μ 48 v1.toNat) - 1)) = 0 then
            (f_M_found 2 μ).bind fun q1 =>
            some (q1.1, q1.2)
          else
            if 0 ≤ z32 ((z32 (60 * v1)) + v2) ∧ z32 ((z32 (60 * v1)) + v2) < 240 then
              if 0 ≤ z32 ((z32 (60 * v1)) + v2) ∧ z32 ((z32 (60 * v1)) + v2) < 240 then
                some (z32 ((μ 47 (z32 ((z32 (60 * v1)) + v2)).toNat) + 1000), zst μ 47 (z32 ((z32 (60 * v1)) + v2)).toNat (zi2b v3))
              else none
            else none
        else none
    else none
/-! RoofLentModel.kindOf(I)I (total) -/
def f_M_kindOf (v0 : Int) : Int :=
  if v0 = 104 then
    0
  else if v0 = 103 then
    1
  else if v0 = 108 then
    2
  else if v0 = 97 then
    3
  else if v0 = 101 then
    4
  else if v0 = 109 then
    5
  else
    (-1)
def fo_M_kindOf (v0 : Int) : Option Int :=
  if v0 = 104 then
    some 0
  else if v0 = 103 then
    some 1
  else if v0 = 108 then
    some 2
  else if v0 = 97 then
    some 3
  else if v0 = 101 then
    some 4
  else if v0 = 109 then
    some 5
  else
    some (-1)
theorem fo_M_kindOf_eq (v0 : Int) : fo_M_kindOf v0 = some (f_M_kindOf v0) := by
  unfold fo_M_kindOf f_M_kindOf
  simp only [zsome_ite]
/-! RoofLentModel.housesOf(I)I -/
noncomputable def b_M_housesOf_4 (v1 : Int) (v2 v3 : Int) (μ : zM) : Option ((Int × Int) ⊕ Int) :=
  if 0 ≤ z32 (v1 + 0) ∧ z32 (v1 + 0) < 10956 then
    if v3 < μ 43 (z32 (v1 + 0)).toNat then
      if 0 ≤ z32 ((z32 (v1 + 1)) + v3) ∧ z32 ((z32 (v1 + 1)) + v3) < 10956 then
        some (.inl ((z32 (v2 + (μ 43 (z32 ((z32 (v1 + 1)) + v3)).toNat)), z32 (v3 + 1))))
      else none
    else
      some (.inr v2)
  else none
noncomputable def e_M_housesOf (v1 : Int) (μ : zM) : Option ((Int × Int) ⊕ Int) :=
  some (.inl ((0, 0)))
noncomputable def t_M_housesOf (v1 : Int) (μ : zM) : (Int × Int) → Option ((Int × Int) ⊕ Int) := fun s => b_M_housesOf_4 v1 s.1 s.2 μ
noncomputable def f_M_housesOf (v1 : Int) (μ : zM) : Option Int := zgo (t_M_housesOf v1 μ) (e_M_housesOf v1 μ)
/-! RoofLentModel.byteAt(II)I -/
noncomputable def f_M_byteAt (v1 : Int) (v2 : Int) (μ : zM) : Option Int :=
  if 0 ≤ v1 ∧ v1 < 4 then
    if v2 < μ 48 v1.toNat then
      if 0 ≤ z32 ((z32 (60 * v1)) + v2) ∧ z32 ((z32 (60 * v1)) + v2) < 240 then
        some (μ 47 (z32 ((z32 (60 * v1)) + v2)).toNat)
      else none
    else
      some (-1000)
  else none
/-! RoofLentModel.adds(IIII)V -/
noncomputable def f_M_adds (v1 : Int) (v2 : Int) (v3 : Int) (v4 : Int) (μ : zM) : Option zM :=
  if 0 ≤ z32 ((z32 (v1 + 1)) + v2) ∧ z32 ((z32 (v1 + 1)) + v2) < 10956 then
    if 0 ≤ z32 ((z32 ((z32 (v1 + 6)) + (z32 (6 * v2)))) + (μ 43 (z32 ((z32 (v1 + 1)) + v2)).toNat)) ∧ z32 ((z32 ((z32 (v1 + 6)) + (z32 (6 * v2)))) + (μ 43 (z32 ((z32 (v1 + 1)) + v2)).toNat)) < 10956 then
      if 0 ≤ z32 ((z32 ((z32 (v1 + 36)) + (z32 (6 * v2)))) + (μ 43 (z32 ((z32 (v1 + 1)) + v2)).toNat)) ∧ z32 ((z32 ((z32 (v1 + 36)) + (z32 (6 * v2)))) + (μ 43 (z32 ((z32 (v1 + 1)) + v2)).toNat)) < 10956 then
        if 0 ≤ z32 ((z32 (v1 + 1)) + v2) ∧ z32 ((z32 (v1 + 1)) + v2) < 10956 then
          if 0 ≤ z32 ((z32 (v1 + 1)) + v2) ∧ z32 ((z32 (v1 + 1)) + v2) < 10956 then
            some (zst (zst (zst μ 43 (z32 ((z32 ((z32 (v1 + 6)) + (z32 (6 * v2)))) + (μ 43 (z32 ((z32 (v1 + 1)) + v2)).toNat))).toNat v3) 43 (z32 ((z32 ((z32 (v1 + 36)) + (z32 (6 * v2)))) + (μ 43 (z32 ((z32 (v1 + 1)) + v2)).toNat))).toNat v4) 43 (z32 ((z32 (v1 + 1)) + v2)).toNat (z32 (((zst (zst μ 43 (z32 ((z32 ((z32 (v1 + 6)) + (z32 (6 * v2)))) + (μ 43 (z32 ((z32 (v1 + 1)) + v2)).toNat))).toNat v3) 43 (z32 ((z32 ((z32 (v1 + 36)) + (z32 (6 * v2)))) + (μ 43 (z32 ((z32 (v1 + 1)) + v2)).toNat))).toNat v4) 43 (z32 ((z32 (v1 + 1)) + v2)).toNat) + 1)))
          else none
        else none
      else none
    else none
  else none
/-! RoofLentModel.faultOf(I)I -/
noncomputable def b_M_faultOf_2 (v1 : Int) (v2 : Int) (μ : zM) : Option (((Int × zM) ⊕ (Int × zM)) ⊕ (Int × zM)) :=
  if v2 < 66 then
    if 0 ≤ z32 (10824 + v2) ∧ z32 (10824 + v2) < 10956 then
      some (.inl (.inl ((z32 (v2 + 1), zst μ 43 (z32 (10824 + v2)).toNat 0))))
    else none
  else
    some (.inl (.inr ((0, μ))))
noncomputable def b_M_faultOf_27 (v1 : Int) (v2 : Int) (μ : zM) : Option (((Int × zM) ⊕ (Int × zM)) ⊕ (Int × zM)) :=
  if 0 ≤ v1 ∧ v1 < 4 then
    if v2 < μ 48 v1.toNat then
      (f_M_byteAt v1 v2 μ).bind fun q1 =>
      if q1 = 114 then
        if z32 ((μ 43 10824) - 1) = 4 then
          some (.inr (v2, μ))
        else
          some (.inl (.inr ((z32 (v2 + 1), zst μ 43 10824 (z32 ((μ 43 10824) + 1))))))
      else if q1 = 32 then
        some (.inl (.inr ((z32 (v2 + 1), μ))))
      else if f_M_kindOf q1 < 0 then
        some (.inr (v2, μ))
      else if z32 ((μ 43 10824) - 1) < 0 then
        some (.inr (v2, μ))
      else
        if 0 ≤ z32 (10825 + (z32 ((μ 43 10824) - 1))) ∧ z32 (10825 + (z32 ((μ 43 10824) - 1))) < 10956 then
          if μ 43 (z32 (10825 + (z32 ((μ 43 10824) - 1)))).toNat = 6 then
            some (.inr (v2, μ))
          else
            (f_M_housesOf 10824 μ).bind fun q2 =>
            if q2 = 12 then
              some (.inr (v2, μ))
            else
              (f_M_byteAt v1 (z32 (v2 + 1)) μ).bind fun q3 =>
              if f_M_in q3 48 57 = 0 then
                some (.inr (z32 (v2 + 1), μ))
              else
                (f_M_byteAt v1 (z32 (v2 + 1)) μ).bind fun q4 =>
                (f_M_adds 10824 (z32 ((μ 43 10824) - 1)) (f_M_kindOf q1) (z32 (q4 - 48)) μ).bind fun q5 =>
                some (.inl (.inr ((z32 (z32 (v2 + 1) + 1), q5))))
        else none
    else if μ 43 10824 = 0 then
      if 0 ≤ v1 ∧ v1 < 4 then
        some (.inr (μ 48 v1.toNat, μ))
      else none
    else
      some (.inr ((-9), μ))
  else none
noncomputable def e_M_faultOf (v1 : Int) (μ : zM) : Option (((Int × zM) ⊕ (Int × zM)) ⊕ (Int × zM)) :=
  some (.inl (.inl ((0, μ))))
noncomputable def t_M_faultOf (v1 : Int) : ((Int × zM) ⊕ (Int × zM)) → Option (((Int × zM) ⊕ (Int × zM)) ⊕ (Int × zM)) := fun s => match s with
  | .inl (s) => b_M_faultOf_2 v1 s.1 s.2
  | .inr (s) => b_M_faultOf_27 v1 s.1 s.2
noncomputable def f_M_faultOf (v1 : Int) (μ : zM) : Option (Int × zM) := zgo (t_M_faultOf v1) (e_M_faultOf v1 μ)
/-! RoofLentModel.fault(I)I -/
noncomputable def f_M_fault (v1 : Int) (μ : zM) : Option (Int × zM) :=
  if f_M_isText v1 = 0 then
    some ((-1), μ)
  else
    if 0 ≤ v1 ∧ v1 < 4 then
      if μ 48 v1.toNat < 0 then
        (f_M_found 1 μ).bind fun q2 =>
        some (q2.1, q2.2)
      else
        (f_M_faultOf v1 μ).bind fun q1 =>
        some (q1.1, q1.2)
    else none
/-! RoofLentModel.rock(I)I -/
noncomputable def b_M_rock_54 (v1 : Int) (v2 : Int) (μ : zM) : Option ((Int × zM) ⊕ (Int × zM)) :=
  if v2 < 3 then
    if 0 ≤ v2 ∧ v2 < 3 then
      some (.inl ((z32 (v2 + 1), zst μ 44 v2.toNat (-1))))
    else none
  else
    some (.inr (μ 43 0, μ))
noncomputable def e_M_rock (v1 : Int) (μ : zM) : Option ((Int × zM) ⊕ (Int × zM)) :=
  if f_M_isText v1 = 0 then
    some (.inr ((-1), μ))
  else
    if 0 ≤ v1 ∧ v1 < 4 then
      if μ 48 v1.toNat < 0 then
        (f_M_found 1 μ).bind fun q3 =>
        some (.inr (q3.1, q3.2))
      else
        (f_M_faultOf v1 μ).bind fun q1 =>
        if q1.1 = (-9) then
          (f_M_copyAll 10824 0 66 q1.2).bind fun q2 =>
          some (.inl ((0, zst q2 42 1 0)))
        else
          some (.inr ((-4), q1.2))
    else none
noncomputable def t_M_rock (v1 : Int) : (Int × zM) → Option ((Int × zM) ⊕ (Int × zM)) := fun s => b_M_rock_54 v1 s.1 s.2
noncomputable def f_M_rock (v1 : Int) (μ : zM) : Option (Int × zM) := zgo (t_M_rock v1) (e_M_rock v1 μ)
/-! RoofLentModel.isTower(I)Z (total) -/
def f_M_isTower (v1 : Int) (μ : zM) : Int :=
  f_M_in v1 0 (z32 ((μ 43 0) - 1))
def fo_M_isTower (v1 : Int) (μ : zM) : Option Int :=
  some (f_M_in v1 0 (z32 ((μ 43 0) - 1)))
theorem fo_M_isTower_eq (v1 : Int) (μ : zM) : fo_M_isTower v1 μ = some (f_M_isTower v1 μ) := by
  unfold fo_M_isTower f_M_isTower
  simp only [zsome_ite]
theorem b_M_isTower (v1 : Int) (μ : zM) : f_M_isTower v1 μ = 0 ∨ f_M_isTower v1 μ = 1 := b_M_in _ _ _
/-! RoofLentModel.isNone()Z (total) -/
def f_M_isNone (μ : zM) : Int :=
  if μ 43 0 = 0 then
    1
  else
    0
def fo_M_isNone (μ : zM) : Option Int :=
  if μ 43 0 = 0 then
    some 1
  else
    some 0
theorem fo_M_isNone_eq (μ : zM) : fo_M_isNone μ = some (f_M_isNone μ) := by
  unfold fo_M_isNone f_M_isNone
  simp only [zsome_ite]
theorem b_M_isNone (μ : zM) : f_M_isNone μ = 0 ∨ f_M_isNone μ = 1 := by
  unfold f_M_isNone
  repeat' split
  all_goals first | exact Or.inl rfl | exact Or.inr rfl
/-! RoofLentModel.houses()I -/
noncomputable def f_M_houses (μ : zM) : Option Int :=
  (f_M_housesOf 0 μ).bind fun q1 =>
  some q1
/-! RoofLentModel.isTold(II)Z (total) -/
def f_M_isTold (v1 : Int) (v2 : Int) (μ : zM) : Int :=
  if f_M_isTower v1 μ = 0 then
    0
  else if v2 < 0 then
    0
  else
    1
def fo_M_isTold (v1 : Int) (v2 : Int) (μ : zM) : Option Int :=
  if f_M_isTower v1 μ = 0 then
    some 0
  else if v2 < 0 then
    some 0
  else
    some 1
theorem fo_M_isTold_eq (v1 : Int) (v2 : Int) (μ : zM) : fo_M_isTold v1 v2 μ = some (f_M_isTold v1 v2 μ) := by
  unfold fo_M_isTold f_M_isTold
  simp only [zsome_ite]
theorem b_M_isTold (v1 : Int) (v2 : Int) (μ : zM) : f_M_isTold v1 v2 μ = 0 ∨ f_M_isTold v1 v2 μ = 1 := by
  unfold f_M_isTold
  repeat' split
  all_goals first | exact Or.inl rfl | exact Or.inr rfl
/-! RoofLentModel.isThere(II)Z -/
noncomputable def f_M_isThere (v1 : Int) (v2 : Int) (μ : zM) : Option Int :=
  if v1 < 0 then
    some 0
  else if v1 < μ 43 0 then
    if v2 < 0 then
      some 0
    else
      if 0 ≤ z32 (1 + v1) ∧ z32 (1 + v1) < 10956 then
        if v2 < μ 43 (z32 (1 + v1)).toNat then
          some 1
        else
          some 0
      else none
  else
    some 0
/-! RoofLentModel.kindAt(II)I -/
noncomputable def f_M_kindAt (v1 : Int) (v2 : Int) (μ : zM) : Option Int :=
  if 0 ≤ z32 ((z32 (6 + (z32 (6 * v1)))) + v2) ∧ z32 ((z32 (6 + (z32 (6 * v1)))) + v2) < 10956 then
    some (μ 43 (z32 ((z32 (6 + (z32 (6 * v1)))) + v2)).toNat)
  else none
/-! RoofLentModel.bearsAt(II)I -/
noncomputable def f_M_bearsAt (v1 : Int) (v2 : Int) (μ : zM) : Option Int :=
  if 0 ≤ z32 ((z32 (36 + (z32 (6 * v1)))) + v2) ∧ z32 ((z32 (36 + (z32 (6 * v1)))) + v2) < 10956 then
    some (μ 43 (z32 ((z32 (36 + (z32 (6 * v1)))) + v2)).toNat)
  else none
/-! RoofLentModel.goes(II)V -/
noncomputable def b_M_goes_7 (v1 : Int) (v2 : Int) (v3 : Int) (μ : zM) : Option ((Int × zM) ⊕ zM) :=
  if 0 ≤ z32 (1 + v1) ∧ z32 (1 + v1) < 10956 then
    if z32 (v3 + 1) < z32 ((z32 (6 * v1)) + (μ 43 (z32 (1 + v1)).toNat)) then
      if 0 ≤ z32 ((z32 (6 + v3)) + 1) ∧ z32 ((z32 (6 + v3)) + 1) < 10956 then
        if 0 ≤ z32 (6 + v3) ∧ z32 (6 + v3) < 10956 then
          if 0 ≤ z32 ((z32 (36 + v3)) + 1) ∧ z32 ((z32 (36 + v3)) + 1) < 10956 then
            if 0 ≤ z32 (36 + v3) ∧ z32 (36 + v3) < 10956 then
              some (.inl ((z32 (v3 + 1), zst (zst μ 43 (z32 (6 + v3)).toNat (μ 43 (z32 ((z32 (6 + v3)) + 1)).toNat)) 43 (z32 (36 + v3)).toNat ((zst μ 43 (z32 (6 + v3)).toNat (μ 43 (z32 ((z32 (6 + v3)) + 1)).toNat)) 43 (z32 ((z32 (36 + v3)) + 1)).toNat))))
            else none
          else none
        else none
      else none
    else
      if 0 ≤ z32 (1 + v1) ∧ z32 (1 + v1) < 10956 then
        if 0 ≤ z32 (1 + v1) ∧ z32 (1 + v1) < 10956 then
          some (.inr (zst μ 43 (z32 (1 + v1)).toNat (z32 ((μ 43 (z32 (1 + v1)).toNat) - 1))))
        else none
      else none
  else none
noncomputable def e_M_goes (v1 : Int) (v2 : Int) (μ : zM) : Option ((Int × zM) ⊕ zM) :=
  some (.inl ((z32 ((z32 (6 * v1)) + v2), μ)))
noncomputable def t_M_goes (v1 : Int) (v2 : Int) : (Int × zM) → Option ((Int × zM) ⊕ zM) := fun s => b_M_goes_7 v1 v2 s.1 s.2
noncomputable def f_M_goes (v1 : Int) (v2 : Int) (μ : zM) : Option zM := zgo (t_M_goes v1 v2) (e_M_goes v1 v2 μ)
/-! RoofLentModel.numberOf(II)I -/
noncomputable def b_M_numberOf_5 (v1 : Int) (v2 : Int) (v3 v4 : Int) (μ : zM) : Option ((Int × Int) ⊕ Int) :=
  if v4 < v1 then
    if 0 ≤ z32 (1 + v4) ∧ z32 (1 + v4) < 10956 then
      some (.inl ((z32 (v3 + (μ 43 (z32 (1 + v4)).toNat)), z32 (v4 + 1))))
    else none
  else
    some (.inr v3)
noncomputable def e_M_numberOf (v1 : Int) (v2 : Int) (μ : zM) : Option ((Int × Int) ⊕ Int) :=
  some (.inl ((v2, 0)))
noncomputable def t_M_numberOf (v1 : Int) (v2 : Int) (μ : zM) : (Int × Int) → Option ((Int × Int) ⊕ Int) := fun s => b_M_numberOf_5 v1 v2 s.1 s.2 μ
noncomputable def f_M_numberOf (v1 : Int) (v2 : Int) (μ : zM) : Option Int := zgo (t_M_numberOf v1 v2 μ) (e_M_numberOf v1 v2 μ)
/-! RoofLentModel.towerOf(I)I -/
noncomputable def b_M_towerOf_4 (v1 : Int) (v2 v3 : Int) (μ : zM) : Option ((Int × Int) ⊕ Int) :=
  if 0 ≤ z32 (1 + v2) ∧ z32 (1 + v2) < 10956 then
    if v3 < μ 43 (z32 (1 + v2)).toNat then
      some (.inr v2)
    else
      if 0 ≤ z32 (1 + v2) ∧ z32 (1 + v2) < 10956 then
        some (.inl ((z32 (v2 + 1), z32 (v3 - (μ 43 (z32 (1 + v2)).toNat)))))
      else none
  else none
noncomputable def e_M_towerOf (v1 : Int) (μ : zM) : Option ((Int × Int) ⊕ Int) :=
  some (.inl ((0, v1)))
noncomputable def t_M_towerOf (v1 : Int) (μ : zM) : (Int × Int) → Option ((Int × Int) ⊕ Int) := fun s => b_M_towerOf_4 v1 s.1 s.2 μ
noncomputable def f_M_towerOf (v1 : Int) (μ : zM) : Option Int := zgo (t_M_towerOf v1 μ) (e_M_towerOf v1 μ)
/-! RoofLentModel.storeyOf(I)I -/
noncomputable def f_M_storeyOf (v1 : Int) (μ : zM) : Option Int :=
  (f_M_towerOf v1 μ).bind fun q1 =>
  (f_M_numberOf q1 0 μ).bind fun q2 =>
  some (z32 (v1 - q2))
/-! RoofLentModel.tower(I)I -/
noncomputable def f_M_tower (v1 : Int) (μ : zM) : Option Int :=
  if f_M_isTower v1 μ = 0 then
    some (-1)
  else
    if 0 ≤ z32 (1 + v1) ∧ z32 (1 + v1) < 10956 then
      some (μ 43 (z32 (1 + v1)).toNat)
    else none
/-! RoofLentModel.isGlass(I)Z (total) -/
def f_M_isGlass (v0 : Int) : Int :=
  if v0 = 1 then
    1
  else if v0 = 4 then
    1
  else
    0
def fo_M_isGlass (v0 : Int) : Option Int :=
  if v0 = 1 then
    some 1
  else if v0 = 4 then
    some 1
  else
    some 0
theorem fo_M_isGlass_eq (v0 : Int) : fo_M_isGlass v0 = some (f_M_isGlass v0) := by
  unfold fo_M_isGlass f_M_isGlass
  simp only [zsome_ite]
theorem b_M_isGlass (v0 : Int) : f_M_isGlass v0 = 0 ∨ f_M_isGlass v0 = 1 := by
  unfold f_M_isGlass
  repeat' split
  all_goals first | exact Or.inl rfl | exact Or.inr rfl
/-! RoofLentModel.isLeaning(I)Z (total) -/
def f_M_isLeaning (v0 : Int) : Int :=
  if v0 = 2 then
    1
  else if v0 = 5 then
    1
  else
    0
def fo_M_isLeaning (v0 : Int) : Option Int :=
  if v0 = 2 then
    some 1
  else if v0 = 5 then
    some 1
  else
    some 0
theorem fo_M_isLeaning_eq (v0 : Int) : fo_M_isLeaning v0 = some (f_M_isLeaning v0) := by
  unfold fo_M_isLeaning f_M_isLeaning
  simp only [zsome_ite]
theorem b_M_isLeaning (v0 : Int) : f_M_isLeaning v0 = 0 ∨ f_M_isLeaning v0 = 1 := by
  unfold f_M_isLeaning
  repeat' split
  all_goals first | exact Or.inl rfl | exact Or.inr rfl
/-! RoofLentModel.weightIn(II)I -/
noncomputable def j_M_weightIn_17 (v1 : Int) (v2 : Int) (w0 : Int) (μ : zM) : Option Int :=
  if f_M_isGlass v2 = 0 then
    if f_M_isLeaning v2 = 0 then
      if v2 = 3 then
        some 4
      else
        some 2
    else if w0 = 0 then
      some 1
    else
      some 2
  else
    some 1
noncomputable def f_M_weightIn (v1 : Int) (v2 : Int) (μ : zM) : Option Int :=
  if v1 = z32 ((μ 43 0) - 1) then
    j_M_weightIn_17 v1 v2 1 μ
  else
    j_M_weightIn_17 v1 v2 0 μ
/-! RoofLentModel.weighsOn(II)I -/
noncomputable def b_M_weighsOn_7 (v1 : Int) (v2 : Int) (v3 v4 : Int) (μ : zM) : Option (((Int × Int) ⊕ (Int × Int)) ⊕ Int) :=
  if 0 ≤ z32 (1 + v1) ∧ z32 (1 + v1) < 10956 then
    if v4 < μ 43 (z32 (1 + v1)).toNat then
      (f_M_kindAt v1 v4 μ).bind fun q1 =>
      (f_M_weightIn v1 q1 μ).bind fun q2 =>
      some (.inl (.inl ((z32 (v3 + q2), z32 (v4 + 1)))))
    else
      some (.inl (.inr ((v3, v2))))
  else none
noncomputable def b_M_weighsOn_44 (v1 : Int) (v2 : Int) (v3 v4 : Int) (μ : zM) : Option (((Int × Int) ⊕ (Int × Int)) ⊕ Int) :=
  if 0 < v1 then
    if 0 ≤ z32 ((z32 (1 + v1)) - 1) ∧ z32 ((z32 (1 + v1)) - 1) < 10956 then
      if v4 < μ 43 (z32 ((z32 (1 + v1)) - 1)).toNat then
        (f_M_kindAt (z32 (v1 - 1)) v4 μ).bind fun q3 =>
        if f_M_isLeaning q3 = 0 then
          some (.inl (.inr ((z32 (v3 + 0), z32 (v4 + 1)))))
        else
          some (.inl (.inr ((z32 (v3 + 1), z32 (v4 + 1)))))
      else
        some (.inr v3)
    else none
  else
    some (.inr v3)
noncomputable def e_M_weighsOn (v1 : Int) (v2 : Int) (μ : zM) : Option (((Int × Int) ⊕ (Int × Int)) ⊕ Int) :=
  some (.inl (.inl ((0, z32 (v2 + 1)))))
noncomputable def t_M_weighsOn (v1 : Int) (v2 : Int) (μ : zM) : ((Int × Int) ⊕ (Int × Int)) → Option (((Int × Int) ⊕ (Int × Int)) ⊕ Int) := fun s => match s with
  | .inl (s) => b_M_weighsOn_7 v1 v2 s.1 s.2 μ
  | .inr (s) => b_M_weighsOn_44 v1 v2 s.1 s.2 μ
noncomputable def f_M_weighsOn (v1 : Int) (v2 : Int) (μ : zM) : Option Int := zgo (t_M_weighsOn v1 v2 μ) (e_M_weighsOn v1 v2 μ)
/-! RoofLentModel.swaying()I -/
noncomputable def b_M_swaying_4 (v1 v2 : Int) (μ : zM) : Option (((Int × Int) ⊕ (Int × Int × Int)) ⊕ Int) :=
  if v2 < μ 43 0 then
    some (.inl (.inr ((v1, v2, 0))))
  else
    some (.inr v1)
noncomputable def b_M_swaying_16 (v1 v2 v3 : Int) (μ : zM) : Option (((Int × Int) ⊕ (Int × Int × Int)) ⊕ Int) :=
  if 0 ≤ z32 (1 + v2) ∧ z32 (1 + v2) < 10956 then
    if v3 < μ 43 (z32 (1 + v2)).toNat then
      (f_M_weighsOn v2 v3 μ).bind fun q1 =>
      (f_M_bearsAt v2 v3 μ).bind fun q2 =>
      if q2 < q1 then
        (f_M_numberOf v2 v3 μ).bind fun q3 =>
        some (.inl (.inr ((zor v1 (zshl 1 q3), v2, z32 (v3 + 1)))))
      else
        some (.inl (.inr ((zor v1 0, v2, z32 (v3 + 1)))))
    else
      some (.inl (.inl ((v1, z32 (v2 + 1)))))
  else none
noncomputable def e_M_swaying (μ : zM) : Option (((Int × Int) ⊕ (Int × Int × Int)) ⊕ Int) :=
  some (.inl (.inl ((0, 0))))
noncomputable def t_M_swaying (μ : zM) : ((Int × Int) ⊕ (Int × Int × Int)) → Option (((Int × Int) ⊕ (Int × Int × Int)) ⊕ Int) := fun s => match s with
  | .inl (s) => b_M_swaying_4 s.1 s.2 μ
  | .inr (s) => b_M_swaying_16 s.1 s.2.1 s.2.2 μ
noncomputable def f_M_swaying (μ : zM) : Option Int := zgo (t_M_swaying μ) (e_M_swaying μ)
/-! RoofLentModel.eastIn(I)I (total) -/
def f_M_eastIn (v0 : Int) : Int :=
  if v0 < 2 then
    (-1)
  else if 2 < v0 then
    1
  else
    0
def fo_M_eastIn (v0 : Int) : Option Int :=
  if v0 < 2 then
    some (-1)
  else if 2 < v0 then
    some 1
  else
    some 0
theorem fo_M_eastIn_eq (v0 : Int) : fo_M_eastIn v0 = some (f_M_eastIn v0) := by
  unfold fo_M_eastIn f_M_eastIn
  simp only [zsome_ite]
/-! RoofLentModel.upIn(I)I (total) -/
def f_M_upIn (v0 : Int) : Int :=
  if 0 < v0 then
    if v0 < 4 then
      1
    else
      0
  else
    0
def fo_M_upIn (v0 : Int) : Option Int :=
  if 0 < v0 then
    if v0 < 4 then
      some 1
    else
      some 0
  else
    some 0
theorem fo_M_upIn_eq (v0 : Int) : fo_M_upIn v0 = some (f_M_upIn v0) := by
  unfold fo_M_upIn f_M_upIn
  simp only [zsome_ite]
/-! RoofLentModel.shader(III)I -/
noncomputable def b_M_shader_3 (v1 : Int) (v2 : Int) (v3 : Int) (v4 : Int) (μ : zM) : Option (Int ⊕ Int) :=
  if v4 < 7 then
    (f_M_isThere (z32 (v1 + (z32 (v4 * (f_M_eastIn v3))))) (z32 (v2 + (z32 (v4 * (f_M_upIn v3))))) μ).bind fun q1 =>
    if q1 = 0 then
      some (.inl ((z32 (v4 + 1))))
    else
      (f_M_kindAt (z32 (v1 + (z32 (v4 * (f_M_eastIn v3))))) (z32 (v2 + (z32 (v4 * (f_M_upIn v3))))) μ).bind fun q2 =>
      if f_M_isGlass q2 = 0 then
        (f_M_numberOf (z32 (v1 + (z32 (v4 * (f_M_eastIn v3))))) (z32 (v2 + (z32 (v4 * (f_M_upIn v3))))) μ).bind fun q3 =>
        some (.inr q3)
      else
        some (.inl ((z32 (v4 + 1))))
  else
    some (.inr (-9))
noncomputable def e_M_shader (v1 : Int) (v2 : Int) (v3 : Int) (μ : zM) : Option (Int ⊕ Int) :=
  some (.inl (1))
noncomputable def t_M_shader (v1 : Int) (v2 : Int) (v3 : Int) (μ : zM) : Int → Option (Int ⊕ Int) := fun s => b_M_shader_3 v1 v2 v3 s μ
noncomputable def f_M_shader (v1 : Int) (v2 : Int) (v3 : Int) (μ : zM) : Option Int := zgo (t_M_shader v1 v2 v3 μ) (e_M_shader v1 v2 v3 μ)
/-! RoofLentModel.hoursOf(II)I -/
noncomputable def b_M_hoursOf_5 (v1 : Int) (v2 : Int) (v3 v4 : Int) (μ : zM) : Option ((Int × Int) ⊕ Int) :=
  if v4 < 5 then
    (f_M_shader v1 v2 v4 μ).bind fun q1 =>
    if q1 = (-9) then
      some (.inl ((zor v3 (zshl 1 v4), z32 (v4 + 1))))
    else
      some (.inl ((zor v3 0, z32 (v4 + 1))))
  else
    some (.inr v3)
noncomputable def e_M_hoursOf (v1 : Int) (v2 : Int) (μ : zM) : Option ((Int × Int) ⊕ Int) :=
  some (.inl ((0, 0)))
noncomputable def t_M_hoursOf (v1 : Int) (v2 : Int) (μ : zM) : (Int × Int) → Option ((Int × Int) ⊕ Int) := fun s => b_M_hoursOf_5 v1 v2 s.1 s.2 μ
noncomputable def f_M_hoursOf (v1 : Int) (v2 : Int) (μ : zM) : Option Int := zgo (t_M_hoursOf v1 v2 μ) (e_M_hoursOf v1 v2 μ)
/-! RoofLentModel.lampsOver(II)I -/
noncomputable def b_M_lampsOver_7 (v1 : Int) (v2 : Int) (v3 v4 : Int) (μ : zM) : Option ((Int × Int) ⊕ Int) :=
  if 0 ≤ z32 (1 + v1) ∧ z32 (1 + v1) < 10956 then
    if v4 < μ 43 (z32 (1 + v1)).toNat then
      (f_M_kindAt v1 v4 μ).bind fun q1 =>
      if q1 = 5 then
        some (.inl ((z32 (v3 + 1), z32 (v4 + 1))))
      else
        some (.inl ((z32 (v3 + 0), z32 (v4 + 1))))
    else
      some (.inr v3)
  else none
noncomputable def e_M_lampsOver (v1 : Int) (v2 : Int) (μ : zM) : Option ((Int × Int) ⊕ Int) :=
  some (.inl ((0, z32 (v2 + 1))))
noncomputable def t_M_lampsOver (v1 : Int) (v2 : Int) (μ : zM) : (Int × Int) → Option ((Int × Int) ⊕ Int) := fun s => b_M_lampsOver_7 v1 v2 s.1 s.2 μ
noncomputable def f_M_lampsOver (v1 : Int) (v2 : Int) (μ : zM) : Option Int := zgo (t_M_lampsOver v1 v2 μ) (e_M_lampsOver v1 v2 μ)
/-! RoofLentModel.lesser(II)I (total) -/
def f_M_lesser (v0 : Int) (v1 : Int) : Int :=
  if v0 < v1 then
    v0
  else
    v1
def fo_M_lesser (v0 : Int) (v1 : Int) : Option Int :=
  if v0 < v1 then
    some v0
  else
    some v1
theorem fo_M_lesser_eq (v0 : Int) (v1 : Int) : fo_M_lesser v0 v1 = some (f_M_lesser v0 v1) := by
  unfold fo_M_lesser f_M_lesser
  simp only [zsome_ite]
/-! RoofLentModel.lightBy(III)I -/
noncomputable def f_M_lightBy (v1 : Int) (v2 : Int) (v3 : Int) (μ : zM) : Option Int :=
  (f_M_hoursOf v1 v2 μ).bind fun q1 =>
  (f_M_ones (zand q1 (zxor v3 (-1)))).bind fun q2 =>
  (f_M_lampsOver v1 v2 μ).bind fun q3 =>
  some (f_M_lesser 5 (z32 (q2 + q3)))
/-! RoofLentModel.lightOf(I)I -/
noncomputable def f_M_lightOf (v1 : Int) (μ : zM) : Option Int :=
  (f_M_towerOf v1 μ).bind fun q1 =>
  (f_M_storeyOf v1 μ).bind fun q2 =>
  (f_M_lightBy q1 q2 0 μ).bind fun q3 =>
  some q3
/-! RoofLentModel.allLight()I -/
noncomputable def b_M_allLight_4 (v1 v2 : Int) (μ : zM) : Option ((Int × Int) ⊕ Int) :=
  (f_M_houses  μ).bind fun q1 =>
  if v2 < q1 then
    (f_M_lightOf v2 μ).bind fun q2 =>
    some (.inl ((z32 (v1 + q2), z32 (v2 + 1))))
  else
    some (.inr v1)
noncomputable def e_M_allLight (μ : zM) : Option ((Int × Int) ⊕ Int) :=
  some (.inl ((0, 0)))
noncomputable def t_M_allLight (μ : zM) : (Int × Int) → Option ((Int × Int) ⊕ Int) := fun s => b_M_allLight_4 s.1 s.2 μ
noncomputable def f_M_allLight (μ : zM) : Option Int := zgo (t_M_allLight μ) (e_M_allLight μ)
/-! RoofLentModel.layLamps()V -/
noncomputable def j_M_layLamps_116 (v1 v2 v3 v4 v5 v6 w1 : Int) (μ : zM) : Option (((Int × zM) ⊕ (Int × zM) ⊕ (Int × Int × Int × Int × Int × zM)) ⊕ zM) :=
  if 0 ≤ w1 ∧ w1 < 144 then
    if v6 = (-9) then
      if 0 ≤ w1 ∧ w1 < 144 then
        some (.inl (.inr (.inr ((v1, v2, v3, v4, z32 (v5 + 1), zst μ 51 w1.toNat (z32 ((μ 51 w1.toNat) + 0)))))))
      else none
    else
      if 0 ≤ w1 ∧ w1 < 144 then
        some (.inl (.inr (.inr ((v1, v2, v3, v4, z32 (v5 + 1), zst μ 51 w1.toNat (z32 ((μ 51 w1.toNat) + v4)))))))
      else none
  else none
noncomputable def b_M_layLamps_2 (v1 : Int) (μ : zM) : Option (((Int × zM) ⊕ (Int × zM) ⊕ (Int × Int × Int × Int × Int × zM)) ⊕ zM) :=
  if v1 < 144 then
    if 0 ≤ v1 ∧ v1 < 144 then
      some (.inl (.inl ((z32 (v1 + 1), zst μ 51 v1.toNat 0))))
    else none
  else
    some (.inl (.inr (.inl ((0, μ)))))
noncomputable def b_M_layLamps_24 (v1 : Int) (μ : zM) : Option (((Int × zM) ⊕ (Int × zM) ⊕ (Int × Int × Int × Int × Int × zM)) ⊕ zM) :=
  (f_M_houses  μ).bind fun q1 =>
  if v1 < q1 then
    (f_M_towerOf v1 μ).bind fun q2 =>
    (f_M_storeyOf v1 μ).bind fun q3 =>
    (f_M_kindAt q2 q3 μ).bind fun q4 =>
    if q4 = 3 then
      some (.inl (.inr (.inr ((v1, q2, q3, 2, 0, μ)))))
    else
      (f_M_kindAt q2 q3 μ).bind fun q5 =>
      if q5 = 4 then
        some (.inl (.inr (.inr ((v1, q2, q3, 0, 0, μ)))))
      else
        some (.inl (.inr (.inr ((v1, q2, q3, 1, 0, μ)))))
  else
    some (.inr μ)
noncomputable def b_M_layLamps_78 (v1 v2 v3 v4 v5 : Int) (μ : zM) : Option (((Int × zM) ⊕ (Int × zM) ⊕ (Int × Int × Int × Int × Int × zM)) ⊕ zM) :=
  if v5 < 5 then
    (f_M_shader v2 v3 v5 μ).bind fun q6 =>
    if q6 = (-9) then
      j_M_layLamps_116 v1 v2 v3 v4 v5 q6 0 μ
    else
      j_M_layLamps_116 v1 v2 v3 v4 v5 q6 (z32 ((z32 (12 * q6)) + v1)) μ
  else
    some (.inl (.inr (.inl ((z32 (v1 + 1), μ)))))
noncomputable def e_M_layLamps (μ : zM) : Option (((Int × zM) ⊕ (Int × zM) ⊕ (Int × Int × Int × Int × Int × zM)) ⊕ zM) :=
  some (.inl (.inl ((0, μ))))
noncomputable def t_M_layLamps : ((Int × zM) ⊕ (Int × zM) ⊕ (Int × Int × Int × Int × Int × zM)) → Option (((Int × zM) ⊕ (Int × zM) ⊕ (Int × Int × Int × Int × Int × zM)) ⊕ zM) := fun s => match s with
  | .inl (s) => b_M_layLamps_2 s.1 s.2
  | .inr (.inl (s)) => b_M_layLamps_24 s.1 s.2
  | .inr (.inr (s)) => b_M_layLamps_78 s.1 s.2.1 s.2.2.1 s.2.2.2.1 s.2.2.2.2.1 s.2.2.2.2.2
noncomputable def f_M_layLamps (μ : zM) : Option zM := zgo (t_M_layLamps) (e_M_layLamps μ)
/-! RoofLentModel.owesAll(I)I -/
noncomputable def b_M_owesAll_4 (v1 : Int) (v2 v3 : Int) (μ : zM) : Option ((Int × Int) ⊕ Int) :=
  if v3 < 12 then
    if 0 ≤ z32 ((z32 (12 * v1)) + v3) ∧ z32 ((z32 (12 * v1)) + v3) < 144 then
      some (.inl ((z32 (v2 + (μ 51 (z32 ((z32 (12 * v1)) + v3)).toNat)), z32 (v3 + 1))))
    else none
  else
    some (.inr v2)
noncomputable def e_M_owesAll (v1 : Int) (μ : zM) : Option ((Int × Int) ⊕ Int) :=
  some (.inl ((0, 0)))
noncomputable def t_M_owesAll (v1 : Int) (μ : zM) : (Int × Int) → Option ((Int × Int) ⊕ Int) := fun s => b_M_owesAll_4 v1 s.1 s.2 μ
noncomputable def f_M_owesAll (v1 : Int) (μ : zM) : Option Int := zgo (t_M_owesAll v1 μ) (e_M_owesAll v1 μ)
/-! RoofLentModel.owedAll(I)I -/
noncomputable def b_M_owedAll_4 (v1 : Int) (v2 v3 : Int) (μ : zM) : Option ((Int × Int) ⊕ Int) :=
  if v3 < 12 then
    if 0 ≤ z32 ((z32 (12 * v3)) + v1) ∧ z32 ((z32 (12 * v3)) + v1) < 144 then
      some (.inl ((z32 (v2 + (μ 51 (z32 ((z32 (12 * v3)) + v1)).toNat)), z32 (v3 + 1))))
    else none
  else
    some (.inr v2)
noncomputable def e_M_owedAll (v1 : Int) (μ : zM) : Option ((Int × Int) ⊕ Int) :=
  some (.inl ((0, 0)))
noncomputable def t_M_owedAll (v1 : Int) (μ : zM) : (Int × Int) → Option ((Int × Int) ⊕ Int) := fun s => b_M_owedAll_4 v1 s.1 s.2 μ
noncomputable def f_M_owedAll (v1 : Int) (μ : zM) : Option Int := zgo (t_M_owedAll v1 μ) (e_M_owedAll v1 μ)
/-! RoofLentModel.allLamps()I -/
noncomputable def b_M_allLamps_8 (v1 v2 : Int) (μ : zM) : Option ((Int × Int × zM) ⊕ (Int × zM)) :=
  if v2 < 144 then
    if 0 ≤ v2 ∧ v2 < 144 then
      some (.inl ((z32 (v1 + (μ 51 v2.toNat)), z32 (v2 + 1), μ)))
    else none
  else
    some (.inr (v1, μ))
noncomputable def e_M_allLamps (μ : zM) : Option ((Int × Int × zM) ⊕ (Int × zM)) :=
  (f_M_layLamps  μ).bind fun q1 =>
  some (.inl ((0, 0, q1)))
noncomputable def t_M_allLamps : (Int × Int × zM) → Option ((Int × Int × zM) ⊕ (Int × zM)) := fun s => b_M_allLamps_8 s.1 s.2.1 s.2.2
noncomputable def f_M_allLamps (μ : zM) : Option (Int × zM) := zgo (t_M_allLamps) (e_M_allLamps μ)
/-! RoofLentModel.houseTells(III)I -/
noncomputable def f_M_houseTells (v1 : Int) (v2 : Int) (v3 : Int) (μ : zM) : Option Int :=
  (f_M_numberOf v1 v2 μ).bind fun q1 =>
  if v3 = 0 then
    some q1
  else if v3 = 1 then
    (f_M_kindAt v1 v2 μ).bind fun q4 =>
    some q4
  else if v3 = 2 then
    (f_M_bearsAt v1 v2 μ).bind fun q6 =>
    some q6
  else if v3 = 3 then
    (f_M_weighsOn v1 v2 μ).bind fun q8 =>
    some q8
  else if v3 = 4 then
    (f_M_lightOf q1 μ).bind fun q10 =>
    some q10
  else if v3 = 5 then
    (f_M_owesAll q1 μ).bind fun q12 =>
    some q12
  else
    (f_M_owedAll q1 μ).bind fun q13 =>
    some q13
/-! RoofLentModel.house(III)I -/
noncomputable def f_M_house (v1 : Int) (v2 : Int) (v3 : Int) (μ : zM) : Option (Int × zM) :=
  if f_M_isTold v1 v2 μ = 0 then
    some ((-1), μ)
  else if f_M_in v3 0 6 = 0 then
    some ((-1), μ)
  else
    (f_M_isThere v1 v2 μ).bind fun q1 =>
    if q1 = 0 then
      (f_M_found 2 μ).bind fun q5 =>
      some (q5.1, q5.2)
    else
      (f_M_layLamps  μ).bind fun q2 =>
      (f_M_houseTells v1 v2 v3 q2).bind fun q3 =>
      (f_M_tells q3 1 q2).bind fun q4 =>
      some (q4.1, q4.2)
/-! RoofLentModel.isOf(II)Z -/
noncomputable def j_M_isOf_15 (v0 : Int) (v1 : Int) : Option Int :=
  if v1 = 2 then
    if v0 = 5 then
      some 1
    else
      some 0
  else
    some 0
noncomputable def f_M_isOf (v0 : Int) (v1 : Int) : Option Int :=
  if v0 = v1 then
    some 1
  else if v1 = 1 then
    if v0 = 4 then
      some 1
    else
      j_M_isOf_15 v0 v1
  else
    j_M_isOf_15 v0 v1
/-! RoofLentModel.isOnWay(IIIII)Z -/
noncomputable def b_M_isOnWay_6 (v0 : Int) (v1 : Int) (v2 : Int) (v3 : Int) (v4 : Int) (v5 v6 : Int) : Option ((Int × Int) ⊕ Int) :=
  if v6 < 7 then
    if v5 = 0 then
      if v2 = z32 (v0 + (z32 (v6 * (f_M_eastIn v4)))) then
        if v3 = z32 (v1 + (z32 (v6 * (f_M_upIn v4)))) then
          some (.inl ((1, z32 (v6 + 1))))
        else
          some (.inl ((0, z32 (v6 + 1))))
      else
        some (.inl ((0, z32 (v6 + 1))))
    else
      some (.inl ((1, z32 (v6 + 1))))
  else
    if v5 = 0 ∨ v5 = 1 then
      some (.inr v5)
    else none
noncomputable def e_M_isOnWay (v0 : Int) (v1 : Int) (v2 : Int) (v3 : Int) (v4 : Int) : Option ((Int × Int) ⊕ Int) :=
  some (.inl ((0, 1)))
noncomputable def t_M_isOnWay (v0 : Int) (v1 : Int) (v2 : Int) (v3 : Int) (v4 : Int) : (Int × Int) → Option ((Int × Int) ⊕ Int) := fun s => b_M_isOnWay_6 v0 v1 v2 v3 v4 s.1 s.2 
noncomputable def f_M_isOnWay (v0 : Int) (v1 : Int) (v2 : Int) (v3 : Int) (v4 : Int) : Option Int := zgo (t_M_isOnWay v0 v1 v2 v3 v4) (e_M_isOnWay v0 v1 v2 v3 v4)
/-! RoofLentModel.couldShade(II)I -/
noncomputable def b_M_couldShade_5 (v1 : Int) (v2 : Int) (v3 v4 : Int) (μ : zM) : Option (((Int × Int) ⊕ (Int × Int × Int) ⊕ (Int × Int × Int × Int)) ⊕ Int) :=
  if v4 < μ 43 0 then
    some (.inl (.inr (.inl ((v3, v4, 0)))))
  else
    some (.inr v3)
noncomputable def b_M_couldShade_19 (v1 : Int) (v2 : Int) (v3 v4 v5 : Int) (μ : zM) : Option (((Int × Int) ⊕ (Int × Int × Int) ⊕ (Int × Int × Int × Int)) ⊕ Int) :=
  if 0 ≤ z32 (1 + v4) ∧ z32 (1 + v4) < 10956 then
    if v5 < μ 43 (z32 (1 + v4)).toNat then
      some (.inl (.inr (.inr ((v3, v4, v5, 0)))))
    else
      some (.inl (.inl ((v3, z32 (v4 + 1)))))
  else none
noncomputable def b_M_couldShade_36 (v1 : Int) (v2 : Int) (v3 v4 v5 v6 : Int) (μ : zM) : Option (((Int × Int) ⊕ (Int × Int × Int) ⊕ (Int × Int × Int × Int)) ⊕ Int) :=
  if v6 < 5 then
    (f_M_shader v4 v5 v6 μ).bind fun q1 =>
    if q1 = (-9) then
      (f_M_isOnWay v4 v5 v1 v2 v6).bind fun q2 =>
      if q2 = 0 then
        some (.inl (.inr (.inr ((z32 (v3 + 0), v4, v5, z32 (v6 + 1))))))
      else
        some (.inl (.inr (.inr ((z32 (v3 + 1), v4, v5, z32 (v6 + 1))))))
    else
      some (.inl (.inr (.inr ((z32 (v3 + 0), v4, v5, z32 (v6 + 1))))))
  else
    some (.inl (.inr (.inl ((v3, v4, z32 (v5 + 1))))))
noncomputable def e_M_couldShade (v1 : Int) (v2 : Int) (μ : zM) : Option (((Int × Int) ⊕ (Int × Int × Int) ⊕ (Int × Int × Int × Int)) ⊕ Int) :=
  some (.inl (.inl ((0, 0))))
noncomputable def t_M_couldShade (v1 : Int) (v2 : Int) (μ : zM) : ((Int × Int) ⊕ (Int × Int × Int) ⊕ (Int × Int × Int × Int)) → Option (((Int × Int) ⊕ (Int × Int × Int) ⊕ (Int × Int × Int × Int)) ⊕ Int) := fun s => match s with
  | .inl (s) => b_M_couldShade_5 v1 v2 s.1 s.2 μ
  | .inr (.inl (s)) => b_M_couldShade_19 v1 v2 s.1 s.2.1 s.2.2 μ
  | .inr (.inr (s)) => b_M_couldShade_36 v1 v2 s.1 s.2.1 s.2.2.1 s.2.2.2 μ
noncomputable def f_M_couldShade (v1 : Int) (v2 : Int) (μ : zM) : Option Int := zgo (t_M_couldShade v1 v2 μ) (e_M_couldShade v1 v2 μ)
/-! RoofLentModel.lightened(II)I -/
noncomputable def b_M_lightened_5 (v1 : Int) (v2 : Int) (v3 v4 : Int) (μ : zM) : Option ((Int × Int) ⊕ Int) :=
  if v4 < v2 then
    (f_M_hoursOf v1 v4 μ).bind fun q1 =>
    (f_M_ones q1).bind fun q2 =>
    (f_M_lampsOver v1 v4 μ).bind fun q3 =>
    if 5 < z32 (q2 + q3) then
      some (.inl ((z32 (v3 + 0), z32 (v4 + 1))))
    else
      some (.inl ((z32 (v3 + 1), z32 (v4 + 1))))
  else
    some (.inr v3)
noncomputable def e_M_lightened (v1 : Int) (v2 : Int) (μ : zM) : Option ((Int × Int) ⊕ Int) :=
  some (.inl ((0, 0)))
noncomputable def t_M_lightened (v1 : Int) (v2 : Int) (μ : zM) : (Int × Int) → Option ((Int × Int) ⊕ Int) := fun s => b_M_lightened_5 v1 v2 s.1 s.2 μ
noncomputable def f_M_lightened (v1 : Int) (v2 : Int) (μ : zM) : Option Int := zgo (t_M_lightened v1 v2 μ) (e_M_lightened v1 v2 μ)
/-! RoofLentModel.mark(III)I -/
noncomputable def f_M_mark (v1 : Int) (v2 : Int) (v3 : Int) (μ : zM) : Option (Int × zM) :=
  if f_M_isTold v1 v2 μ = 0 then
    some ((-1), μ)
  else if f_M_in v3 1 5 = 0 then
    some ((-1), μ)
  else
    (f_M_isThere v1 v2 μ).bind fun q1 =>
    if q1 = 0 then
      (f_M_found 2 μ).bind fun q14 =>
      some (q14.1, q14.2)
    else
      (f_M_kindAt v1 v2 μ).bind fun q2 =>
      (f_M_isOf q2 v3).bind fun q3 =>
      if q3 = 0 then
        (f_M_found 3 μ).bind fun q13 =>
        some (q13.1, q13.2)
      else if v3 = 1 then
        (f_M_couldShade v1 v2 μ).bind fun q5 =>
        some (q5, μ)
      else if v3 = 2 then
        if z32 (v1 + 1) = μ 43 0 then
          some (0, μ)
        else
          if 0 ≤ z32 ((z32 (1 + v1)) + 1) ∧ z32 ((z32 (1 + v1)) + 1) < 10956 then
            some (f_M_lesser (z32 (v2 + 1)) (μ 43 (z32 ((z32 (1 + v1)) + 1)).toNat), μ)
          else none
      else if v3 = 3 then
        (f_M_layLamps  μ).bind fun q8 =>
        (f_M_numberOf v1 v2 q8).bind fun q9 =>
        (f_M_owedAll q9 q8).bind fun q10 =>
        some (q10, q8)
      else if v3 = 4 then
        if 0 ≤ z32 (1 + v1) ∧ z32 (1 + v1) < 10956 then
          some (z32 ((z32 ((μ 43 (z32 (1 + v1)).toNat) - 1)) - v2), μ)
        else none
      else
        (f_M_lightened v1 v2 μ).bind fun q12 =>
        some (q12, μ)
/-! RoofLentModel.bear(III)I -/
noncomputable def f_M_bear (v1 : Int) (v2 : Int) (v3 : Int) (μ : zM) : Option (Int × zM) :=
  if f_M_isTold v1 v2 μ = 0 then
    some ((-1), μ)
  else if f_M_in v3 0 9 = 0 then
    some ((-1), μ)
  else
    (f_M_isThere v1 v2 μ).bind fun q1 =>
    if q1 = 0 then
      (f_M_found 2 μ).bind fun q3 =>
      some (q3.1, q3.2)
    else
      (f_M_bearsAt v1 v2 μ).bind fun q2 =>
      if 0 ≤ z32 ((z32 (36 + (z32 (6 * v1)))) + v2) ∧ z32 ((z32 (36 + (z32 (6 * v1)))) + v2) < 10956 then
        some (q2, zst μ 43 (z32 ((z32 (36 + (z32 (6 * v1)))) + v2)).toNat v3)
      else none
/-! RoofLentModel.minds()V -/
noncomputable def f_M_minds (μ : zM) : Option zM :=
  (f_M_copyAll 0 (z32 (66 * (z32 ((μ 42 1) + 1)))) 66 μ).bind fun q1 =>
  some (zst q1 42 1 (z32 ((q1 42 1) + 1)))
/-! RoofLentModel.hasRoom(I)Z -/
noncomputable def f_M_hasRoom (v1 : Int) (μ : zM) : Option Int :=
  if 0 ≤ z32 (1 + v1) ∧ z32 (1 + v1) < 10956 then
    if μ 43 (z32 (1 + v1)).toNat < 6 then
      (f_M_houses  μ).bind fun q1 =>
      if q1 < 12 then
        some 1
      else
        some 0
    else
      some 0
  else none
/-! RoofLentModel.build(III)I -/
noncomputable def f_M_build (v1 : Int) (v2 : Int) (v3 : Int) (μ : zM) : Option (Int × zM) :=
  if f_M_isTower v1 μ = 0 then
    some ((-1), μ)
  else if f_M_in v2 0 5 = 0 then
    some ((-1), μ)
  else if f_M_in v3 0 9 = 0 then
    some ((-1), μ)
  else
    (f_M_hasRoom v1 μ).bind fun q1 =>
    if q1 = 0 then
      some ((-2), μ)
    else if μ 42 1 = 40 then
      some ((-2), μ)
    else
      (f_M_minds  μ).bind fun q2 =>
      (f_M_adds 0 v1 v2 v3 q2).bind fun q3 =>
      if 0 ≤ z32 (1 + v1) ∧ z32 (1 + v1) < 10956 then
        some (z32 ((q3 43 (z32 (1 + v1)).toNat) - 1), q3)
      else none
/-! RoofLentModel.leave(II)I -/
noncomputable def f_M_leave (v1 : Int) (v2 : Int) (μ : zM) : Option (Int × zM) :=
  if f_M_isTold v1 v2 μ = 0 then
    some ((-1), μ)
  else
    (f_M_isThere v1 v2 μ).bind fun q1 =>
    if q1 = 0 then
      (f_M_found 2 μ).bind fun q4 =>
      some (q4.1, q4.2)
    else if μ 42 1 = 40 then
      some ((-2), μ)
    else
      (f_M_minds  μ).bind fun q2 =>
      (f_M_goes v1 v2 q2).bind fun q3 =>
      if 0 ≤ z32 (1 + v1) ∧ z32 (1 + v1) < 10956 then
        some (z32 ((q3 43 (z32 (1 + v1)).toNat) - v2), q3)
      else none
/-! RoofLentModel.undo(I)I -/
noncomputable def f_M_undo (v1 : Int) (μ : zM) : Option (Int × zM) :=
  if f_M_in v1 0 (μ 42 1) = 0 then
    some ((-1), μ)
  else if 0 < z32 ((μ 42 1) - v1) then
    (f_M_copyAll (z32 (66 * (z32 (v1 + 1)))) 0 66 μ).bind fun q1 =>
    some (z32 ((μ 42 1) - v1), zst q1 42 1 v1)
  else
    some (z32 ((μ 42 1) - v1), μ)
/-! RoofLentModel.keep(I)I -/
noncomputable def f_M_keep (v1 : Int) (μ : zM) : Option (Int × zM) :=
  if f_M_in v1 0 2 = 0 then
    some ((-1), μ)
  else if f_M_isNone  μ = 0 then
    (f_M_copyAll 0 (z32 (2706 * (z32 (v1 + 1)))) 2706 μ).bind fun q1 =>
    if 0 ≤ v1 ∧ v1 < 3 then
      some ((zst q1 44 v1.toNat (q1 42 1)) 42 1, zst q1 44 v1.toNat (q1 42 1))
    else none
  else
    some ((-4), μ)
/-! RoofLentModel.on(I)I -/
noncomputable def f_M_on (v1 : Int) (μ : zM) : Option (Int × zM) :=
  if f_M_in v1 0 2 = 0 then
    some ((-1), μ)
  else
    if 0 ≤ v1 ∧ v1 < 3 then
      if μ 44 v1.toNat < 0 then
        (f_M_found 1 μ).bind fun q2 =>
        some (q2.1, q2.2)
      else
        (f_M_copyAll (z32 (2706 * (z32 (v1 + 1)))) 0 2706 μ).bind fun q1 =>
        if 0 ≤ v1 ∧ v1 < 3 then
          some ((zst q1 42 1 (q1 44 v1.toNat)) 42 1, zst q1 42 1 (q1 44 v1.toNat))
        else none
    else none
/-! RoofLentModel.shades(III)I -/
noncomputable def f_M_shades (v1 : Int) (v2 : Int) (v3 : Int) (μ : zM) : Option (Int × zM) :=
  if f_M_isTold v1 v2 μ = 0 then
    some ((-1), μ)
  else if f_M_in v3 0 4 = 0 then
    some ((-1), μ)
  else
    (f_M_isThere v1 v2 μ).bind fun q1 =>
    if q1 = 0 then
      (f_M_found 2 μ).bind fun q2 =>
      some (q2.1, q2.2)
    else
      (f_M_shader v1 v2 v3 μ).bind fun q3 =>
      some (q3, μ)
/-! RoofLentModel.sees(II)I -/
noncomputable def f_M_sees (v1 : Int) (v2 : Int) (μ : zM) : Option (Int × zM) :=
  if f_M_isTold v1 v2 μ = 0 then
    some ((-1), μ)
  else
    (f_M_isThere v1 v2 μ).bind fun q1 =>
    if q1 = 0 then
      (f_M_found 2 μ).bind fun q2 =>
      some (q2.1, q2.2)
    else
      (f_M_lampsOver v1 v2 μ).bind fun q3 =>
      (f_M_hoursOf v1 v2 μ).bind fun q4 =>
      (f_M_tells q3 q4 μ).bind fun q5 =>
      some (q5.1, q5.2)
/-! RoofLentModel.isHouse(I)Z -/
noncomputable def f_M_isHouse (v1 : Int) (μ : zM) : Option Int :=
  (f_M_houses  μ).bind fun q1 =>
  some (f_M_in v1 0 (z32 (q1 - 1)))
/-! RoofLentModel.owes(II)I -/
noncomputable def f_M_owes (v1 : Int) (v2 : Int) (μ : zM) : Option (Int × zM) :=
  (f_M_isHouse v1 μ).bind fun q1 =>
  if q1 = 0 then
    some ((-1), μ)
  else
    (f_M_isHouse v2 μ).bind fun q2 =>
    if q2 = 0 then
      some ((-1), μ)
    else if v1 = v2 then
      some ((-1), μ)
    else
      (f_M_layLamps  μ).bind fun q3 =>
      if 0 ≤ z32 ((z32 (12 * v1)) + v2) ∧ z32 ((z32 (12 * v1)) + v2) < 144 then
        some (q3 51 (z32 ((z32 (12 * v1)) + v2)).toNat, q3)
      else none
/-! RoofLentModel.debt(I)I -/
noncomputable def f_M_debt (v1 : Int) (μ : zM) : Option (Int × zM) :=
  (f_M_isHouse v1 μ).bind fun q1 =>
  if q1 = 0 then
    some ((-1), μ)
  else
    (f_M_layLamps  μ).bind fun q2 =>
    (f_M_owesAll v1 q2).bind fun q3 =>
    (f_M_owedAll v1 q2).bind fun q4 =>
    (f_M_tells (z32 (q3 - q4)) 1 q2).bind fun q5 =>
    some (q5.1, q5.2)
/-! RoofLentModel.light()I -/
noncomputable def f_M_light (μ : zM) : Option (Int × zM) :=
  (f_M_allLamps  μ).bind fun q1 =>
  (f_M_allLight  q1.2).bind fun q2 =>
  (f_M_tells q1.1 q2 q1.2).bind fun q3 =>
  some (q3.1, q3.2)
/-! RoofLentModel.ruined()I -/
noncomputable def j_M_ruined_37 (v2 v3 v4 w0 : Int) (μ : zM) : Option ((Int × Int × Int × zM) ⊕ (Int × zM)) :=
  if v2 < v4 then
    some (.inl ((w0, v4, z32 (v3 + 1), μ)))
  else
    some (.inl ((w0, v2, z32 (v3 + 1), μ)))
noncomputable def b_M_ruined_11 (v1 v2 v3 : Int) (μ : zM) : Option ((Int × Int × Int × zM) ⊕ (Int × zM)) :=
  (f_M_houses  μ).bind fun q2 =>
  if v3 < q2 then
    (f_M_owesAll v3 μ).bind fun q4 =>
    if v2 < q4 then
      j_M_ruined_37 v2 v3 q4 v3 μ
    else
      j_M_ruined_37 v2 v3 q4 v1 μ
  else if v1 = (-9) then
    some (.inr ((-9), μ))
  else
    (f_M_tells v2 v1 μ).bind fun q3 =>
    some (.inr (q3.1, q3.2))
noncomputable def e_M_ruined (μ : zM) : Option ((Int × Int × Int × zM) ⊕ (Int × zM)) :=
  (f_M_layLamps  μ).bind fun q1 =>
  some (.inl (((-9), (-1), 0, q1)))
noncomputable def t_M_ruined : (Int × Int × Int × zM) → Option ((Int × Int × Int × zM) ⊕ (Int × zM)) := fun s => b_M_ruined_11 s.1 s.2.1 s.2.2.1 s.2.2.2
noncomputable def f_M_ruined (μ : zM) : Option (Int × zM) := zgo (t_M_ruined) (e_M_ruined μ)
/-! RoofLentModel.firstOf(I)I -/
noncomputable def b_M_firstOf_2 (v1 : Int) (v2 : Int) : Option (Int ⊕ Int) :=
  if f_M_has v1 v2 = 0 then
    some (.inl ((z32 (v2 + 1))))
  else
    some (.inr v2)
noncomputable def e_M_firstOf (v1 : Int) : Option (Int ⊕ Int) :=
  some (.inl (0))
noncomputable def t_M_firstOf (v1 : Int) : Int → Option (Int ⊕ Int) := fun s => b_M_firstOf_2 v1 s 
noncomputable def f_M_firstOf (v1 : Int) : Option Int := zgo (t_M_firstOf v1) (e_M_firstOf v1)
/-! RoofLentModel.sways()I -/
noncomputable def f_M_sways (μ : zM) : Option (Int × zM) :=
  (f_M_swaying  μ).bind fun q1 =>
  if q1 = 0 then
    (f_M_tells 0 (-9) μ).bind fun q5 =>
    some (q5.1, q5.2)
  else
    (f_M_ones q1).bind fun q2 =>
    (f_M_firstOf q1).bind fun q3 =>
    (f_M_tells q2 q3 μ).bind fun q4 =>
    some (q4.1, q4.2)
/-! RoofLentModel.lays()V -/
noncomputable def f_M_lays (μ : zM) : Option zM :=
  (f_M_copyAll 0 10890 66 μ).bind fun q1 =>
  some q1
/-! RoofLentModel.putsBack()V -/
noncomputable def f_M_putsBack (μ : zM) : Option zM :=
  (f_M_copyAll 10890 0 66 μ).bind fun q1 =>
  some q1
/-! RoofLentModel.isKind(I)Z (total) -/
def f_M_isKind (v0 : Int) : Int :=
  f_M_in v0 0 5
def fo_M_isKind (v0 : Int) : Option Int :=
  some (f_M_in v0 0 5)
theorem fo_M_isKind_eq (v0 : Int) : fo_M_isKind v0 = some (f_M_isKind v0) := by
  unfold fo_M_isKind f_M_isKind
  simp only [zsome_ite]
theorem b_M_isKind (v0 : Int) : f_M_isKind v0 = 0 ∨ f_M_isKind v0 = 1 := b_M_in _ _ _
/-! RoofLentModel.best(II)I -/
noncomputable def j_M_best_105 (v1 : Int) (v2 : Int) (v4 v5 v6 w0 : Int) (μ : zM) : Option ((Int × Int × Int × zM) ⊕ (Int × zM)) :=
  if v6 < v4 then
    (f_M_putsBack  μ).bind fun q8 =>
    some (.inl ((w0, v6, z32 (v5 + 1), q8)))
  else
    (f_M_putsBack  μ).bind fun q7 =>
    some (.inl ((w0, v4, z32 (v5 + 1), q7)))
noncomputable def j_M_best_90 (v1 : Int) (v2 : Int) (v3 v4 v5 w0 : Int) (μ : zM) : Option ((Int × Int × Int × zM) ⊕ (Int × zM)) :=
  if w0 < v4 then
    j_M_best_105 v1 v2 v4 v5 w0 v5 μ
  else
    j_M_best_105 v1 v2 v4 v5 w0 v3 μ
noncomputable def b_M_best_45 (v1 : Int) (v2 : Int) (v3 v4 v5 : Int) (μ : zM) : Option ((Int × Int × Int × zM) ⊕ (Int × zM)) :=
  if v5 < μ 43 0 then
    (f_M_hasRoom v5 μ).bind fun q3 =>
    if q3 = 0 then
      some (.inl ((v3, v4, z32 (v5 + 1), μ)))
    else
      (f_M_adds 0 v5 v1 v2 μ).bind fun q4 =>
      (f_M_swaying  q4).bind fun q5 =>
      if q5 = 0 then
        (f_M_allLamps  q4).bind fun q6 =>
        j_M_best_90 v1 v2 v3 v4 v5 q6.1 q6.2
      else
        j_M_best_90 v1 v2 v3 v4 v5 1000000 q4
  else if v3 = (-9) then
    some (.inr ((-9), μ))
  else
    (f_M_tells v4 v3 μ).bind fun q2 =>
    some (.inr (q2.1, q2.2))
noncomputable def e_M_best (v1 : Int) (v2 : Int) (μ : zM) : Option ((Int × Int × Int × zM) ⊕ (Int × zM)) :=
  if f_M_isKind v1 = 0 then
    some (.inr ((-1), μ))
  else if f_M_in v2 0 9 = 0 then
    some (.inr ((-1), μ))
  else if f_M_isNone  μ = 0 then
    (f_M_lays  μ).bind fun q1 =>
    some (.inl (((-9), 1000000, 0, q1)))
  else
    some (.inr ((-4), μ))
noncomputable def t_M_best (v1 : Int) (v2 : Int) : (Int × Int × Int × zM) → Option ((Int × Int × Int × zM) ⊕ (Int × zM)) := fun s => b_M_best_45 v1 v2 s.1 s.2.1 s.2.2.1 s.2.2.2
noncomputable def f_M_best (v1 : Int) (v2 : Int) (μ : zM) : Option (Int × zM) := zgo (t_M_best v1 v2) (e_M_best v1 v2 μ)
/-! RoofLentModel.both(III)I -/
noncomputable def j_M_both_167 (v1 : Int) (v2 : Int) (v3 : Int) (v5 v6 v9 w0 : Int) (μ : zM) : Option ((Int × Int × Int × zM) ⊕ (Int × zM)) :=
  if v9 < v5 then
    (f_M_putsBack  μ).bind fun q11 =>
    some (.inl ((w0, v9, z32 (v6 + 1), q11)))
  else
    (f_M_putsBack  μ).bind fun q10 =>
    some (.inl ((w0, v5, z32 (v6 + 1), q10)))
noncomputable def j_M_both_145 (v1 : Int) (v2 : Int) (v3 : Int) (v4 v5 v6 v7 v8 w0 : Int) (μ : zM) : Option ((Int × Int × Int × zM) ⊕ (Int × zM)) :=
  if w0 < v5 then
    j_M_both_167 v1 v2 v3 v5 v6 w0 (z32 ((z32 (10 * v7)) + v8)) μ
  else
    j_M_both_167 v1 v2 v3 v5 v6 w0 v4 μ
noncomputable def b_M_both_53 (v1 : Int) (v2 : Int) (v3 : Int) (v4 v5 v6 : Int) (μ : zM) : Option ((Int × Int × Int × zM) ⊕ (Int × zM)) :=
  if v6 < z32 ((μ 43 0) * (μ 43 0)) then
    if ¬ μ 43 0 = 0 then
      if ¬ μ 43 0 = 0 then
        (f_M_hasRoom (zdiv v6 (μ 43 0)) μ).bind fun q3 =>
        if q3 = 0 then
          some (.inl ((v4, v5, z32 (v6 + 1), μ)))
        else
          (f_M_adds 0 (zdiv v6 (μ 43 0)) v1 v3 μ).bind fun q4 =>
          (f_M_hasRoom (zrem v6 (μ 43 0)) q4).bind fun q5 =>
          if q5 = 0 then
            (f_M_putsBack  q4).bind fun q6 =>
            some (.inl ((v4, v5, z32 (v6 + 1), q6)))
          else
            (f_M_adds 0 (zrem v6 (μ 43 0)) v2 v3 q4).bind fun q7 =>
            (f_M_swaying  q7).bind fun q8 =>
            if q8 = 0 then
              (f_M_allLamps  q7).bind fun q9 =>
              j_M_both_145 v1 v2 v3 v4 v5 v6 (zdiv v6 (μ 43 0)) (zrem v6 (μ 43 0)) q9.1 q9.2
            else
              j_M_both_145 v1 v2 v3 v4 v5 v6 (zdiv v6 (μ 43 0)) (zrem v6 (μ 43 0)) 1000000 q7
      else none
    else none
  else if v4 = (-9) then
    some (.inr ((-9), μ))
  else
    (f_M_tells v5 v4 μ).bind fun q2 =>
    some (.inr (q2.1, q2.2))
noncomputable def e_M_both (v1 : Int) (v2 : Int) (v3 : Int) (μ : zM) : Option ((Int × Int × Int × zM) ⊕ (Int × zM)) :=
  if f_M_isKind v1 = 0 then
    some (.inr ((-1), μ))
  else if f_M_isKind v2 = 0 then
    some (.inr ((-1), μ))
  else if f_M_in v3 0 9 = 0 then
    some (.inr ((-1), μ))
  else if f_M_isNone  μ = 0 then
    (f_M_lays  μ).bind fun q1 =>
    some (.inl (((-9), 1000000, 0, q1)))
  else
    some (.inr ((-4), μ))
noncomputable def t_M_both (v1 : Int) (v2 : Int) (v3 : Int) : (Int × Int × Int × zM) → Option ((Int × Int × Int × zM) ⊕ (Int × zM)) := fun s => b_M_both_53 v1 v2 v3 s.1 s.2.1 s.2.2.1 s.2.2.2
noncomputable def f_M_both (v1 : Int) (v2 : Int) (v3 : Int) (μ : zM) : Option (Int × zM) := zgo (t_M_both v1 v2 v3) (e_M_both v1 v2 v3 μ)
/-! RoofLentModel.leaveAll(I)V -/
noncomputable def b_M_leaveAll_3 (v1 : Int) (v2 : Int) (μ : zM) : Option ((Int × zM) ⊕ zM) :=
  if v2 < 0 then
    some (.inr μ)
  else if f_M_has v1 v2 = 0 then
    some (.inl ((z32 (v2 + (-1)), μ)))
  else
    (f_M_towerOf v2 μ).bind fun q1 =>
    (f_M_storeyOf v2 μ).bind fun q2 =>
    (f_M_goes q1 q2 μ).bind fun q3 =>
    some (.inl ((z32 (v2 + (-1)), q3)))
noncomputable def e_M_leaveAll (v1 : Int) (μ : zM) : Option ((Int × zM) ⊕ zM) :=
  some (.inl ((11, μ)))
noncomputable def t_M_leaveAll (v1 : Int) : (Int × zM) → Option ((Int × zM) ⊕ zM) := fun s => b_M_leaveAll_3 v1 s.1 s.2
noncomputable def f_M_leaveAll (v1 : Int) (μ : zM) : Option zM := zgo (t_M_leaveAll v1) (e_M_leaveAll v1 μ)
/-! RoofLentModel.fewest()I -/
noncomputable def j_M_fewest_43 (v1 v2 v3 : Int) (μ : zM) : Option ((Int × Int × Int × zM) ⊕ (Int × zM)) :=
  (f_M_leaveAll v3 μ).bind fun q8 =>
  (f_M_swaying  q8).bind fun q9 =>
  if q9 = 0 then
    (f_M_putsBack  q8).bind fun q11 =>
    some (.inl ((v3, v2, z32 (v3 + 1), q11)))
  else
    (f_M_putsBack  q8).bind fun q10 =>
    some (.inl ((v1, v2, z32 (v3 + 1), q10)))
noncomputable def b_M_fewest_15 (v1 v2 v3 : Int) (μ : zM) : Option ((Int × Int × Int × zM) ⊕ (Int × zM)) :=
  if v3 < v2 then
    (f_M_ones v3).bind fun q5 =>
    if q5 < 4 then
      if v1 < 0 then
        j_M_fewest_43 v1 v2 v3 μ
      else
        (f_M_ones v3).bind fun q6 =>
        (f_M_ones v1).bind fun q7 =>
        if q6 < q7 then
          j_M_fewest_43 v1 v2 v3 μ
        else
          some (.inl ((v1, v2, z32 (v3 + 1), μ)))
    else
      some (.inl ((v1, v2, z32 (v3 + 1), μ)))
  else if v1 < 0 then
    some (.inr ((-9), μ))
  else
    (f_M_ones v1).bind fun q3 =>
    (f_M_tells v1 q3 μ).bind fun q4 =>
    some (.inr (q4.1, q4.2))
noncomputable def e_M_fewest (μ : zM) : Option ((Int × Int × Int × zM) ⊕ (Int × zM)) :=
  (f_M_houses  μ).bind fun q1 =>
  (f_M_lays  μ).bind fun q2 =>
  some (.inl (((-1), zshl 1 q1, 0, q2)))
noncomputable def t_M_fewest : (Int × Int × Int × zM) → Option ((Int × Int × Int × zM) ⊕ (Int × zM)) := fun s => b_M_fewest_15 s.1 s.2.1 s.2.2.1 s.2.2.2
noncomputable def f_M_fewest (μ : zM) : Option (Int × zM) := zgo (t_M_fewest) (e_M_fewest μ)
/-! RoofLentModel.relief()I -/
noncomputable def j_M_relief_75 (v1 v3 v4 v6 w0 : Int) (μ : zM) : Option ((Int × Int × Int × Int × zM) ⊕ (Int × zM)) :=
  if v3 < v6 then
    (f_M_putsBack  μ).bind fun q11 =>
    some (.inl ((v1, w0, v6, z32 (v4 + 1), q11)))
  else
    (f_M_putsBack  μ).bind fun q10 =>
    some (.inl ((v1, w0, v3, z32 (v4 + 1), q10)))
noncomputable def b_M_relief_19 (v1 v2 v3 v4 : Int) (μ : zM) : Option ((Int × Int × Int × Int × zM) ⊕ (Int × zM)) :=
  if v4 < v1 then
    (f_M_allLight  μ).bind fun q4 =>
    (f_M_lightOf v4 μ).bind fun q5 =>
    (f_M_towerOf v4 μ).bind fun q6 =>
    (f_M_storeyOf v4 μ).bind fun q7 =>
    (f_M_goes q6 q7 μ).bind fun q8 =>
    (f_M_allLight  q8).bind fun q9 =>
    if v3 < z32 (q9 - (z32 (q4 - q5))) then
      j_M_relief_75 v1 v3 v4 (z32 (q9 - (z32 (q4 - q5)))) v4 q8
    else
      j_M_relief_75 v1 v3 v4 (z32 (q9 - (z32 (q4 - q5)))) v2 q8
  else if v2 = (-9) then
    some (.inr ((-9), μ))
  else
    (f_M_tells v3 v2 μ).bind fun q3 =>
    some (.inr (q3.1, q3.2))
noncomputable def e_M_relief (μ : zM) : Option ((Int × Int × Int × Int × zM) ⊕ (Int × zM)) :=
  (f_M_houses  μ).bind fun q1 =>
  (f_M_lays  μ).bind fun q2 =>
  some (.inl ((q1, (-9), (-1000000), 0, q2)))
noncomputable def t_M_relief : (Int × Int × Int × Int × zM) → Option ((Int × Int × Int × Int × zM) ⊕ (Int × zM)) := fun s => b_M_relief_19 s.1 s.2.1 s.2.2.1 s.2.2.2.1 s.2.2.2.2
noncomputable def f_M_relief (μ : zM) : Option (Int × zM) := zgo (t_M_relief) (e_M_relief μ)
/-! RoofLentModel.high(II)I -/
noncomputable def j_M_high_64 (v1 : Int) (v2 : Int) (v3 w0 : Int) (μ : zM) : Option ((Int × Int × zM) ⊕ (Int × zM)) :=
  if w0 = 0 then
    some (.inl ((z32 (v3 + 0), w0, μ)))
  else
    some (.inl ((z32 (v3 + 1), w0, μ)))
noncomputable def b_M_high_31 (v1 : Int) (v2 : Int) (v3 v4 : Int) (μ : zM) : Option ((Int × Int × zM) ⊕ (Int × zM)) :=
  if v4 = 0 then
    (f_M_putsBack  μ).bind fun q2 =>
    some (.inr (v3, q2))
  else
    (f_M_hasRoom v1 μ).bind fun q3 =>
    if q3 = 0 then
      (f_M_putsBack  μ).bind fun q4 =>
      some (.inr (v3, q4))
    else
      (f_M_adds 0 v1 0 v2 μ).bind fun q5 =>
      (f_M_swaying  q5).bind fun q6 =>
      if q6 = 0 then
        j_M_high_64 v1 v2 v3 1 q5
      else
        j_M_high_64 v1 v2 v3 0 q5
noncomputable def e_M_high (v1 : Int) (v2 : Int) (μ : zM) : Option ((Int × Int × zM) ⊕ (Int × zM)) :=
  if f_M_isTower v1 μ = 0 then
    some (.inr ((-1), μ))
  else if f_M_in v2 0 9 = 0 then
    some (.inr ((-1), μ))
  else
    (f_M_lays  μ).bind fun q1 =>
    some (.inl ((0, 1, q1)))
noncomputable def t_M_high (v1 : Int) (v2 : Int) : (Int × Int × zM) → Option ((Int × Int × zM) ⊕ (Int × zM)) := fun s => b_M_high_31 v1 v2 s.1 s.2.1 s.2.2
noncomputable def f_M_high (v1 : Int) (v2 : Int) (μ : zM) : Option (Int × zM) := zgo (t_M_high v1 v2) (e_M_high v1 v2 μ)
/-! RoofLentModel.settle()I -/
noncomputable def b_M_settle_11 (v1 v2 : Int) (μ : zM) : Option (((Int × Int × zM) ⊕ (Int × Int × Int × zM)) ⊕ (Int × zM)) :=
  if v2 < zshl 1 v1 then
    if 0 ≤ v2 ∧ v2 < 4096 then
      if 0 ≤ v2 ∧ v2 < 4096 then
        some (.inl (.inr ((v1, v2, 0, zst (zst μ 52 v2.toNat 0) 53 v2.toNat 0))))
      else none
    else none
  else
    if 0 ≤ z32 ((zshl 1 v1) - 1) ∧ z32 ((zshl 1 v1) - 1) < 4096 then
      some (.inr (z32 (v1 - (μ 53 (z32 ((zshl 1 v1) - 1)).toNat)), μ))
    else none
noncomputable def b_M_settle_34 (v1 v2 v3 : Int) (μ : zM) : Option (((Int × Int × zM) ⊕ (Int × Int × Int × zM)) ⊕ (Int × zM)) :=
  if v3 < v1 then
    if f_M_has v2 v3 = 0 then
      some (.inl (.inr ((v1, v2, z32 (v3 + 1), μ))))
    else
      if 0 ≤ zand v2 (zxor (zshl 1 v3) (-1)) ∧ zand v2 (zxor (zshl 1 v3) (-1)) < 4096 then
        (f_M_owesAll v3 μ).bind fun q3 =>
        (f_M_owedAll v3 μ).bind fun q4 =>
        if 0 ≤ v2 ∧ v2 < 4096 then
          if 0 ≤ zand v2 (zxor (zshl 1 v3) (-1)) ∧ zand v2 (zxor (zshl 1 v3) (-1)) < 4096 then
            if 0 ≤ v2 ∧ v2 < 4096 then
              if (zst μ 52 v2.toNat (z32 ((z32 ((μ 52 (zand v2 (zxor (zshl 1 v3) (-1))).toNat) + q3)) - q4))) 53 v2.toNat < (zst μ 52 v2.toNat (z32 ((z32 ((μ 52 (zand v2 (zxor (zshl 1 v3) (-1))).toNat) + q3)) - q4))) 53 (zand v2 (zxor (zshl 1 v3) (-1))).toNat then
                if 0 ≤ zand v2 (zxor (zshl 1 v3) (-1)) ∧ zand v2 (zxor (zshl 1 v3) (-1)) < 4096 then
                  if 0 ≤ v2 ∧ v2 < 4096 then
                    some (.inl (.inr ((v1, v2, z32 (v3 + 1), zst (zst μ 52 v2.toNat (z32 ((z32 ((μ 52 (zand v2 (zxor (zshl 1 v3) (-1))).toNat) + q3)) - q4))) 53 v2.toNat ((zst μ 52 v2.toNat (z32 ((z32 ((μ 52 (zand v2 (zxor (zshl 1 v3) (-1))).toNat) + q3)) - q4))) 53 (zand v2 (zxor (zshl 1 v3) (-1))).toNat)))))
                  else none
                else none
              else
                if 0 ≤ v2 ∧ v2 < 4096 then
                  if 0 ≤ v2 ∧ v2 < 4096 then
                    some (.inl (.inr ((v1, v2, z32 (v3 + 1), zst (zst μ 52 v2.toNat (z32 ((z32 ((μ 52 (zand v2 (zxor (zshl 1 v3) (-1))).toNat) + q3)) - q4))) 53 v2.toNat ((zst μ 52 v2.toNat (z32 ((z32 ((μ 52 (zand v2 (zxor (zshl 1 v3) (-1))).toNat) + q3)) - q4))) 53 v2.toNat)))))
                  else none
                else none
            else none
          else none
        else none
      else none
  else
    if 0 ≤ v2 ∧ v2 < 4096 then
      if 0 ≤ v2 ∧ v2 < 4096 then
        if μ 52 v2.toNat = 0 then
          if 0 < v2 then
            if 0 ≤ v2 ∧ v2 < 4096 then
              some (.inl (.inl ((v1, z32 (v2 + 1), zst μ 53 v2.toNat (z32 ((μ 53 v2.toNat) + 1))))))
            else none
          else
            if 0 ≤ v2 ∧ v2 < 4096 then
              some (.inl (.inl ((v1, z32 (v2 + 1), zst μ 53 v2.toNat (z32 ((μ 53 v2.toNat) + 0))))))
            else none
        else
          if 0 ≤ v2 ∧ v2 < 4096 then
            some (.inl (.inl ((v1, z32 (v2 + 1), zst μ 53 v2.toNat (z32 ((μ 53 v2.toNat) + 0))))))
          else none
      else none
    else none
noncomputable def e_M_settle (μ : zM) : Option (((Int × Int × zM) ⊕ (Int × Int × Int × zM)) ⊕ (Int × zM)) :=
  (f_M_layLamps  μ).bind fun q1 =>
  (f_M_houses  q1).bind fun q2 =>
  some (.inl (.inl ((q2, 0, q1))))
noncomputable def t_M_settle : ((Int × Int × zM) ⊕ (Int × Int × Int × zM)) → Option (((Int × Int × zM) ⊕ (Int × Int × Int × zM)) ⊕ (Int × zM)) := fun s => match s with
  | .inl (s) => b_M_settle_11 s.1 s.2.1 s.2.2
  | .inr (s) => b_M_settle_34 s.1 s.2.1 s.2.2.1 s.2.2.2
noncomputable def f_M_settle (μ : zM) : Option (Int × zM) := zgo (t_M_settle) (e_M_settle μ)
/-! RoofLentModel.rings()I -/
noncomputable def b_M_rings_13 (v1 v2 v3 : Int) (μ : zM) : Option (((Int × Int × Int × zM) ⊕ (Int × Int × Int × zM) ⊕ (Int × Int × Int × Int × zM) ⊕ (Int × Int × Int × Int × zM) ⊕ (Int × Int × Int × Int × zM) ⊕ (Int × Int × Int × Int × Int × zM)) ⊕ (Int × zM)) :=
  if v3 < v1 then
    some (.inl (.inr (.inr (.inl ((v1, v2, v3, 0, μ))))))
  else
    some (.inl (.inr (.inl ((v1, v2, 0, μ)))))
noncomputable def b_M_rings_79 (v1 v2 v3 : Int) (μ : zM) : Option (((Int × Int × Int × zM) ⊕ (Int × Int × Int × zM) ⊕ (Int × Int × Int × Int × zM) ⊕ (Int × Int × Int × Int × zM) ⊕ (Int × Int × Int × Int × zM) ⊕ (Int × Int × Int × Int × Int × zM)) ⊕ (Int × zM)) :=
  if v3 < v1 then
    some (.inl (.inr (.inr (.inr (.inr (.inl ((v1, v2, v3, 0, μ))))))))
  else
    some (.inl (.inr (.inr (.inr (.inl ((v1, v2, 0, 0, μ)))))))
noncomputable def b_M_rings_21 (v1 v2 v3 v4 : Int) (μ : zM) : Option (((Int × Int × Int × zM) ⊕ (Int × Int × Int × zM) ⊕ (Int × Int × Int × Int × zM) ⊕ (Int × Int × Int × Int × zM) ⊕ (Int × Int × Int × Int × zM) ⊕ (Int × Int × Int × Int × Int × zM)) ⊕ (Int × zM)) :=
  if v4 < v3 then
    if 0 ≤ z32 ((z32 (12 * v3)) + v4) ∧ z32 ((z32 (12 * v3)) + v4) < 144 then
      if 0 < μ 51 (z32 ((z32 (12 * v3)) + v4)).toNat then
        if 0 ≤ z32 ((z32 (12 * v4)) + v3) ∧ z32 ((z32 (12 * v4)) + v3) < 144 then
          if 0 < μ 51 (z32 ((z32 (12 * v4)) + v3)).toNat then
            some (.inl (.inr (.inr (.inl ((v1, z32 (v2 + 1), v3, z32 (v4 + 1), μ))))))
          else
            some (.inl (.inr (.inr (.inl ((v1, z32 (v2 + 0), v3, z32 (v4 + 1), μ))))))
        else none
      else
        some (.inl (.inr (.inr (.inl ((v1, z32 (v2 + 0), v3, z32 (v4 + 1), μ))))))
    else none
  else
    some (.inl (.inl ((v1, v2, z32 (v3 + 1), μ))))
noncomputable def b_M_rings_192 (v1 v2 v3 v4 : Int) (μ : zM) : Option (((Int × Int × Int × zM) ⊕ (Int × Int × Int × zM) ⊕ (Int × Int × Int × Int × zM) ⊕ (Int × Int × Int × Int × zM) ⊕ (Int × Int × Int × Int × zM) ⊕ (Int × Int × Int × Int × Int × zM)) ⊕ (Int × zM)) :=
  if v4 < v1 then
    if 0 ≤ z32 ((z32 (12 * v4)) + v4) ∧ z32 ((z32 (12 * v4)) + v4) < 144 then
      if 0 < μ 51 (z32 ((z32 (12 * v4)) + v4)).toNat then
        some (.inl (.inr (.inr (.inr (.inl ((v1, v2, zor v3 (zshl 1 v4), z32 (v4 + 1), μ)))))))
      else
        some (.inl (.inr (.inr (.inr (.inl ((v1, v2, zor v3 0, z32 (v4 + 1), μ)))))))
    else none
  else
    (f_M_tells v2 v3 μ).bind fun q3 =>
    some (.inr (q3.1, q3.2))
noncomputable def b_M_rings_87 (v1 v2 v3 v4 : Int) (μ : zM) : Option (((Int × Int × Int × zM) ⊕ (Int × Int × Int × zM) ⊕ (Int × Int × Int × Int × zM) ⊕ (Int × Int × Int × Int × zM) ⊕ (Int × Int × Int × Int × zM) ⊕ (Int × Int × Int × Int × Int × zM)) ⊕ (Int × zM)) :=
  if v4 < v1 then
    some (.inl (.inr (.inr (.inr (.inr (.inr ((v1, v2, v3, v4, 0, μ))))))))
  else
    some (.inl (.inr (.inl ((v1, v2, z32 (v3 + 1), μ)))))
noncomputable def b_M_rings_96 (v1 v2 v3 v4 v5 : Int) (μ : zM) : Option (((Int × Int × Int × zM) ⊕ (Int × Int × Int × zM) ⊕ (Int × Int × Int × Int × zM) ⊕ (Int × Int × Int × Int × zM) ⊕ (Int × Int × Int × Int × zM) ⊕ (Int × Int × Int × Int × Int × zM)) ⊕ (Int × zM)) :=
  if v5 < v1 then
    if 0 ≤ z32 ((z32 (12 * v4)) + v5) ∧ z32 ((z32 (12 * v4)) + v5) < 144 then
      if 0 ≤ z32 ((z32 (12 * v4)) + v5) ∧ z32 ((z32 (12 * v4)) + v5) < 144 then
        if μ 51 (z32 ((z32 (12 * v4)) + v5)).toNat = 0 then
          if 0 ≤ z32 ((z32 (12 * v4)) + v3) ∧ z32 ((z32 (12 * v4)) + v3) < 144 then
            if 0 < μ 51 (z32 ((z32 (12 * v4)) + v3)).toNat then
              if 0 ≤ z32 ((z32 (12 * v3)) + v5) ∧ z32 ((z32 (12 * v3)) + v5) < 144 then
                if 0 < μ 51 (z32 ((z32 (12 * v3)) + v5)).toNat then
                  if 0 ≤ z32 ((z32 (12 * v4)) + v5) ∧ z32 ((z32 (12 * v4)) + v5) < 144 then
                    some (.inl (.inr (.inr (.inr (.inr (.inr ((v1, v2, v3, v4, z32 (v5 + 1), zst μ 51 (z32 ((z32 (12 * v4)) + v5)).toNat (z32 ((μ 51 (z32 ((z32 (12 * v4)) + v5)).toNat) + 1))))))))))
                  else none
                else
                  if 0 ≤ z32 ((z32 (12 * v4)) + v5) ∧ z32 ((z32 (12 * v4)) + v5) < 144 then
                    some (.inl (.inr (.inr (.inr (.inr (.inr ((v1, v2, v3, v4, z32 (v5 + 1), zst μ 51 (z32 ((z32 (12 * v4)) + v5)).toNat (z32 ((μ 51 (z32 ((z32 (12 * v4)) + v5)).toNat) + 0))))))))))
                  else none
              else none
            else
              if 0 ≤ z32 ((z32 (12 * v4)) + v5) ∧ z32 ((z32 (12 * v4)) + v5) < 144 then
                some (.inl (.inr (.inr (.inr (.inr (.inr ((v1, v2, v3, v4, z32 (v5 + 1), zst μ 51 (z32 ((z32 (12 * v4)) + v5)).toNat (z32 ((μ 51 (z32 ((z32 (12 * v4)) + v5)).toNat) + 0))))))))))
              else none
          else none
        else
          if 0 ≤ z32 ((z32 (12 * v4)) + v5) ∧ z32 ((z32 (12 * v4)) + v5) < 144 then
            some (.inl (.inr (.inr (.inr (.inr (.inr ((v1, v2, v3, v4, z32 (v5 + 1), zst μ 51 (z32 ((z32 (12 * v4)) + v5)).toNat (z32 ((μ 51 (z32 ((z32 (12 * v4)) + v5)).toNat) + 0))))))))))
          else none
      else none
    else none
  else
    some (.inl (.inr (.inr (.inr (.inr (.inl ((v1, v2, v3, z32 (v4 + 1), μ))))))))
noncomputable def e_M_rings (μ : zM) : Option (((Int × Int × Int × zM) ⊕ (Int × Int × Int × zM) ⊕ (Int × Int × Int × Int × zM) ⊕ (Int × Int × Int × Int × zM) ⊕ (Int × Int × Int × Int × zM) ⊕ (Int × Int × Int × Int × Int × zM)) ⊕ (Int × zM)) :=
  (f_M_layLamps  μ).bind fun q1 =>
  (f_M_houses  q1).bind fun q2 =>
  some (.inl (.inl ((q2, 0, 0, q1))))
noncomputable def t_M_rings : ((Int × Int × Int × zM) ⊕ (Int × Int × Int × zM) ⊕ (Int × Int × Int × Int × zM) ⊕ (Int × Int × Int × Int × zM) ⊕ (Int × Int × Int × Int × zM) ⊕ (Int × Int × Int × Int × Int × zM)) → Option (((Int × Int × Int × zM) ⊕ (Int × Int × Int × zM) ⊕ (Int × Int × Int × Int × zM) ⊕ (Int × Int × Int × Int × zM) ⊕ (Int × Int × Int × Int × zM) ⊕ (Int × Int × Int × Int × Int × zM)) ⊕ (Int × zM)) := fun s => match s with
  | .inl (s) => b_M_rings_13 s.1 s.2.1 s.2.2.1 s.2.2.2
  | .inr (.inl (s)) => b_M_rings_79 s.1 s.2.1 s.2.2.1 s.2.2.2
  | .inr (.inr (.inl (s))) => b_M_rings_21 s.1 s.2.1 s.2.2.1 s.2.2.2.1 s.2.2.2.2
  | .inr (.inr (.inr (.inl (s)))) => b_M_rings_192 s.1 s.2.1 s.2.2.1 s.2.2.2.1 s.2.2.2.2
  | .inr (.inr (.inr (.inr (.inl (s))))) => b_M_rings_87 s.1 s.2.1 s.2.2.1 s.2.2.2.1 s.2.2.2.2
  | .inr (.inr (.inr (.inr (.inr (s))))) => b_M_rings_96 s.1 s.2.1 s.2.2.1 s.2.2.2.1 s.2.2.2.2.1 s.2.2.2.2.2
noncomputable def f_M_rings (μ : zM) : Option (Int × zM) := zgo (t_M_rings) (e_M_rings μ)
/-! RoofLentModel.isBuilt(II)Z -/
noncomputable def j_M_isBuilt_30 (v1 : Int) (v2 : Int) (w0 : Int) (μ : zM) : Option (Int × zM) :=
  if 0 ≤ z32 (1 + v1) ∧ z32 (1 + v1) < 10956 then
    if w0 = 0 then
      if 0 ≤ z32 (1 + v1) ∧ z32 (1 + v1) < 10956 then
        if w0 = 0 ∨ w0 = 1 then
          some (w0, zst μ 43 (z32 (1 + v1)).toNat (z32 ((μ 43 (z32 (1 + v1)).toNat) - 1)))
        else none
      else none
    else
      if 0 ≤ z32 (1 + v1) ∧ z32 (1 + v1) < 10956 then
        if w0 = 0 ∨ w0 = 1 then
          some (w0, zst μ 43 (z32 (1 + v1)).toNat (z32 ((μ 43 (z32 (1 + v1)).toNat) - 0)))
        else none
      else none
  else none
noncomputable def f_M_isBuilt (v1 : Int) (v2 : Int) (μ : zM) : Option (Int × zM) :=
  (f_M_hasRoom v1 μ).bind fun q1 =>
  if q1 = 0 then
    if q1 = 0 ∨ q1 = 1 then
      some (q1, μ)
    else none
  else
    (f_M_adds 0 v1 0 v2 μ).bind fun q2 =>
    (f_M_swaying  q2).bind fun q3 =>
    if q3 = 0 then
      j_M_isBuilt_30 v1 v2 1 q2
    else
      j_M_isBuilt_30 v1 v2 0 q2
/-! RoofLentModel.winsBy(II)Z -/
noncomputable def j_M_winsBy_76 (v1 : Int) (v2 : Int) (v3 w0 : Int) (μ : zM) : Option ((Int × zM) ⊕ (Int × zM)) :=
  if v3 = 0 then
    if w0 = 0 ∨ w0 = 1 then
      some (.inr (w0, μ))
    else none
  else
    if 0 ≤ z32 (v3 + (-1)) ∧ z32 (v3 + (-1)) < 5 then
      if 0 ≤ z32 (1 + (μ 54 (z32 (v3 + (-1))).toNat)) ∧ z32 (1 + (μ 54 (z32 (v3 + (-1))).toNat)) < 10956 then
        if 0 ≤ z32 (1 + (μ 54 (z32 (v3 + (-1))).toNat)) ∧ z32 (1 + (μ 54 (z32 (v3 + (-1))).toNat)) < 10956 then
          if 0 ≤ z32 (v3 + (-1)) ∧ z32 (v3 + (-1)) < 5 then
            if (zst μ 43 (z32 (1 + (μ 54 (z32 (v3 + (-1))).toNat))).toNat (z32 ((μ 43 (z32 (1 + (μ 54 (z32 (v3 + (-1))).toNat))).toNat) - 1))) 55 (z32 (v3 + (-1))).toNat = 0 then
              if w0 = 0 then
                if (0 ≤ z32 (v3 + (-1)) ∧ z32 (v3 + (-1)) < 5) ∧ ((1 : Int) = 0 ∨ (1 : Int) = 1) then
                  if 0 ≤ z32 (v3 + (-1)) ∧ z32 (v3 + (-1)) < 5 then
                    if 0 ≤ z32 (v3 + (-1)) ∧ z32 (v3 + (-1)) < 5 then
                      some (.inl ((z32 (v3 + (-1)), zst (zst (zst μ 43 (z32 (1 + (μ 54 (z32 (v3 + (-1))).toNat))).toNat (z32 ((μ 43 (z32 (1 + (μ 54 (z32 (v3 + (-1))).toNat))).toNat) - 1))) 55 (z32 (v3 + (-1))).toNat 1) 54 (z32 (v3 + (-1))).toNat (z32 (((zst (zst μ 43 (z32 (1 + (μ 54 (z32 (v3 + (-1))).toNat))).toNat (z32 ((μ 43 (z32 (1 + (μ 54 (z32 (v3 + (-1))).toNat))).toNat) - 1))) 55 (z32 (v3 + (-1))).toNat 1) 54 (z32 (v3 + (-1))).toNat) + 1)))))
                    else none
                  else none
                else none
              else
                if (0 ≤ z32 (v3 + (-1)) ∧ z32 (v3 + (-1)) < 5) ∧ ((0 : Int) = 0 ∨ (0 : Int) = 1) then
                  if 0 ≤ z32 (v3 + (-1)) ∧ z32 (v3 + (-1)) < 5 then
                    if 0 ≤ z32 (v3 + (-1)) ∧ z32 (v3 + (-1)) < 5 then
                      some (.inl ((z32 (v3 + (-1)), zst (zst (zst μ 43 (z32 (1 + (μ 54 (z32 (v3 + (-1))).toNat))).toNat (z32 ((μ 43 (z32 (1 + (μ 54 (z32 (v3 + (-1))).toNat))).toNat) - 1))) 55 (z32 (v3 + (-1))).toNat 0) 54 (z32 (v3 + (-1))).toNat (z32 (((zst (zst μ 43 (z32 (1 + (μ 54 (z32 (v3 + (-1))).toNat))).toNat (z32 ((μ 43 (z32 (1 + (μ 54 (z32 (v3 + (-1))).toNat))).toNat) - 1))) 55 (z32 (v3 + (-1))).toNat 0) 54 (z32 (v3 + (-1))).toNat) + 1)))))
                    else none
                  else none
                else none
            else
              if (0 ≤ z32 (v3 + (-1)) ∧ z32 (v3 + (-1)) < 5) ∧ ((1 : Int) = 0 ∨ (1 : Int) = 1) then
                if 0 ≤ z32 (v3 + (-1)) ∧ z32 (v3 + (-1)) < 5 then
                  if 0 ≤ z32 (v3 + (-1)) ∧ z32 (v3 + (-1)) < 5 then
                    some (.inl ((z32 (v3 + (-1)), zst (zst (zst μ 43 (z32 (1 + (μ 54 (z32 (v3 + (-1))).toNat))).toNat (z32 ((μ 43 (z32 (1 + (μ 54 (z32 (v3 + (-1))).toNat))).toNat) - 1))) 55 (z32 (v3 + (-1))).toNat 1) 54 (z32 (v3 + (-1))).toNat (z32 (((zst (zst μ 43 (z32 (1 + (μ 54 (z32 (v3 + (-1))).toNat))).toNat (z32 ((μ 43 (z32 (1 + (μ 54 (z32 (v3 + (-1))).toNat))).toNat) - 1))) 55 (z32 (v3 + (-1))).toNat 1) 54 (z32 (v3 + (-1))).toNat) + 1)))))
                  else none
                else none
              else none
          else none
        else none
      else none
    else none
noncomputable def j_M_winsBy_75 (v1 : Int) (v2 : Int) (v3 : Int) (μ : zM) : Option ((Int × zM) ⊕ (Int × zM)) :=
  j_M_winsBy_76 v1 v2 v3 0 μ
noncomputable def j_M_winsBy_50 (v1 : Int) (v2 : Int) (v3 w0 : Int) (μ : zM) : Option ((Int × zM) ⊕ (Int × zM)) :=
  if w0 = 0 then
    if 0 ≤ v3 ∧ v3 < 5 then
      (f_M_isBuilt (μ 54 v3.toNat) v1 μ).bind fun q1 =>
      if q1.1 = 0 then
        if 0 ≤ v3 ∧ v3 < 5 then
          if 0 ≤ v3 ∧ v3 < 5 then
            some (.inl ((v3, zst q1.2 54 v3.toNat (z32 ((q1.2 54 v3.toNat) + 1)))))
          else none
        else none
      else if z32 (v3 + 1) < v2 then
        if 0 ≤ z32 (v3 + 1) ∧ z32 (v3 + 1) < 5 then
          if (0 ≤ z32 (v3 + 1) ∧ z32 (v3 + 1) < 5) ∧ ((0 : Int) = 0 ∨ (0 : Int) = 1) then
            some (.inl ((z32 (v3 + 1), zst (zst q1.2 54 (z32 (v3 + 1)).toNat 0) 55 (z32 (v3 + 1)).toNat 0)))
          else none
        else none
      else
        some (.inl ((z32 (v3 + 1), q1.2)))
    else none
  else if v3 < v2 then
    if 0 ≤ v3 ∧ v3 < 5 then
      if μ 55 v3.toNat = 0 then
        j_M_winsBy_75 v1 v2 v3 μ
      else
        j_M_winsBy_76 v1 v2 v3 1 μ
    else none
  else
    j_M_winsBy_75 v1 v2 v3 μ
noncomputable def j_M_winsBy_45 (v1 : Int) (v2 : Int) (v3 : Int) (μ : zM) : Option ((Int × zM) ⊕ (Int × zM)) :=
  j_M_winsBy_50 v1 v2 v3 1 μ
noncomputable def b_M_winsBy_16 (v1 : Int) (v2 : Int) (v3 : Int) (μ : zM) : Option ((Int × zM) ⊕ (Int × zM)) :=
  if v3 = v2 then
    j_M_winsBy_45 v1 v2 v3 μ
  else
    if 0 ≤ v3 ∧ v3 < 5 then
      if μ 55 v3.toNat = 0 then
        if 0 ≤ v3 ∧ v3 < 5 then
          if μ 54 v3.toNat = μ 43 0 then
            j_M_winsBy_45 v1 v2 v3 μ
          else
            j_M_winsBy_50 v1 v2 v3 0 μ
        else none
      else
        j_M_winsBy_45 v1 v2 v3 μ
    else none
noncomputable def e_M_winsBy (v1 : Int) (v2 : Int) (μ : zM) : Option ((Int × zM) ⊕ (Int × zM)) :=
  some (.inl ((0, zst (zst μ 54 0 0) 55 0 0)))
noncomputable def t_M_winsBy (v1 : Int) (v2 : Int) : (Int × zM) → Option ((Int × zM) ⊕ (Int × zM)) := fun s => b_M_winsBy_16 v1 v2 s.1 s.2
noncomputable def f_M_winsBy (v1 : Int) (v2 : Int) (μ : zM) : Option (Int × zM) := zgo (t_M_winsBy v1 v2) (e_M_winsBy v1 v2 μ)
/-! RoofLentModel.isGame(II)Z (total) -/
def f_M_isGame (v1 : Int) (v2 : Int) : Int :=
  if f_M_in v1 0 9 = 0 then
    0
  else if f_M_in v2 0 4 = 0 then
    0
  else
    1
def fo_M_isGame (v1 : Int) (v2 : Int) : Option Int :=
  if f_M_in v1 0 9 = 0 then
    some 0
  else if f_M_in v2 0 4 = 0 then
    some 0
  else
    some 1
theorem fo_M_isGame_eq (v1 : Int) (v2 : Int) : fo_M_isGame v1 v2 = some (f_M_isGame v1 v2) := by
  unfold fo_M_isGame f_M_isGame
  simp only [zsome_ite]
theorem b_M_isGame (v1 : Int) (v2 : Int) : f_M_isGame v1 v2 = 0 ∨ f_M_isGame v1 v2 = 1 := by
  unfold f_M_isGame
  repeat' split
  all_goals first | exact Or.inl rfl | exact Or.inr rfl
/-! RoofLentModel.game(II)I -/
noncomputable def f_M_game (v1 : Int) (v2 : Int) (μ : zM) : Option (Int × zM) :=
  if f_M_isGame v1 v2 = 0 then
    some ((-1), μ)
  else if f_M_isNone  μ = 0 then
    (f_M_winsBy v1 v2 μ).bind fun q1 =>
    if q1.1 = 0 then
      some (0, q1.2)
    else
      some (1, q1.2)
  else
    some ((-4), μ)
/-! RoofLentModel.begin(II)I -/
noncomputable def j_M_begin_62 (v1 : Int) (v2 : Int) (v3 w0 : Int) (μ : zM) : Option ((Int × zM) ⊕ (Int × zM)) :=
  if 0 ≤ z32 (1 + v3) ∧ z32 (1 + v3) < 10956 then
    if 0 ≤ z32 (1 + v3) ∧ z32 (1 + v3) < 10956 then
      if w0 = 0 then
        some (.inl ((z32 (v3 + 1), zst μ 43 (z32 (1 + v3)).toNat (z32 ((μ 43 (z32 (1 + v3)).toNat) - 1)))))
      else
        some (.inr (v3, zst μ 43 (z32 (1 + v3)).toNat (z32 ((μ 43 (z32 (1 + v3)).toNat) - 1))))
    else none
  else none
noncomputable def b_M_begin_23 (v1 : Int) (v2 : Int) (v3 : Int) (μ : zM) : Option ((Int × zM) ⊕ (Int × zM)) :=
  if v3 < μ 43 0 then
    if 0 < v2 then
      (f_M_isBuilt v3 v1 μ).bind fun q1 =>
      if q1.1 = 0 then
        some (.inl ((z32 (v3 + 1), q1.2)))
      else
        (f_M_winsBy v1 (z32 (v2 - 1)) q1.2).bind fun q2 =>
        if q2.1 = 0 then
          j_M_begin_62 v1 v2 v3 1 q2.2
        else
          j_M_begin_62 v1 v2 v3 0 q2.2
    else
      some (.inr ((-9), μ))
  else
    some (.inr ((-9), μ))
noncomputable def e_M_begin (v1 : Int) (v2 : Int) (μ : zM) : Option ((Int × zM) ⊕ (Int × zM)) :=
  if f_M_isGame v1 v2 = 0 then
    some (.inr ((-1), μ))
  else if f_M_isNone  μ = 0 then
    some (.inl ((0, μ)))
  else
    some (.inr ((-4), μ))
noncomputable def t_M_begin (v1 : Int) (v2 : Int) : (Int × zM) → Option ((Int × zM) ⊕ (Int × zM)) := fun s => b_M_begin_23 v1 v2 s.1 s.2
noncomputable def f_M_begin (v1 : Int) (v2 : Int) (μ : zM) : Option (Int × zM) := zgo (t_M_begin v1 v2) (e_M_begin v1 v2 μ)
/-! RoofLentModel.isSeen(II)Z -/
noncomputable def b_M_isSeen_5 (v1 : Int) (v2 : Int) (v3 v4 : Int) (μ : zM) : Option ((Int × Int) ⊕ Int) :=
  (f_M_houses  μ).bind fun q1 =>
  if v4 < q1 then
    if v3 = 0 then
      some (.inl ((0, z32 (v4 + 1))))
    else
      (f_M_towerOf v4 μ).bind fun q2 =>
      (f_M_storeyOf v4 μ).bind fun q3 =>
      (f_M_lightBy q2 q3 v2 μ).bind fun q4 =>
      if 0 ≤ z32 ((z32 (40 * v1)) + v4) ∧ z32 ((z32 (40 * v1)) + v4) < 240 then
        if q4 = μ 45 (z32 ((z32 (40 * v1)) + v4)).toNat then
          some (.inl ((1, z32 (v4 + 1))))
        else
          some (.inl ((0, z32 (v4 + 1))))
      else none
  else
    if v3 = 0 ∨ v3 = 1 then
      some (.inr v3)
    else none
noncomputable def e_M_isSeen (v1 : Int) (v2 : Int) (μ : zM) : Option ((Int × Int) ⊕ Int) :=
  some (.inl ((1, 0)))
noncomputable def t_M_isSeen (v1 : Int) (v2 : Int) (μ : zM) : (Int × Int) → Option ((Int × Int) ⊕ Int) := fun s => b_M_isSeen_5 v1 v2 s.1 s.2 μ
noncomputable def f_M_isSeen (v1 : Int) (v2 : Int) (μ : zM) : Option Int := zgo (t_M_isSeen v1 v2 μ) (e_M_isSeen v1 v2 μ)
/-! RoofLentModel.fog(I)I -/
noncomputable def j_M_fog_82 (v1 : Int) (v2 v4 v5 w0 : Int) (μ : zM) : Option ((Int × Int × Int × zM) ⊕ (Int × zM)) :=
  if v5 = 0 then
    some (.inl ((z32 (v2 + 0), w0, z32 (v4 + 1), μ)))
  else
    some (.inl ((z32 (v2 + 1), w0, z32 (v4 + 1), μ)))
noncomputable def j_M_fog_81 (v1 : Int) (v2 v3 v4 v5 : Int) (μ : zM) : Option ((Int × Int × Int × zM) ⊕ (Int × zM)) :=
  j_M_fog_82 v1 v2 v4 v5 v3 μ
noncomputable def b_M_fog_51 (v1 : Int) (v2 v3 v4 : Int) (μ : zM) : Option ((Int × Int × Int × zM) ⊕ (Int × zM)) :=
  if v4 < 32 then
    (f_M_isSeen v1 v4 μ).bind fun q5 =>
    if q5 = 0 then
      j_M_fog_81 v1 v2 v3 v4 q5 μ
    else if v2 = 0 then
      j_M_fog_82 v1 v2 v4 q5 v4 μ
    else
      j_M_fog_81 v1 v2 v3 v4 q5 μ
  else
    (f_M_tells v3 v2 μ).bind fun q4 =>
    some (.inr (q4.1, q4.2))
noncomputable def e_M_fog (v1 : Int) (μ : zM) : Option ((Int × Int × Int × zM) ⊕ (Int × zM)) :=
  if f_M_isRow v1 = 0 then
    some (.inr ((-1), μ))
  else
    if 0 ≤ v1 ∧ v1 < 6 then
      if μ 46 v1.toNat < 0 then
        (f_M_found 1 μ).bind fun q3 =>
        some (.inr (q3.1, q3.2))
      else
        if 0 ≤ v1 ∧ v1 < 6 then
          (f_M_houses  μ).bind fun q1 =>
          if μ 46 v1.toNat = q1 then
            some (.inl ((0, (-9), 0, μ)))
          else
            (f_M_found 5 μ).bind fun q2 =>
            some (.inr (q2.1, q2.2))
        else none
    else none
noncomputable def t_M_fog (v1 : Int) : (Int × Int × Int × zM) → Option ((Int × Int × Int × zM) ⊕ (Int × zM)) := fun s => b_M_fog_51 v1 s.1 s.2.1 s.2.2.1 s.2.2.2
noncomputable def f_M_fog (v1 : Int) (μ : zM) : Option (Int × zM) := zgo (t_M_fog v1) (e_M_fog v1 μ)
/-! RoofLentModel.kinds(III)I -/
noncomputable def b_M_kinds_81 (v1 : Int) (v2 : Int) (v3 : Int) (v4 v5 v6 : Int) (μ : zM) : Option ((Int × Int × Int × zM) ⊕ (Int × zM)) :=
  if v6 < 6 then
    if 0 ≤ z32 ((z32 (6 + (z32 (6 * v1)))) + v2) ∧ z32 ((z32 (6 + (z32 (6 * v1)))) + v2) < 10956 then
      (f_M_isSeen v3 0 (zst μ 43 (z32 ((z32 (6 + (z32 (6 * v1)))) + v2)).toNat v6)).bind fun q7 =>
      if q7 = 0 then
        some (.inl ((v4, zor v5 0, z32 (v6 + 1), zst μ 43 (z32 ((z32 (6 + (z32 (6 * v1)))) + v2)).toNat v6)))
      else
        some (.inl ((v4, zor v5 (zshl 1 v6), z32 (v6 + 1), zst μ 43 (z32 ((z32 (6 + (z32 (6 * v1)))) + v2)).toNat v6)))
    else none
  else
    if 0 ≤ z32 ((z32 (6 + (z32 (6 * v1)))) + v2) ∧ z32 ((z32 (6 + (z32 (6 * v1)))) + v2) < 10956 then
      some (.inr (v5, zst μ 43 (z32 ((z32 (6 + (z32 (6 * v1)))) + v2)).toNat v4))
    else none
noncomputable def e_M_kinds (v1 : Int) (v2 : Int) (v3 : Int) (μ : zM) : Option ((Int × Int × Int × zM) ⊕ (Int × zM)) :=
  if f_M_isTold v1 v2 μ = 0 then
    some (.inr ((-1), μ))
  else if f_M_isRow v3 = 0 then
    some (.inr ((-1), μ))
  else
    (f_M_isThere v1 v2 μ).bind fun q1 =>
    if q1 = 0 then
      (f_M_found 2 μ).bind fun q6 =>
      some (.inr (q6.1, q6.2))
    else
      if 0 ≤ v3 ∧ v3 < 6 then
        if μ 46 v3.toNat < 0 then
          (f_M_found 1 μ).bind fun q5 =>
          some (.inr (q5.1, q5.2))
        else
          if 0 ≤ v3 ∧ v3 < 6 then
            (f_M_houses  μ).bind fun q2 =>
            if μ 46 v3.toNat = q2 then
              (f_M_kindAt v1 v2 μ).bind fun q3 =>
              some (.inl ((q3, 0, 0, μ)))
            else
              (f_M_found 5 μ).bind fun q4 =>
              some (.inr (q4.1, q4.2))
          else none
      else none
noncomputable def t_M_kinds (v1 : Int) (v2 : Int) (v3 : Int) : (Int × Int × Int × zM) → Option ((Int × Int × Int × zM) ⊕ (Int × zM)) := fun s => b_M_kinds_81 v1 v2 v3 s.1 s.2.1 s.2.2.1 s.2.2.2
noncomputable def f_M_kinds (v1 : Int) (v2 : Int) (v3 : Int) (μ : zM) : Option (Int × zM) := zgo (t_M_kinds v1 v2 v3) (e_M_kinds v1 v2 v3 μ)
/-! RoofLentModel.odds(II)I -/
noncomputable def j_M_odds_48 (v1 : Int) (v2 : Int) (v3 w1 : Int) (μ : zM) : Option (Int × zM) :=
  if v3 = 5 then
    some (1, zst (zst μ 42 11 w1) 42 12 1)
  else if v3 = 0 then
    some (1, zst (zst μ 42 11 w1) 42 12 1)
  else
    some (1, zst (zst μ 42 11 w1) 42 12 5)
noncomputable def f_M_odds (v1 : Int) (v2 : Int) (μ : zM) : Option (Int × zM) :=
  if f_M_isTold v1 v2 μ = 0 then
    some ((-1), μ)
  else
    (f_M_isThere v1 v2 μ).bind fun q1 =>
    if q1 = 0 then
      (f_M_found 2 μ).bind fun q4 =>
      some (q4.1, q4.2)
    else
      (f_M_hoursOf v1 v2 μ).bind fun q2 =>
      (f_M_ones q2).bind fun q3 =>
      if q3 = 5 then
        j_M_odds_48 v1 v2 q3 1 μ
      else
        j_M_odds_48 v1 v2 q3 q3 μ
/-! RoofLentModel.lots(II)I -/
noncomputable def b_M_lots_59 (v1 : Int) (v2 : Int) (v3 v5 v6 : Int) (μ : zM) : Option ((Int × Int × Int × zM) ⊕ (Int × zM)) :=
  if v6 < v1 then
    if ¬ μ 43 0 = 0 then
      (f_M_hasRoom (z32 (zlrem (zlrem (z64 (v3 * 48271)) 2147483647) (μ 43 0))) μ).bind fun q1 =>
      if q1 = 0 then
        some (.inl ((zlrem (z64 (v3 * 48271)) 2147483647, v5, z32 (v6 + 1), μ)))
      else
        (f_M_minds  μ).bind fun q2 =>
        (f_M_adds 0 (z32 (zlrem (zlrem (z64 (v3 * 48271)) 2147483647) (μ 43 0))) (z32 (zlrem (zldiv (zlrem (z64 (v3 * 48271)) 2147483647) 8) 6)) (z32 (zlrem (zldiv (zlrem (z64 (v3 * 48271)) 2147483647) 64) 10)) q2).bind fun q3 =>
        some (.inl ((zlrem (z64 (v3 * 48271)) 2147483647, z32 (v5 + 1), z32 (v6 + 1), q3)))
    else none
  else
    some (.inr (v5, μ))
noncomputable def e_M_lots (v1 : Int) (v2 : Int) (μ : zM) : Option ((Int × Int × Int × zM) ⊕ (Int × zM)) :=
  if f_M_in v1 1 12 = 0 then
    some (.inr ((-1), μ))
  else if f_M_in v2 1 2147483646 = 0 then
    some (.inr ((-1), μ))
  else if f_M_isNone  μ = 0 then
    if 40 < z32 ((μ 42 1) + v1) then
      some (.inr ((-2), μ))
    else
      some (.inl ((v2, 0, 0, μ)))
  else
    some (.inr ((-4), μ))
noncomputable def t_M_lots (v1 : Int) (v2 : Int) : (Int × Int × Int × zM) → Option ((Int × Int × Int × zM) ⊕ (Int × zM)) := fun s => b_M_lots_59 v1 v2 s.1 s.2.1 s.2.2.1 s.2.2.2
noncomputable def f_M_lots (v1 : Int) (v2 : Int) (μ : zM) : Option (Int × zM) := zgo (t_M_lots v1 v2) (e_M_lots v1 v2 μ)
/-! RoofLentModel.asked()I (total) -/
def f_M_asked (μ : zM) : Int :=
  μ 42 10
def fo_M_asked (μ : zM) : Option Int :=
  some (μ 42 10)
theorem fo_M_asked_eq (μ : zM) : fo_M_asked μ = some (f_M_asked μ) := by
  unfold fo_M_asked f_M_asked
  simp only [zsome_ite]
/-! RoofLentModel.upper()J (total) -/
def f_M_upper (μ : zM) : Int :=
  μ 42 11
def fo_M_upper (μ : zM) : Option Int :=
  some (μ 42 11)
theorem fo_M_upper_eq (μ : zM) : fo_M_upper μ = some (f_M_upper μ) := by
  unfold fo_M_upper f_M_upper
  simp only [zsome_ite]
/-! RoofLentModel.lower()J (total) -/
def f_M_lower (μ : zM) : Int :=
  μ 42 12
def fo_M_lower (μ : zM) : Option Int :=
  some (μ 42 12)
theorem fo_M_lower_eq (μ : zM) : fo_M_lower μ = some (f_M_lower μ) := by
  unfold fo_M_lower f_M_lower
  simp only [zsome_ite]
/-! RoofLentModel.kindsMany(Z)I -/
noncomputable def b_M_kindsMany_4 (v1 : Int) (v2 v3 : Int) (μ : zM) : Option (((Int × Int) ⊕ (Int × Int × Int)) ⊕ Int) :=
  if v3 < μ 43 0 then
    some (.inl (.inr ((v2, v3, 0))))
  else
    some (.inr v2)
noncomputable def b_M_kindsMany_17 (v1 : Int) (v2 v3 v4 : Int) (μ : zM) : Option (((Int × Int) ⊕ (Int × Int × Int)) ⊕ Int) :=
  if 0 ≤ z32 (1 + v3) ∧ z32 (1 + v3) < 10956 then
    if v4 < μ 43 (z32 (1 + v3)).toNat then
      if v1 = 0 then
        (f_M_kindAt v3 v4 μ).bind fun q1 =>
        if f_M_isLeaning q1 = 0 then
          some (.inl (.inr ((z32 (v2 + 0), v3, z32 (v4 + 1)))))
        else
          some (.inl (.inr ((z32 (v2 + 1), v3, z32 (v4 + 1)))))
      else
        (f_M_kindAt v3 v4 μ).bind fun q2 =>
        if f_M_isGlass q2 = 0 then
          some (.inl (.inr ((z32 (v2 + 0), v3, z32 (v4 + 1)))))
        else
          some (.inl (.inr ((z32 (v2 + 1), v3, z32 (v4 + 1)))))
    else
      some (.inl (.inl ((v2, z32 (v3 + 1)))))
  else none
noncomputable def e_M_kindsMany (v1 : Int) (μ : zM) : Option (((Int × Int) ⊕ (Int × Int × Int)) ⊕ Int) :=
  some (.inl (.inl ((0, 0))))
noncomputable def t_M_kindsMany (v1 : Int) (μ : zM) : ((Int × Int) ⊕ (Int × Int × Int)) → Option (((Int × Int) ⊕ (Int × Int × Int)) ⊕ Int) := fun s => match s with
  | .inl (s) => b_M_kindsMany_4 v1 s.1 s.2 μ
  | .inr (s) => b_M_kindsMany_17 v1 s.1 s.2.1 s.2.2 μ
noncomputable def f_M_kindsMany (v1 : Int) (μ : zM) : Option Int := zgo (t_M_kindsMany v1 μ) (e_M_kindsMany v1 μ)
/-! RoofLentModel.thereOf([II)I -/
noncomputable def b_M_thereOf_4 (o0 : Nat) (v1 : Int) (v2 v3 : Int) (μ : zM) : Option ((Int × Int) ⊕ Int) :=
  if v3 < v1 then
    if 0 ≤ v3 ∧ v3 < zsz o0 then
      if μ o0 v3.toNat < 0 then
        some (.inl ((z32 (v2 + 0), z32 (v3 + 1))))
      else
        some (.inl ((z32 (v2 + 1), z32 (v3 + 1))))
    else none
  else
    some (.inr v2)
noncomputable def e_M_thereOf (o0 : Nat) (v1 : Int) (μ : zM) : Option ((Int × Int) ⊕ Int) :=
  some (.inl ((0, 0)))
noncomputable def t_M_thereOf (o0 : Nat) (v1 : Int) (μ : zM) : (Int × Int) → Option ((Int × Int) ⊕ Int) := fun s => b_M_thereOf_4 o0 v1 s.1 s.2 μ
noncomputable def f_M_thereOf (o0 : Nat) (v1 : Int) (μ : zM) : Option Int := zgo (t_M_thereOf o0 v1 μ) (e_M_thereOf o0 v1 μ)
/-! RoofLentModel.highest()I -/
noncomputable def b_M_highest_4 (v1 v2 : Int) (μ : zM) : Option ((Int × Int) ⊕ Int) :=
  if v2 < μ 43 0 then
    if 0 ≤ z32 (1 + v2) ∧ z32 (1 + v2) < 10956 then
      if v1 < μ 43 (z32 (1 + v2)).toNat then
        if 0 ≤ z32 (1 + v2) ∧ z32 (1 + v2) < 10956 then
          some (.inl ((μ 43 (z32 (1 + v2)).toNat, z32 (v2 + 1))))
        else none
      else
        some (.inl ((v1, z32 (v2 + 1))))
    else none
  else
    some (.inr v1)
noncomputable def e_M_highest (μ : zM) : Option ((Int × Int) ⊕ Int) :=
  some (.inl ((0, 0)))
noncomputable def t_M_highest (μ : zM) : (Int × Int) → Option ((Int × Int) ⊕ Int) := fun s => b_M_highest_4 s.1 s.2 μ
noncomputable def f_M_highest (μ : zM) : Option Int := zgo (t_M_highest μ) (e_M_highest μ)
/-! RoofLentModel.count(I)I -/
noncomputable def f_M_count (v1 : Int) (μ : zM) : Option Int :=
  if v1 = 0 then
    some (μ 43 0)
  else if v1 = 1 then
    (f_M_houses  μ).bind fun q3 =>
    some q3
  else if v1 = 2 then
    some (μ 42 1)
  else if v1 = 3 then
    (f_M_highest  μ).bind fun q6 =>
    some q6
  else if v1 = 4 then
    (f_M_kindsMany 1 μ).bind fun q8 =>
    some q8
  else if v1 = 5 then
    (f_M_kindsMany 0 μ).bind fun q10 =>
    some q10
  else if v1 = 6 then
    (f_M_thereOf 46 6 μ).bind fun q12 =>
    some q12
  else if v1 = 7 then
    (f_M_thereOf 48 4 μ).bind fun q14 =>
    some q14
  else if v1 = 8 then
    (f_M_thereOf 44 3 μ).bind fun q16 =>
    some q16
  else
    some (-1)
/-! RoofLentModel.finding()I (total) -/
def f_M_finding (μ : zM) : Int :=
  μ 42 8
def fo_M_finding (μ : zM) : Option Int :=
  some (μ 42 8)
theorem fo_M_finding_eq (μ : zM) : fo_M_finding μ = some (f_M_finding μ) := by
  unfold fo_M_finding f_M_finding
  simp only [zsome_ite]
/-! RoofLentModel.findings(I)I -/
noncomputable def f_M_findings (v1 : Int) (μ : zM) : Option Int :=
  if f_M_in v1 1 5 = 0 then
    some (-1)
  else
    if 0 ≤ v1 ∧ v1 < 6 then
      some (μ 50 v1.toNat)
    else none
/-! RoofLentModel.mix(J)V -/
noncomputable def f_M_mix (v1 : Int) (μ : zM) : Option zM :=
  some (zst μ 42 18 (z64 ((z64 (31 * (μ 42 18))) + v1)))
/-! RoofLentModel.digest()J -/
noncomputable def b_M_digest_9 (v1 : Int) (μ : zM) : Option (((Int × zM) ⊕ (Int × zM) ⊕ (Int × zM) ⊕ (Int × Int × zM) ⊕ (Int × zM) ⊕ (Int × Int × Int × zM) ⊕ (Int × zM) ⊕ (Int × Int × zM) ⊕ (Int × Int × zM)) ⊕ (Int × zM)) :=
  if v1 < 9 then
    (f_M_count v1 μ).bind fun q2 =>
    (f_M_mix q2 μ).bind fun q3 =>
    some (.inl (.inl ((z32 (v1 + 1), q3))))
  else
    (f_M_layLamps  μ).bind fun q1 =>
    some (.inl (.inr (.inl ((0, q1)))))
noncomputable def b_M_digest_37 (v1 : Int) (μ : zM) : Option (((Int × zM) ⊕ (Int × zM) ⊕ (Int × zM) ⊕ (Int × Int × zM) ⊕ (Int × zM) ⊕ (Int × Int × Int × zM) ⊕ (Int × zM) ⊕ (Int × Int × zM) ⊕ (Int × Int × zM)) ⊕ (Int × zM)) :=
  if v1 < μ 43 0 then
    if 0 ≤ z32 (1 + v1) ∧ z32 (1 + v1) < 10956 then
      (f_M_mix (μ 43 (z32 (1 + v1)).toNat) μ).bind fun q4 =>
      some (.inl (.inr (.inr (.inr (.inl ((v1, 0, q4)))))))
    else none
  else
    some (.inl (.inr (.inr (.inl ((0, μ))))))
noncomputable def b_M_digest_114 (v1 : Int) (μ : zM) : Option (((Int × zM) ⊕ (Int × zM) ⊕ (Int × zM) ⊕ (Int × Int × zM) ⊕ (Int × zM) ⊕ (Int × Int × Int × zM) ⊕ (Int × zM) ⊕ (Int × Int × zM) ⊕ (Int × Int × zM)) ⊕ (Int × zM)) :=
  if v1 < 3 then
    if 0 ≤ v1 ∧ v1 < 3 then
      (f_M_mix (μ 44 v1.toNat) μ).bind fun q5 =>
      some (.inl (.inr (.inr (.inl ((z32 (v1 + 1), q5))))))
    else none
  else
    some (.inl (.inr (.inr (.inr (.inr (.inl ((0, μ))))))))
noncomputable def b_M_digest_62 (v1 v2 : Int) (μ : zM) : Option (((Int × zM) ⊕ (Int × zM) ⊕ (Int × zM) ⊕ (Int × Int × zM) ⊕ (Int × zM) ⊕ (Int × Int × Int × zM) ⊕ (Int × zM) ⊕ (Int × Int × zM) ⊕ (Int × Int × zM)) ⊕ (Int × zM)) :=
  if 0 ≤ z32 (1 + v1) ∧ z32 (1 + v1) < 10956 then
    if v2 < μ 43 (z32 (1 + v1)).toNat then
      some (.inl (.inr (.inr (.inr (.inr (.inr (.inl ((v1, v2, 0, μ)))))))))
    else
      some (.inl (.inr (.inl ((z32 (v1 + 1), μ)))))
  else none
noncomputable def b_M_digest_138 (v1 : Int) (μ : zM) : Option (((Int × zM) ⊕ (Int × zM) ⊕ (Int × zM) ⊕ (Int × Int × zM) ⊕ (Int × zM) ⊕ (Int × Int × Int × zM) ⊕ (Int × zM) ⊕ (Int × Int × zM) ⊕ (Int × Int × zM)) ⊕ (Int × zM)) :=
  if v1 < 6 then
    if 0 ≤ v1 ∧ v1 < 6 then
      (f_M_mix (μ 46 v1.toNat) μ).bind fun q6 =>
      some (.inl (.inr (.inr (.inr (.inr (.inr (.inr (.inr (.inl ((v1, 0, q6)))))))))))
    else none
  else
    some (.inl (.inr (.inr (.inr (.inr (.inr (.inr (.inl ((0, μ))))))))))
noncomputable def b_M_digest_76 (v1 v2 v3 : Int) (μ : zM) : Option (((Int × zM) ⊕ (Int × zM) ⊕ (Int × zM) ⊕ (Int × Int × zM) ⊕ (Int × zM) ⊕ (Int × Int × Int × zM) ⊕ (Int × zM) ⊕ (Int × Int × zM) ⊕ (Int × Int × zM)) ⊕ (Int × zM)) :=
  if v3 < 7 then
    (f_M_houseTells v1 v2 v3 μ).bind fun q7 =>
    (f_M_mix q7 μ).bind fun q8 =>
    some (.inl (.inr (.inr (.inr (.inr (.inr (.inl ((v1, v2, z32 (v3 + 1), q8)))))))))
  else
    some (.inl (.inr (.inr (.inr (.inl ((v1, z32 (v2 + 1), μ)))))))
noncomputable def b_M_digest_197 (v1 : Int) (μ : zM) : Option (((Int × zM) ⊕ (Int × zM) ⊕ (Int × zM) ⊕ (Int × Int × zM) ⊕ (Int × zM) ⊕ (Int × Int × Int × zM) ⊕ (Int × zM) ⊕ (Int × Int × zM) ⊕ (Int × Int × zM)) ⊕ (Int × zM)) :=
  if v1 < 4 then
    if 0 ≤ v1 ∧ v1 < 4 then
      (f_M_mix (μ 48 v1.toNat) μ).bind fun q9 =>
      some (.inl (.inr (.inr (.inr (.inr (.inr (.inr (.inr (.inr ((v1, 0, q9)))))))))))
    else none
  else
    some (.inr (μ 42 18, μ))
noncomputable def b_M_digest_157 (v1 v2 : Int) (μ : zM) : Option (((Int × zM) ⊕ (Int × zM) ⊕ (Int × zM) ⊕ (Int × Int × zM) ⊕ (Int × zM) ⊕ (Int × Int × Int × zM) ⊕ (Int × zM) ⊕ (Int × Int × zM) ⊕ (Int × Int × zM)) ⊕ (Int × zM)) :=
  if 0 ≤ v1 ∧ v1 < 6 then
    if v2 < μ 46 v1.toNat then
      if 0 ≤ z32 ((z32 (40 * v1)) + v2) ∧ z32 ((z32 (40 * v1)) + v2) < 240 then
        (f_M_mix (μ 45 (z32 ((z32 (40 * v1)) + v2)).toNat) μ).bind fun q10 =>
        some (.inl (.inr (.inr (.inr (.inr (.inr (.inr (.inr (.inl ((v1, z32 (v2 + 1), q10)))))))))))
      else none
    else
      some (.inl (.inr (.inr (.inr (.inr (.inl ((z32 (v1 + 1), μ))))))))
  else none
noncomputable def b_M_digest_215 (v1 v2 : Int) (μ : zM) : Option (((Int × zM) ⊕ (Int × zM) ⊕ (Int × zM) ⊕ (Int × Int × zM) ⊕ (Int × zM) ⊕ (Int × Int × Int × zM) ⊕ (Int × zM) ⊕ (Int × Int × zM) ⊕ (Int × Int × zM)) ⊕ (Int × zM)) :=
  if 0 ≤ v1 ∧ v1 < 4 then
    if v2 < μ 48 v1.toNat then
      if 0 ≤ z32 ((z32 (60 * v1)) + v2) ∧ z32 ((z32 (60 * v1)) + v2) < 240 then
        (f_M_mix (μ 47 (z32 ((z32 (60 * v1)) + v2)).toNat) μ).bind fun q11 =>
        some (.inl (.inr (.inr (.inr (.inr (.inr (.inr (.inr (.inr ((v1, z32 (v2 + 1), q11)))))))))))
      else none
    else
      some (.inl (.inr (.inr (.inr (.inr (.inr (.inr (.inl ((z32 (v1 + 1), μ))))))))))
  else none
noncomputable def e_M_digest (μ : zM) : Option (((Int × zM) ⊕ (Int × zM) ⊕ (Int × zM) ⊕ (Int × Int × zM) ⊕ (Int × zM) ⊕ (Int × Int × Int × zM) ⊕ (Int × zM) ⊕ (Int × Int × zM) ⊕ (Int × Int × zM)) ⊕ (Int × zM)) :=
  some (.inl (.inl ((0, zst μ 42 18 17))))
noncomputable def t_M_digest : ((Int × zM) ⊕ (Int × zM) ⊕ (Int × zM) ⊕ (Int × Int × zM) ⊕ (Int × zM) ⊕ (Int × Int × Int × zM) ⊕ (Int × zM) ⊕ (Int × Int × zM) ⊕ (Int × Int × zM)) → Option (((Int × zM) ⊕ (Int × zM) ⊕ (Int × zM) ⊕ (Int × Int × zM) ⊕ (Int × zM) ⊕ (Int × Int × Int × zM) ⊕ (Int × zM) ⊕ (Int × Int × zM) ⊕ (Int × Int × zM)) ⊕ (Int × zM)) := fun s => match s with
  | .inl (s) => b_M_digest_9 s.1 s.2
  | .inr (.inl (s)) => b_M_digest_37 s.1 s.2
  | .inr (.inr (.inl (s))) => b_M_digest_114 s.1 s.2
  | .inr (.inr (.inr (.inl (s)))) => b_M_digest_62 s.1 s.2.1 s.2.2
  | .inr (.inr (.inr (.inr (.inl (s))))) => b_M_digest_138 s.1 s.2
  | .inr (.inr (.inr (.inr (.inr (.inl (s)))))) => b_M_digest_76 s.1 s.2.1 s.2.2.1 s.2.2.2
  | .inr (.inr (.inr (.inr (.inr (.inr (.inl (s))))))) => b_M_digest_197 s.1 s.2
  | .inr (.inr (.inr (.inr (.inr (.inr (.inr (.inl (s)))))))) => b_M_digest_157 s.1 s.2.1 s.2.2
  | .inr (.inr (.inr (.inr (.inr (.inr (.inr (.inr (s)))))))) => b_M_digest_215 s.1 s.2.1 s.2.2
noncomputable def f_M_digest (μ : zM) : Option (Int × zM) := zgo (t_M_digest) (e_M_digest μ)
