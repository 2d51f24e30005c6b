/-! rows and texts, on -/
section AG2
variable {μ : zM} {r i v n r2 i2 : Int}
theorem M_atI (h1 : 0 ≤ r) (h2 : r < 6) (h3 : 0 ≤ i) (h4 : i < μ 46 r.toNat) (h5 : μ 46 r.toNat ≤ 40) : f_M_at r i μ = some (1, zst μ 42 10 (μ 45 (40 * r + i).toNat)) := by
  unfold f_M_at f_M_isRow f_M_tells
  rw [M_in, z_if1 (by omega), if_pos ⟨h1, h2⟩, if_neg (by omega), if_pos ⟨h1, h2⟩, M_in, z32_id (z := μ 46 r.toNat - 1) (by omega) (by omega), z_if1 (by omega), z32_id (z := 40 * r) (by omega) (by omega), z32_id (by omega) (by omega), if_pos (by omega)]
  rfl
theorem M_atN (h : ¬ (0 ≤ r ∧ r < 6)) : f_M_at r i μ = some (-1, μ) := by
  unfold f_M_at f_M_isRow
  rw [M_in, z_if0 (by omega)]
theorem M_atG (h1 : 0 ≤ r) (h2 : r < 6) (h3 : μ 46 r.toNat < 0) : f_M_at r i μ = (f_M_found 1 μ).bind fun q => some (q.1, q.2) := by
  unfold f_M_at f_M_isRow
  rw [M_in, z_if1 (by omega), if_pos ⟨h1, h2⟩, if_pos h3]
theorem M_atO (h1 : 0 ≤ r) (h2 : r < 6) (h3 : ¬ μ 46 r.toNat < 0) (h4 : ¬ (0 ≤ i ∧ i < μ 46 r.toNat)) (h5 : μ 46 r.toNat ≤ 40) : f_M_at r i μ = (f_M_found 2 μ).bind fun q => some (q.1, q.2) := by
  unfold f_M_at f_M_isRow
  rw [M_in, z_if1 (by omega), if_pos ⟨h1, h2⟩, if_neg h3, if_pos ⟨h1, h2⟩, M_in, z32_id (z := μ 46 r.toNat - 1) (by omega) (by omega), z_if0 (by omega)]
theorem A_at (h : Rel μ) : zAg (f_X_at r i μ) (f_M_at r i) := by
  have hs := zSS_of h.2.1
  unfold f_X_at
  rw [S_knows zSC_1]
  by_cases c : 0 ≤ r ∧ r < ((6 : Nat) : Int)
  · have hz : μ (1 + 1) r.toNat = μ 46 r.toNat ∧ -1 ≤ μ (1 + 1) r.toNat ∧ μ (1 + 1) r.toNat ≤ 40 := h.2.1.2.2.1 r.toNat (by omega)
    rw [z_if1 c, S_isThere zSC_1 c.1 c.2, z_some_bind]
    by_cases d : μ (1 + 1) r.toNat < 0
    · rw [z_ifn1 d]
      exact zAg_found h (by omega) (by omega) (fun ν hν => M_atG c.1 c.2 (by rw [hν 46 (by omega) (by omega)]; omega))
    · rw [z_ifn0 d, S_has zSC_1 c.1 c.2, z_some_bind]
      by_cases e : 0 ≤ i ∧ i < μ (1 + 1) r.toNat
      · rw [z_if1 e, S_get zSC_1 hs c.1 c.2 e.1 e.2, z_some_bind]
        have e1 : μ 3 (((40 : Nat) : Int) * r + i).toNat = μ 45 (40 * r + i).toNat := by
          have := h.2.1.2.2.2 r.toNat i.toNat (by omega) (by show ((i.toNat : Nat) : Int) < μ (1 + 1) r.toNat; omega)
          rw [show (((40 : Nat) : Int) * r + i).toNat = 40 * r.toNat + i.toNat by omega, show (40 * r + i).toNat = 40 * r.toNat + i.toNat by omega]
          exact this
        refine ⟨1, _, rfl, _, M_atI c.1 c.2 e.1 (by rw [zst_p (by omega)]; omega) (by rw [zst_p (by omega)]; omega), ?_⟩
        rw [zst_p (p := 45) (by omega), ← e1]
        exact Rel_tells h
      · rw [z_if0 e]
        exact zAg_found h (by omega) (by omega) (fun ν hν => M_atO c.1 c.2 (by rw [hν 46 (by omega) (by omega)]; omega) (by rw [hν 46 (by omega) (by omega)]; omega) (by rw [hν 46 (by omega) (by omega)]; omega))
  · rw [z_if0 c]
    exact zAg_same h (M_atN c)
theorem M_found_e {f : Int} (h1 : 0 ≤ f) (h2 : f < 6) : f_M_found f μ = some (-3, zst (zst μ 42 8 f) 50 f.toNat (z32 (μ 50 f.toNat + 1))) := by
  unfold f_M_found
  rw [if_pos ⟨h1, h2⟩, if_pos ⟨h1, h2⟩, zst_o (by omega)]
theorem A_lay (h : Rel μ) : zAg (f_X_lay r i v μ) (f_M_lay r i v) := by
  have hs := zSS_of h.2.1
  unfold f_X_lay
  rw [S_knows zSC_1]
  by_cases c : 0 ≤ r ∧ r < ((6 : Nat) : Int)
  · have hz : μ (1 + 1) r.toNat = μ 46 r.toNat ∧ -1 ≤ μ (1 + 1) r.toNat ∧ μ (1 + 1) r.toNat ≤ 40 := h.2.1.2.2.1 r.toNat (by omega)
    rw [z_if1 c, S_isThere zSC_1 c.1 c.2, z_some_bind]
    by_cases d : μ (1 + 1) r.toNat < 0
    · rw [z_ifn1 d]
      refine zAg_found h (by omega) (by omega) (fun ν hν => ?_)
      unfold f_M_lay
      rw [M_atG c.1 c.2 (by rw [hν 46 (by omega) (by omega)]; omega), M_found_e (by omega) (by omega)]
      rfl
    · rw [z_ifn0 d, S_has zSC_1 c.1 c.2, z_some_bind]
      by_cases e : 0 ≤ i ∧ i < μ (1 + 1) r.toNat
      · rw [z_if1 e, S_get zSC_1 hs c.1 c.2 e.1 e.2, z_some_bind]
        have e1 : μ 3 (((40 : Nat) : Int) * r + i).toNat = μ 45 (40 * r + i).toNat := by
          have := h.2.1.2.2.2 r.toNat i.toNat (by omega) (by show ((i.toNat : Nat) : Int) < μ (1 + 1) r.toNat; omega)
          rw [show (((40 : Nat) : Int) * r + i).toNat = 40 * r.toNat + i.toNat by omega, show (40 * r + i).toNat = 40 * r.toNat + i.toNat by omega]
          exact this
        have hs2 : zSS (zst μ 0 9 (μ (1 + 2) (((40 : Nat) : Int) * r + i).toNat)) 1 40 6 0 := by
          refine ⟨by rw [zst_p (by omega)]; exact hs.1, by rw [zst_p (by omega)]; exact hs.2.1, fun q hq => by rw [zst_p (by omega)]; exact hs.2.2 q hq⟩
        rw [S_set zSC_1 hs2 c.1 c.2 e.1 (by rw [zst_p (by omega)]; exact e.2), z_some_bind]
        refine ⟨1, _, rfl, zst (zst (zst (zst μ 0 9 (μ 3 (((40 : Nat) : Int) * r + i).toNat)) 3 (((40 : Nat) : Int) * r + i).toNat v) 42 10 (μ 3 (((40 : Nat) : Int) * r + i).toNat)) 45 (40 * r + i).toNat v, ?_, ?_⟩
        · unfold f_M_lay
          rw [M_atI c.1 c.2 e.1 (by rw [zst_p (by omega), zst_p (by omega)]; omega) (by rw [zst_p (by omega), zst_p (by omega)]; omega), z_some_bind, if_pos rfl, z32_id (z := 40 * r) (by omega) (by omega), z32_id (by omega) (by omega), if_pos (by omega), zst_p (p := 45) (by omega), zst_p (p := 45) (by omega), ← e1]
        · rw [zst_comm (o := 3) (p := 42) (by omega), show (((40 : Nat) : Int) * r + i).toNat = 40 * r.toNat + i.toNat by omega, show (40 * r + i).toNat = 40 * r.toNat + i.toNat by omega]
          refine Rel_cell (Rel_tells h) (by omega) ?_
          rw [zst_p (by omega), zst_p (by omega)]
          show ((i.toNat : Nat) : Int) < μ (1 + 1) r.toNat
          omega
      · rw [z_if0 e]
        refine zAg_found h (by omega) (by omega) (fun ν hν => ?_)
        unfold f_M_lay
        rw [M_atO c.1 c.2 (by rw [hν 46 (by omega) (by omega)]; omega) (by rw [hν 46 (by omega) (by omega)]; omega) (by rw [hν 46 (by omega) (by omega)]; omega), M_found_e (by omega) (by omega)]
        rfl
  · rw [z_if0 c]
    refine zAg_same h ?_
    unfold f_M_lay
    rw [M_atN c]; rfl
theorem Rel_tear {r : Nat} (h : Rel μ) (hr : r < 6) : Rel (zst (zst μ 2 r (-1)) 46 r (-1)) := by
  refine Rel_rows (r := r) (n := -1) h hr (by omega) (by omega) (fun o a b c d => by rw [zst_p d, zst_p a]) (by rw [zst_p (by omega)]) ?_ (fun q => by rw [if_neg (by omega), zst_p (by omega), zst_p (by omega)]) (fun q _ => by rw [zst_p (by omega), zst_p (by omega)]) (fun i hi => by omega)
  funext q; unfold zst
  by_cases c : q = r
  · rw [if_pos ⟨rfl, c⟩, if_pos ⟨rfl, c⟩]
  · rw [if_neg (fun h => c h.2), if_neg (fun h => c h.2), if_neg (by omega)]
theorem A_tear (h : Rel μ) : zAg (f_X_tear r μ) (f_M_tear r) := by
  unfold f_X_tear
  rw [S_knows zSC_1]
  by_cases c : 0 ≤ r ∧ r < ((6 : Nat) : Int)
  · have hz : μ (1 + 1) r.toNat = μ 46 r.toNat ∧ -1 ≤ μ (1 + 1) r.toNat ∧ μ (1 + 1) r.toNat ≤ 40 := h.2.1.2.2.1 r.toNat (by omega)
    rw [z_if1 c, S_isThere zSC_1 c.1 c.2, z_some_bind]
    by_cases d : μ (1 + 1) r.toNat < 0
    · rw [z_ifn1 d]
      refine zAg_found h (by omega) (by omega) (fun ν hν => ?_)
      unfold f_M_tear f_M_isRow
      rw [M_in, z_if1 (by omega), if_pos (by omega), if_pos (by rw [hν 46 (by omega) (by omega)]; omega)]
    · rw [z_ifn0 d, S_drop zSC_1 c.1 c.2, z_some_bind]
      refine ⟨1, _, rfl, _, ?_, Rel_tear (r := r.toNat) h (by omega)⟩
      unfold f_M_tear f_M_isRow
      rw [M_in, z_if1 (by omega), if_pos (by omega), if_neg (by rw [zst_p (by omega)]; omega), if_pos (by omega)]
  · rw [z_if0 c]
    refine zAg_same h ?_
    unfold f_M_tear f_M_isRow
    rw [M_in, z_if0 (by omega)]
theorem A_put (h : Rel μ) : zAg (f_X_put r i v μ) (f_M_put r i v) := by
  have hs := zSS_of h.2.2.1.1
  unfold f_X_put
  rw [S_knows zSC_4]
  by_cases c : 0 ≤ r ∧ r < ((4 : Nat) : Int)
  · have hz : μ (4 + 1) r.toNat = μ 48 r.toNat ∧ -1 ≤ μ (4 + 1) r.toNat ∧ μ (4 + 1) r.toNat ≤ 60 := h.2.2.1.1.2.2.1 r.toNat (by omega)
    rw [z_if1 c, S_isThere zSC_4 c.1 c.2, z_some_bind]
    by_cases d : μ (4 + 1) r.toNat < 0
    · rw [z_ifn1 d]
      refine zAg_found h (by omega) (by omega) (fun ν hν => ?_)
      unfold f_M_put f_M_isText
      rw [M_in, z_if1 (by omega), if_pos (by omega), if_pos (by rw [hν 48 (by omega) (by omega)]; omega)]
    · rw [z_ifn0 d, S_has zSC_4 c.1 c.2, z_some_bind]
      by_cases e : 0 ≤ i ∧ i < μ (4 + 1) r.toNat
      · rw [z_if1 e, S_get zSC_4 hs c.1 c.2 e.1 e.2, z_some_bind, S_set zSC_4 hs c.1 c.2 e.1 e.2, z_some_bind]
        have e1 : μ 6 (((60 : Nat) : Int) * r + i).toNat = μ 47 (60 * r + i).toNat := by
          have := h.2.2.1.1.2.2.2 r.toNat i.toNat (by omega) (by show ((i.toNat : Nat) : Int) < μ (4 + 1) r.toNat; omega)
          rw [show (((60 : Nat) : Int) * r + i).toNat = 60 * r.toNat + i.toNat by omega, show (60 * r + i).toNat = 60 * r.toNat + i.toNat by omega]
          exact this
        refine ⟨_, _, rfl, zst (zst μ 6 (((60 : Nat) : Int) * r + i).toNat (zi2b v)) 47 (60 * r + i).toNat (zi2b v), ?_, ?_⟩
        · unfold f_M_put f_M_isText
          rw [M_in, z_if1 (by omega), if_pos (by omega), zst_p (p := 48) (by omega), if_neg (by omega), if_pos (by omega), M_in, z32_id (z := μ 48 r.toNat - 1) (by omega) (by omega), z_if1 (by omega), z32_id (z := 60 * r) (by omega) (by omega), z32_id (by omega) (by omega), if_pos (by omega), if_pos (by omega), zst_p (p := 47) (by omega), ← e1]
        · rw [show (((60 : Nat) : Int) * r + i).toNat = 60 * r.toNat + i.toNat by omega, show (60 * r + i).toNat = 60 * r.toNat + i.toNat by omega]
          refine Rel_byte h (by omega) (by show ((i.toNat : Nat) : Int) < μ (4 + 1) r.toNat; omega) ?_
          unfold zi2b
          have b1 := Int8.toInt_lt (Int32.ofInt v).toInt8
          have b2 := Int8.le_toInt (Int32.ofInt v).toInt8
          rw [Int8.toInt_toInt32]
          omega
      · rw [z_if0 e]
        refine zAg_found h (by omega) (by omega) (fun ν hν => ?_)
        have hz2 := hν 48 (by omega) (by omega)
        unfold f_M_put f_M_isText
        rw [M_in, z_if1 (by omega), if_pos (by omega), hz2, if_neg (by omega), if_pos (by omega), M_in, z32_id (z := μ 48 r.toNat - 1) (by omega) (by omega), z_if0 (by omega)]
  · rw [z_if0 c]
    refine zAg_same h ?_
    unfold f_M_put f_M_isText
    rw [M_in, z_if0 (by omega)]
end AG2
