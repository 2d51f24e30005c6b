theorem z_arr {s : State} {args : Array Value} {ty : FieldType} (hp : ∀ c, ty ≠ .object c) (hw : (Cond.arrayClass ty).before args s = true) : ∃ cA : ClassId, ArrOfT s cA ty ∧ s.vm.findClass ("[" ++ ty.toString) = some cA := by
  obtain ⟨cA, kA, comp, h1, h2, h3⟩ := Cond.arrayClass_spec hw
  exact ⟨cA, fun n z => ⟨fun k h => (by cases h), kA, h2, comp, h3⟩, h1⟩
theorem z_stat {s : State} {args : Array Value} {A : Nat → Prop} {nm : String} {vs : List Int} (hA : ∀ a : Nat, a < s.heap.size → ¬ A a) (hN : vs.length < 1000)
    (hl : (Cond.laysStatic "RoofLent" nm "[I").before args s = true) (hini : (Cond.initialized "RoofLent").before args s = true) (harr : (Cond.arrayOf (.static "RoofLent" nm "[I") .int).before args s = true)
    (hlen : (Cond.eq (.length (.static "RoofLent" nm "[I")) (.int (Int32.ofNat vs.length))).before args s = true) (hel : ∀ j, j < vs.length → (Cond.eq (.elem (.static "RoofLent" nm "[I") (.int (Int32.ofNat j))) (.int (Int32.ofInt (vs.getD j 0)))).before args s = true) :
    ∃ t : Nat, va_Z "RoofLent" nm "[I" (.ref t) A s s.heap ∧ va_T .int t vs.length (fun k => .int (Int32.ofInt (vs.getD k 0))) A s s.heap := by
  obtain ⟨t, h1, h2⟩ := va_Tof (args := args) (s := s) (tm := .static "RoofLent" nm "[I") (ty := .int) (N := vs.length) (f := fun k => .int (Int32.ofInt (vs.getD k 0))) (A := A) (by omega) harr (va_eqt hlen) (fun j hj => va_eqt (hel j hj)) hA
  exact ⟨t, va_Zref hl hini h1 hA, h2⟩
def zsvok (nm : String) (vs : List Int) : Bool := decide (Cond.arrayOf (.static "RoofLent" nm "[I") .int ∈ flatC (Jvm.Cond.and given_1 narrow_1)) && (decide (Cond.eq (.length (.static "RoofLent" nm "[I")) (.int (Int32.ofNat vs.length)) ∈ flatC (Jvm.Cond.and given_1 narrow_1)) && (List.range vs.length).all fun j => decide (Cond.eq (.elem (.static "RoofLent" nm "[I") (.int (Int32.ofNat j))) (.int (Int32.ofInt (vs.getD j 0))) ∈ flatC (Jvm.Cond.and given_1 narrow_1)))
theorem z_stat2 {s : State} {args : Array Value} {A : Nat → Prop} {nm : String} {vs : List Int} (hA : ∀ a : Nat, a < s.heap.size → ¬ A a) (hN : vs.length < 1000) (hgv : (Jvm.Cond.and given_1 narrow_1).before args s = true) (hok : zsvok nm vs = true)
    (hl : (Cond.laysStatic "RoofLent" nm "[I").before args s = true) (hini : (Cond.initialized "RoofLent").before args s = true) :
    ∃ t : Nat, va_Z "RoofLent" nm "[I" (.ref t) A s s.heap ∧ va_T .int t vs.length (fun k => .int (Int32.ofInt (vs.getD k 0))) A s s.heap := by
  have hs := flat_of_before _ hgv
  unfold zsvok at hok
  simp only [Bool.and_eq_true, decide_eq_true_eq] at hok
  obtain ⟨h1, h2, h3⟩ := hok
  exact z_stat hA hN hl hini (hs _ h1) (hs _ h2) (fun j hj => hs _ (of_decide_eq_true (List.all_eq_true.mp h3 j (List.mem_range.mpr hj))))
theorem zl_in {w : Cond} (h : decide (w ∈ lw_tbl) = true) : w ∈ lw_tbl := of_decide_eq_true h
theorem zL0 : ∀ w ∈ [Cond.laysStatic "RoofLent" "LETTERS" "[I", Cond.laysStatic "RoofLent" "WEIGHTS" "[I", Cond.laysStatic "RoofLent" "EASTWARD" "[I", Cond.laysStatic "RoofLent" "UPWARD" "[I", Cond.initialized "RoofLent", Cond.arrayClass .int, Cond.arrayClass .boolean, Cond.arrayOver (.object "RoofLent$Story"), Cond.instantiable RX0 8, Cond.instantiable RX1 4, Cond.instantiable RX2 3, Cond.instantiable RX3 4, Cond.instantiable RX4 3, Cond.instantiable RX5 12, Cond.instantiable RX6 19], w ∈ lw_tbl := by decide +kernel
theorem zL1 : (zNF.all fun q => decide (Cond.fieldLinkNest q.1 q.2.1 q.2.2.1 q.2.2.2.1 q.2.2.2.2.1 q.2.2.2.2.2 ∈ lw_tbl)) = true := by decide +kernel
theorem zL2 : (zNM.all fun q => decide (Cond.methodLinkNest q.1 q.2.1 q.2.2.1 q.2.2.2 ∈ lw_tbl)) = true := by decide +kernel
theorem zok0 : zsvok "LETTERS" (zSV 0) = true := by decide +kernel
theorem zok1 : zsvok "WEIGHTS" (zSV 1) = true := by decide +kernel
theorem zok2 : zsvok "EASTWARD" (zSV 2) = true := by decide +kernel
theorem zok3 : zsvok "UPWARD" (zSV 3) = true := by decide +kernel
theorem zLw1 : ∀ w ∈ ([.classLink RL 7 RX5, .instantiable RX5 12, .initialized RX5] : List Cond), w ∈ zBIG := zbig_sub (by decide +kernel)
theorem zLw2 : ∀ w ∈ ([.methodLink RL 9 yX5_init, .instanceMethod yX5_init, .initialized yX5_init.cls, .code yX5_init cX5_init 2 none] : List Cond), w ∈ zBIG := zbig_sub (by decide +kernel)
theorem zLw3 : ∀ w ∈ ([.classLink RL 10 RX6, .instantiable RX6 19, .initialized RX6] : List Cond), w ∈ zBIG := zbig_sub (by decide +kernel)
theorem zLw4 : ∀ w ∈ ([.methodLink RL 12 yX6_init, .instanceMethod yX6_init, .initialized yX6_init.cls, .code yX6_init cX6_init 2 none] : List Cond), w ∈ zBIG := zbig_sub (by decide +kernel)
theorem zful : zfull (zfM (zfX (fun _ _ => false))) = true := by decide +kernel
set_option maxRecDepth 100000 in
set_option maxHeartbeats 8000000 in
/-- THE LAW, from its entry -/
theorem whole_start {p : Program} {e : Env} {s : State} {m : MethodId} {below : List Frame} {meth : Method} {c : Code} (l : Launch) (hflags : l.flags = flags0) {b L : Nat} {xs : Nat → Int32} (hL : L ≤ 3072) (C0 : lw_At p s m meth c b L xs) : W p l e room_1 s m #[Value.ref b] below meth c s.heap [] 0 0 (lw_Z below #[Value.ref b] s) (entryFrame m ([Value.ref b] : List Value).toArray 4) := by
  obtain ⟨hx, hb, hr, hml, hown, hts, hXv, hbl, hlocks, hgv⟩ := id C0
  have hA0 : ∀ a : Nat, a < s.heap.size → ¬ (fun q : Nat => s.heap.size ≤ q) a := fun a h q => by
    have : s.heap.size ≤ a := q
    omega
  have hin : ∀ {ci : Nat} {q : vw_C}, zcl[ci]? = some q → ∀ w ∈ u_ws q.1 q.2.1 q.2.2, w ∈ lw_tbl := fun h w hw => zbig_in (zcl_in h w hw)
  have h0 := fun w hw => hts w (zL0 w hw)
  obtain ⟨c0, i0, k0⟩ := u_known (C := RX0) (T := TX0) (N := 8) (n := 8) hts (hin (ci := 0) rfl) (h0 _ (by simp))
  obtain ⟨c1, i1, k1⟩ := u_known (C := RX1) (T := TX1) (N := 4) (n := 4) hts (hin (ci := 1) rfl) (h0 _ (by simp))
  obtain ⟨c2, i2, k2⟩ := u_known (C := RX2) (T := TX2) (N := 3) (n := 3) hts (hin (ci := 2) rfl) (h0 _ (by simp))
  obtain ⟨c3, i3, k3⟩ := u_known (C := RX3) (T := TX3) (N := 4) (n := 4) hts (hin (ci := 3) rfl) (h0 _ (by simp))
  obtain ⟨c4, i4, k4⟩ := u_known (C := RX4) (T := TX4) (N := 3) (n := 3) hts (hin (ci := 4) rfl) (h0 _ (by simp))
  obtain ⟨c5, i5, k5⟩ := u_known (C := RX5) (T := TX5) (N := 12) (n := 12) hts (hin (ci := 5) rfl) (h0 _ (by simp))
  obtain ⟨c6, i6, k6⟩ := u_known (C := RX6) (T := TX6) (N := 19) (n := 19) hts (hin (ci := 6) rfl) (h0 _ (by simp))
  obtain ⟨cI, aI1, aI2⟩ := z_arr (ty := .int) (fun c h => by cases h) (h0 _ (by simp))
  obtain ⟨cZ, aZ1, aZ2⟩ := z_arr (ty := .boolean) (fun c h => by cases h) (h0 _ (by simp))
  have hao : (Cond.arrayOver (.object "RoofLent$Story")).before #[Value.ref b] s = true := h0 _ (by simp)
  obtain ⟨comp, cS, kS, o1, o2, o3, o4, o5⟩ := Cond.arrayOver_spec hao
  obtain ⟨t0, z0, y0⟩ := z_stat2 (A := fun q => s.heap.size ≤ q) (nm := "LETTERS") (vs := zSV 0) hA0 (by decide) hgv zok0 (h0 _ (by simp)) (h0 _ (by simp))
  obtain ⟨t1, z1, y1⟩ := z_stat2 (A := fun q => s.heap.size ≤ q) (nm := "WEIGHTS") (vs := zSV 1) hA0 (by decide) hgv zok1 (h0 _ (by simp)) (h0 _ (by simp))
  obtain ⟨t2, z2, y2⟩ := z_stat2 (A := fun q => s.heap.size ≤ q) (nm := "EASTWARD") (vs := zSV 2) hA0 (by decide) hgv zok2 (h0 _ (by simp)) (h0 _ (by simp))
  obtain ⟨t3, z3, y3⟩ := z_stat2 (A := fun q => s.heap.size ≤ q) (nm := "UPWARD") (vs := zSV 3) hA0 (by decide) hgv zok3 (h0 _ (by simp)) (h0 _ (by simp))
  obtain ⟨G, hGe⟩ : ∃ G : zG, G = ((fun k => match k with | 0 => c0 | 1 => c1 | 2 => c2 | 3 => c3 | 4 => c4 | 5 => c5 | _ => c6, fun k => match k with | 0 => i0 | 1 => i1 | 2 => i2 | 3 => i3 | 4 => i4 | 5 => i5 | _ => i6), (fun o => match o with | 60 => t0 | 61 => t1 | 62 => t2 | 63 => t3 | 70 => b | o => s.heap.size + o), cI, cZ, cS, fun q => s.heap.size ≤ q) := ⟨_, rfl⟩
  have hgA : zgA G = fun q => s.heap.size ≤ q := by rw [hGe]
  have hr70 : zgR G 70 = b := by rw [hGe]; rfl
  have hro : ∀ o, o < 56 → zgR G o = s.heap.size + o := fun o ho => by
    rw [hGe]
    show (match o with | 60 => t0 | 61 => t1 | 62 => t2 | 63 => t3 | 70 => b | o => s.heap.size + o) = _
    split <;> first | omega | rfl
  have hr0 : zgR G 0 = s.heap.size := by rw [hro 0 (by omega)]; rfl
  have hGG : zGG G := ⟨fun o ho => by rw [hro o ho, hr0], fun q hq => by rw [hgA]; rw [hr0] at hq; exact hq⟩
  have hK : va_K (zgD G) zcl (zty G) s := by
    rw [hGe]
    refine ⟨fun k q hq => ?_, fun k q hq => ?_⟩
    · match k, hq with
      | 0, hq => cases hq; exact k0
      | 1, hq => cases hq; exact k1
      | 2, hq => cases hq; exact k2
      | 3, hq => cases hq; exact k3
      | 4, hq => cases hq; exact k4
      | 5, hq => cases hq; exact k5
      | 6, hq => cases hq; exact k6
      | n + 7, hq => simp [zcl] at hq
    · match k, hq with
      | 0, hq => cases hq; exact ⟨aI1, aI2⟩
      | 1, hq => cases hq; exact ⟨aZ1, aZ2⟩
      | 2, hq => cases hq; exact ⟨fun N z => ⟨(fun k h => by cases h), kS, o3, comp, o4⟩, kS, comp, o3, o4, o1, o5⟩
      | n + 3, hq => simp [zty] at hq
  have hNw : zNw s := ⟨fun q hq => va_Nw.of rfl (hts _ (zl_in (List.all_eq_true.mp zL1 q hq))), fun q hq => va_Nw.of rfl (hts _ (zl_in (List.all_eq_true.mp zL2 q hq)))⟩
  have hSt : zSt G s s.heap := by
    refine ⟨fun i hi => ?_, hNw⟩
    rw [hGe]
    match i, hi with
    | 0, _ => exact ⟨z0, y0⟩
    | 1, _ => exact ⟨z1, y1⟩
    | 2, _ => exact ⟨z2, y2⟩
    | 3, _ => exact ⟨z3, y3⟩
  have hwB : ∀ w ∈ zBIG, w.before #[Value.ref b] s = true := fun w hw => hts w (zbig_in hw)
  have hO : zO0 (p, l, e, room_1, s, m, #[Value.ref b], below, meth, c, lw_Z below #[Value.ref b] s, 0, 0) G cL_law RL 4 1000 600000 7302250 :=
    ⟨hx, hb, hml, hown, hwB, hK, hSt, ⟨Nat.le_of_ble_eq_true rfl, Nat.le_of_ble_eq_true rfl⟩, ⟨Nat.le_refl _, Nat.le_refl _⟩, va_AO.of hao, fun h => absurd rfl h, hGG.1, fun q hq => by rw [hgA]; exact hq⟩
  have hk : zOk (p, l, e, room_1, s, m, #[Value.ref b], below, meth, c, lw_Z below #[Value.ref b] s, 56, 29709) G cL_law RL 4 ret 1000 :=
    ⟨hx, hb, hml, hown, hwB, hr, hlocks, hK, hSt, ⟨Nat.le_of_ble_eq_true rfl, Nat.le_of_ble_eq_true rfl⟩, Nat.le_of_ble_eq_true rfl, Nat.le_of_ble_eq_true rfl⟩
  have hSc : zSc (p, l, e, room_1, s, m, #[Value.ref b], below, meth, c, lw_Z below #[Value.ref b] s, 56, 29709) G (fun j => (xs j).toInt) L :=
    ⟨xs, by rw [hr70]; exact hXv, by rw [hr70]; exact hbl, by rw [hr70, hgA]; exact hA0 b hbl, fun j => ⟨Int32.ofInt_toInt _, zr_toInt _⟩⟩
  have hFl : zFinL (p, l, e, room_1, s, m, #[Value.ref b], below, meth, c, lw_Z below #[Value.ref b] s, 56, 29709) := ⟨b, rfl, rfl, rfl, Nat.le_of_ble_eq_true rfl, Nat.le_of_ble_eq_true rfl⟩
  obtain ⟨n, hn⟩ := law_pure (fun j => (xs j).toInt) L (fun j => zr_toInt _) hL
  have hloop : k_W_law (p, l, e, room_1, s, m, #[Value.ref b], below, meth, c, lw_Z below #[Value.ref b] s, 56, 29709) G ((0 : Int), zm00) :=
    zrun_K (F := fun r : Int => r = 1) (fun s1 h => w_W_law hk hSc rfl (by unfold zrI; omega) ⟨hFl, fun q hq => by rw [hgA] at hq; exact hq⟩ h) rfl n _ hn
  have hW : zW0 (p, l, e, room_1, s, m, #[Value.ref b], below, meth, c, lw_Z below #[Value.ref b] s, 0, 0) G 4 0 [some (zR 70), none, none, none] [] (fun _ _ => 0) (fun _ _ => false) 0 0 0 := by
    refine z0_new (ci := 5) hO dL_law_0 rfl (Nat.le_of_ble_eq_true rfl) rfl zLw1 ⟨Nat.le_of_ble_eq_true rfl, Nat.le_of_ble_eq_true rfl⟩ ?_
    refine z0_dup hO dL_law_3 ?_
    refine z0_callI (mc2 := 41) (ms2 := 9837) hO dL_law_4 (i_X_0 hGG) rfl hGG zLw2 hi_X5_init rfl (Nat.le_of_ble_eq_true rfl) (Nat.le_of_ble_eq_true rfl) (Nat.le_of_ble_eq_true rfl) ⟨Nat.le_of_ble_eq_true rfl, Nat.le_of_ble_eq_true rfl⟩ ?_
    refine z0_astore_n hO dL_law_7 rfl (Nat.le_of_ble_eq_true rfl) (lw := [some (zR 70), some (zR 0), none, none]) rfl ?_
    refine z0_new (ci := 6) hO dL_law_8 rfl (Nat.le_of_ble_eq_true rfl) rfl zLw3 ⟨Nat.le_of_ble_eq_true rfl, Nat.le_of_ble_eq_true rfl⟩ ?_
    refine z0_dup hO dL_law_11 ?_
    refine z0_callI (mc2 := 13) (ms2 := 19841) hO dL_law_12 (i_M_42 hGG) rfl hGG zLw4 hi_X6_init rfl (Nat.le_of_ble_eq_true rfl) (Nat.le_of_ble_eq_true rfl) (Nat.le_of_ble_eq_true rfl) ⟨Nat.le_of_ble_eq_true rfl, Nat.le_of_ble_eq_true rfl⟩ ?_
    refine z0_astore_n hO dL_law_15 rfl (Nat.le_of_ble_eq_true rfl) (lw := [some (zR 70), some (zR 0), some (zR 42), none]) rfl ?_
    refine z0_iconst hO dL_law_16 (zrl rfl) ?_
    refine z0_istore_n hO dL_law_17 rfl (Nat.le_of_ble_eq_true rfl) (lw := [some (zR 70), some (zR 0), some (zR 42), some (zI 0)]) rfl ?_
    exact z0_full zful rfl hloop
  have hl := lv_entry ([.ref b]) (n := 4) (Nat.le_of_ble_eq_true rfl)
  rw [lg_entry_eq]
  refine hW s.heap [] _ (fun q k _ => ⟨rfl, rfl⟩) (fun q k => ⟨by show zrJ 0; unfold zrJ; omega, fun _ => z_zero⟩) (fun v h => by cases h) (fun j v hj => ?_) (zl_mono hl (fun q hq => ?_)) (fun k q h => by simp [zw0] at h) ⟨fun i j p q h => by simp [zw0] at h, fun k q h => by simp [zw0] at h⟩ va_S.rf (by rw [hr0]; rfl)
  · match j, hj with
    | 0, hj => cases hj; trivial
    | 1, hj => cases hj
    | 2, hj => cases hj
    | 3, hj => cases hj
    | n + 4, hj => simp at hj
  · have : q = (0, Value.ref (zgR G 70)) := by simpa [ztl, zcv] using hq
    rw [this, hr70]
    exact List.mem_cons_self
