/-! CONTRACTS: of a method at given things it is given, in a given world: what it answers, and the world behind it -/
def zrm (d : Nat) : Room := { frames := d, cells := 0, slots := 0, locals := 64 * d }
def zPc (G : zG) (as : List zV) (μ : zM) : Array Value → State → Prop := va_Pc (as.map (zcv G)) (zRW G μ)
def zQc (G : zG) (rv : Option zV) (μ : zM) : Array Value → State → Outcome → State → Prop := fun _ st oc t => (oc = .returned (rv.map (zcv G)) ∧ zRW G μ t ∧ zrM μ ∧ ∀ v, rv = some v → zrV v) ∧ va_F (zgA G) st t
def zCT (l : Launch) (G : zG) (y : MethodName) (cc : ByteArray) (maxL : Nat) (ret : Option FieldType) (d : Nat) (as : List zV) (μ : zM) (rv : Option zV) (ν : zM) : Prop :=
  zrS as → zrM μ → Met l y (.code y cc maxL ret :: zBIG) (zrm d) (zPc G as μ) (zQc G rv ν) 0 0 (zgA G)
theorem zSt_go {G : zG} {s t : State} {H H1 : Heap} (h : zSt G s H) (hvm : s.vm.Alike t.vm) (hn : zNw s → zNw t) (hk : ∀ a : Nat, a < H.size → ¬ zgA G a → H1[a]? = H[a]?) : zSt G t H1 := ⟨fun i hi => ⟨(va_Z.moved hvm (h.1 i hi).1).kept hk, (va_T.moved hvm (h.1 i hi).2).kept hk⟩, hn h.2⟩
theorem zRW_blind {G : zG} {as : List zV} {μ : zM} : FrameBlind (zPc G as μ) := fun a U g mk q => ⟨q.1, q.2.1, va_K.moved (u := U) (U := U.calling g mk a) (Vm.Alike.refl U.vm) q.2.2.1, zSt_go (s := U) (t := U.calling g mk a) q.2.2.2.1 (Vm.Alike.refl U.vm) (zNw_same rfl) (fun _ _ _ => rfl), q.2.2.2.2⟩
section ZC
variable {p : Program} {l : Launch} {e : Env} {R : Room} {s : State} {m : MethodId} {args : Array Value} {below : List Frame} {meth : Method} {c : Code} {H : Heap} {locs : List Loc} {cells slots : Nat} {Q : State → Prop} {pc : Nat} {ls : Array Slot} {rest st0 : List Value} {a : Array Value} {G : zG} {μ : zM} {rv : Option zV}
theorem zcall (hr : va_Run p l e R s m args below meth c H locs cells slots 0 0 (F0 m pc ls st0) rest (zQc G rv μ a) (zgA G)) {H0 : Heap} (hS : va_S (zgA G) H0 H locs)
    (kk : ∀ (t : State) (H1 : Heap) (locs1 : List Loc), t.heap = H1 → zRW G μ t → zrM μ → (∀ v, rv = some v → zrV v) → va_S (zgA G) H0 H1 locs1 → W p l e R s m args below meth c H1 locs1 cells slots Q (F0 m (pc + 3) ls ((rv.map (zcv G)).toList ++ rest))) : W p l e R s m args below meth c H locs cells slots Q (F0 m pc ls st0) := by
  intro T hT X
  obtain ⟨v, st₀, t, T', L, h0, X', hL, e1, e2, ⟨⟨hv, hw, hm, hrv⟩, hz, hk⟩, st⟩ := hr T hT X
  cases hv
  rw [h0] at hz hk
  obtain ⟨t2, a1, b1⟩ := kk t T'.heap (locs ++ L) e1.symm hw hm hrv
    ⟨Nat.le_trans hS.1 (by rw [e1]; exact hz), fun q h1 h2 => by rw [e1, hk q (Nat.lt_of_lt_of_le h1 hS.1) h2]; exact hS.2.1 q h1 h2, fun q hq => by
      rcases List.mem_append.mp hq with h | h
      · exact hS.2.2 q h
      · exact hL q h⟩ T' rfl X'
  exact ⟨t2, st t2 a1, b1⟩
end ZC
section ZR4
variable {X : zX} {G : zG} {cc : ByteArray} {own : String} {nL d pc : Nat} {ret : Option FieldType} {lv : List (Option zV)} {st stk : List zV} {μ ν : zM}
/-- where a call finds its world -/
theorem zPre {H : Heap} {locs : List Loc} {as : List zV} (hX : zOk X G cc own nL ret d) (hP : va_P (zgD G) zcl (zws G μ) H) (hD : va_D (zgA G) (zws G μ)) (hS : va_S (zgA G) (zXs X).heap H locs) : ∀ U : State, U.heap = H → (zXs X).WarmedH U.vm → zPc G as μ (as.map (zcv G)).toArray U := fun U hU hW =>
  ⟨rfl, by rw [hU]; exact hP, va_K.moved hW.alike hX.2.2.2.2.2.2.2.1, by rw [hU]; exact zSt_go hX.2.2.2.2.2.2.2.2.1 hW.alike (zNw_warm hW) (fun q h1 h2 => hS.2.1 q h1 h2), hD⟩
theorem z_lroom {st : List zV} (G : zG) (h : st.length ≤ 4) : ((st.map (zcv G)).map fun v => v.category).sum ≤ 8 := by
  have := zcat_sum G st
  omega
def zpush : Option zV → List zV → List zV
  | none, st => st
  | some v, st => v :: st
theorem zpush_r {rv : Option zV} {st : List zV} (h : ∀ v, rv = some v → zrV v) (hs : zrS st) : zrS (zpush rv st) := by
  cases rv with
  | none => exact hs
  | some v => exact zrS_cons (h v rfl) hs
theorem zr_callV {y : MethodName} {cc2 : ByteArray} {mL2 d2 o ci n ix : Nat} {C : String} {ret2 : Option FieldType} {As : List zV} {rv : Option zV} (hX : zOk X G cc own nL ret d) (hd : decode cc pc = .ok (.invokevirtual ix, 3)) (hM : zCT (zXl X) G y cc2 mL2 ret2 d2 (zR o :: As) μ rv ν) (hs : zsh o = (0, ci)) (hstk : stk = As.reverse ++ zR o :: st)
    (hC : (zcl[ci]?).map (fun q => q.1) = some C) (hw : ∀ w ∈ ([.methodLink own ix y, .instanceMethod y, .selects C y y, .initialized C, .code y cc2 mL2 ret2] : List Cond), w ∈ zBIG)
    (hy : y.cls = C ∧ y.cls ≠ "java/lang/invoke/MethodHandle" ∧ y.cls ≠ "java/lang/invoke/VarHandle" ∧ (parseMethodDescriptor y.desc).map (fun d => d.parameters.length) = some n) (hn : As.length = n) (hdd : d2 + 1 ≤ d) (hmL : mL2 ≤ 45) (hl0 : st.length ≤ 4)
    (kk : zW X G nL (pc + 3) lv (zpush rv st) ν) : zW X G nL pc lv stk μ := fun H locs ls hM0 hst hlv hl hP hD hS => by
  subst hstk
  have hroom := hX.2.2.2.2.2.2.2.2.2.1
  have hrs : zrS (zR o :: As) := fun v hv => by
    rcases List.mem_cons.mp hv with rfl | hv
    · trivial
    · exact hst v (List.mem_append_left _ (List.mem_reverse.mpr hv))
  have hMet := hM hrs hM0
  have hgood : GoodIn zBIG (wsV own ix C y (.code y cc2 mL2 ret2 :: zBIG)) := fun w hw2 => by
    unfold wsV at hw2
    rcases List.mem_append.mp hw2 with h | h
    · refine zbig_g (hw w ?_)
      simp only [List.mem_cons, List.not_mem_nil, or_false] at h ⊢
      rcases h with h | h | h | h
      · exact Or.inl h
      · exact Or.inr (Or.inl h)
      · exact Or.inr (Or.inr (Or.inl h))
      · exact Or.inr (Or.inr (Or.inr (Or.inl h)))
    · rcases List.mem_cons.mp h with h | h
      · exact zbig_g (hw w (by simp [h]))
      · exact zbig_g h
  obtain ⟨⟨C1, T1, N1⟩, hcq⟩ : ∃ q, zcl[ci]? = some q := by
    cases hz : zcl[ci]? with
    | none => rw [hz] at hC; cases hC
    | some q => exact ⟨q, rfl⟩
  rw [hcq] at hC
  have hC1 : C1 = C := Option.some.inj hC
  subst hC1
  have ho := zsh_lt hs (show 0 < 9 by omega)
  have hrun := va_runV (p := zXp X) (e := zXe X) (below := zXb X) (meth := zXM X) (locs := locs) (cells := zXn X) (slots := zXk X) (cc := cc) (nL := nL) (Ts := zBIG) (own := own) (C := C1) (n := n) (index := ix) (b := zgR G o) (H := H) (g := F0 (zXm X) pc ls ((As.reverse ++ zR o :: st).map (zcv G))) (rest := st.map (zcv G)) (As := As.map (zcv G))
    ⟨hX.1, hX.2.1, hX.2.2.1, hX.2.2.2.1, hX.2.2.2.2.1⟩ hMet
    (cwV n hX.2.2.2.2.1 hgood rfl rfl rfl hy ⟨by show d2 + 1 ≤ _; have := hroom.1; omega, by show 8 + (mL2 + 11) + 64 * d2 ≤ _; have := hroom.2; omega⟩)
    ⟨zRW_blind, va_recv hX.2.2.2.2.2.2.2.1 hP hcq (by rw [zws_get G μ ho, zce_obj hs]), fun U hU hW => zPre (as := zR o :: As) hX hP hD hS U hU hW⟩ rfl (by rw [List.length_map]; exact hn) hl.1 (by simp [List.map_append, List.map_reverse]; rfl) (lv_room (pc := pc) (ls := ls) (rest := []) (m := zXm X) (z_lroom G hl0)) hd ⟨hX.2.2.2.2.2.2.2.2.2.2.1, hX.2.2.2.2.2.2.2.2.2.2.2⟩
  refine zcall hrun hS (fun t H1 locs1 ht hw1 hm1 hrv hS1 => ?_)
  have hP1 := hw1.1
  rw [ht] at hP1
  have hst1 : zrS (zpush rv st) := zpush_r hrv (fun v h => hst v (List.mem_append_right _ (List.mem_cons_of_mem _ h)))
  have := kk H1 locs1 ls hm1 hst1 hlv hl hP1 hw1.2.2.2 hS1
  cases rv <;> exact this
theorem zr_callS {y : MethodName} {cc2 : ByteArray} {mL2 d2 n ix : Nat} {ret2 : Option FieldType} {As : List zV} {rv : Option zV} (hX : zOk X G cc own nL ret d) (hd : decode cc pc = .ok (.invokestatic ix, 3)) (hM : zCT (zXl X) G y cc2 mL2 ret2 d2 As μ rv ν) (hstk : stk = As.reverse ++ st)
    (hw : ∀ w ∈ ([.methodLink own ix y, .static y, .initialized y.cls, .code y cc2 mL2 ret2] : List Cond), w ∈ zBIG)
    (hy : y.cls ≠ "java/lang/invoke/MethodHandle" ∧ y.cls ≠ "java/lang/invoke/VarHandle" ∧ (parseMethodDescriptor y.desc).map (fun d => d.parameters.length) = some n) (hn : As.length = n) (hdd : d2 + 1 ≤ d) (hmL : mL2 ≤ 45) (hl0 : st.length ≤ 4)
    (kk : zW X G nL (pc + 3) lv (zpush rv st) ν) : zW X G nL pc lv stk μ := fun H locs ls hM0 hst hlv hl hP hD hS => by
  subst hstk
  have hroom := hX.2.2.2.2.2.2.2.2.2.1
  have hrs : zrS As := fun v hv => hst v (List.mem_append_left _ (List.mem_reverse.mpr hv))
  have hMet := hM hrs hM0
  have hgood : GoodIn zBIG (va_wsS own ix y (.code y cc2 mL2 ret2 :: zBIG)) := fun w hw2 => by
    unfold va_wsS at hw2
    rcases List.mem_append.mp hw2 with h | h
    · refine zbig_g (hw w ?_)
      simp only [List.mem_cons, List.not_mem_nil, or_false] at h ⊢
      rcases h with h | h | h
      · exact Or.inl h
      · exact Or.inr (Or.inl h)
      · exact Or.inr (Or.inr (Or.inl h))
    · rcases List.mem_cons.mp h with h | h
      · exact zbig_g (hw w (by simp [h]))
      · exact zbig_g h
  have hrun := va_runS (p := zXp X) (e := zXe X) (below := zXb X) (meth := zXM X) (locs := locs) (cells := zXn X) (slots := zXk X) (cc := cc) (nL := nL) (Ts := zBIG) (own := own) (n := n) (index := ix) (H := H) (g := F0 (zXm X) pc ls ((As.reverse ++ st).map (zcv G))) (rest := st.map (zcv G)) (As := As.map (zcv G))
    ⟨hX.1, hX.2.1, hX.2.2.1, hX.2.2.2.1, hX.2.2.2.2.1⟩ hMet
    (va_cwS n hX.2.2.2.2.1 hgood rfl rfl rfl hy ⟨by show d2 + 1 ≤ _; have := hroom.1; omega, by show 8 + (mL2 + 11) + 64 * d2 ≤ _; have := hroom.2; omega⟩)
    ⟨zRW_blind, fun U hU hW => zPre (as := As) hX hP hD hS U hU hW⟩ rfl (by rw [List.length_map]; exact hn) hl.1 (by simp [List.map_append, List.map_reverse]) (lv_room (pc := pc) (ls := ls) (rest := []) (m := zXm X) (z_lroom G hl0)) hd ⟨hX.2.2.2.2.2.2.2.2.2.2.1, hX.2.2.2.2.2.2.2.2.2.2.2⟩
  refine zcall hrun hS (fun t H1 locs1 ht hw1 hm1 hrv hS1 => ?_)
  have hP1 := hw1.1
  rw [ht] at hP1
  have hst1 : zrS (zpush rv st) := zpush_r hrv (fun v h => hst v (List.mem_append_right _ h))
  have := kk H1 locs1 ls hm1 hst1 hlv hl hP1 hw1.2.2.2 hS1
  cases rv <;> exact this
theorem zr_callSN {y : MethodName} {cc2 : ByteArray} {mL2 d2 n ix : Nat} {ret2 : Option FieldType} {As : List zV} {rv : Option zV} (hX : zOk X G cc own nL ret d) (hd : decode cc pc = .ok (.invokestatic ix, 3)) (hM : zCT (zXl X) G y cc2 mL2 ret2 d2 As μ rv ν) (hstk : stk = As.reverse ++ st)
    (hwn : (own, ix, y, "RoofLent") ∈ zNM) (hw : ∀ w ∈ ([.static y, .initialized y.cls, .code y cc2 mL2 ret2] : List Cond), w ∈ zBIG)
    (hy : y.cls ≠ "java/lang/invoke/MethodHandle" ∧ y.cls ≠ "java/lang/invoke/VarHandle" ∧ (parseMethodDescriptor y.desc).map (fun d => d.parameters.length) = some n) (hn : As.length = n) (hdd : d2 + 1 ≤ d) (hmL : mL2 ≤ 45) (hl0 : st.length ≤ 4)
    (kk : zW X G nL (pc + 3) lv (zpush rv st) ν) : zW X G nL pc lv stk μ := fun H locs ls hM0 hst hlv hl hP hD hS => by
  subst hstk
  have hroom := hX.2.2.2.2.2.2.2.2.2.1
  have hrs : zrS As := fun v hv => hst v (List.mem_append_left _ (List.mem_reverse.mpr hv))
  have hMet := hM hrs hM0
  have hgood : GoodIn zBIG (.code y cc2 mL2 ret2 :: zBIG) := fun w hw2 => by
    rcases List.mem_cons.mp hw2 with h | h
    · exact zbig_g (hw w (by simp [h]))
    · exact zbig_g h
  have hrun := va_runSN (p := zXp X) (e := zXe X) (below := zXb X) (meth := zXM X) (locs := locs) (cells := zXn X) (slots := zXk X) (cc := cc) (nL := nL) (Ts := zBIG) (own := own) (n := n) (index := ix) (H := H) (g := F0 (zXm X) pc ls ((As.reverse ++ st).map (zcv G))) (rest := st.map (zcv G)) (As := As.map (zcv G))
    ⟨hX.1, hX.2.1, hX.2.2.1, hX.2.2.2.1, hX.2.2.2.2.1⟩ hMet
    ⟨va_cnB (host := "RoofLent") n hX.2.2.2.2.1 hgood rfl rfl rfl (hX.2.2.2.2.2.2.2.2.1.2.2 _ hwn) (hX.2.2.2.2.1 _ (hw _ (by simp))) hy ⟨by show d2 + 1 ≤ _; have := hroom.1; omega, by show 8 + (mL2 + 11) + 64 * d2 ≤ _; have := hroom.2; omega⟩, hX.2.2.2.2.1 _ (hw _ (by simp)), trivial⟩
    ⟨zRW_blind, fun U hU hW => zPre (as := As) hX hP hD hS U hU hW⟩ rfl (by rw [List.length_map]; exact hn) hl.1 (by simp [List.map_append, List.map_reverse]) (lv_room (pc := pc) (ls := ls) (rest := []) (m := zXm X) (z_lroom G hl0)) hd ⟨hX.2.2.2.2.2.2.2.2.2.2.1, hX.2.2.2.2.2.2.2.2.2.2.2⟩
  refine zcall hrun hS (fun t H1 locs1 ht hw1 hm1 hrv hS1 => ?_)
  have hP1 := hw1.1
  rw [ht] at hP1
  have hst1 : zrS (zpush rv st) := zpush_r hrv (fun v h => hst v (List.mem_append_right _ h))
  have := kk H1 locs1 ls hm1 hst1 hlv hl hP1 hw1.2.2.2 hS1
  cases rv <;> exact this
/-! returns -/
def zFin (X : zX) (G : zG) (rv : Option zV) (ν : zM) : Prop := zXQ X = MQ (zXb X) (zQc G rv ν) (zXa X) (zXs X) (zXn X) (zXk X) (zgA G)
theorem zEnd {H : Heap} {locs : List Loc} {rv : Option zV} (hX : zOk X G cc own nL ret d) (hM : zrM μ) (hr : ∀ v, rv = some v → zrV v) (hP : va_P (zgD G) zcl (zws G μ) H) (hD : va_D (zgA G) (zws G μ)) (hS : va_S (zgA G) (zXs X).heap H locs) (a : Array Value) : ∀ t : State, t.heap = H → (zXs X).WarmedH t.vm → zQc G rv μ a (zXs X) (.returned (rv.map (zcv G))) t := fun t ht hW =>
  ⟨⟨rfl, ⟨by rw [ht]; exact hP, va_K.moved hW.alike hX.2.2.2.2.2.2.2.1, by rw [ht]; exact zSt_go hX.2.2.2.2.2.2.2.2.1 hW.alike (zNw_warm hW) (fun q h1 h2 => hS.2.1 q h1 h2), hD⟩, hM, hr⟩, hS.F ht⟩
theorem zr_iret (hX : zOk X G cc own nL (some .int) d) (hd : decode cc pc = .ok (.ireturn, 1)) {rv : Option zV} {z : Int} (hF : zFin X G rv ν) (h : (some (zI z), μ) = (rv, ν)) : zW X G nL pc lv [zI z] μ := fun H locs ls hM hst hlv hl hP hD hS => by
  cases h
  rw [hF]
  exact W.iret hX.1 hX.2.1 hX.2.2.2.2.2.1 (zEnd (rv := some (zI z)) hX hM (fun v hv => by cases hv; exact zrS_hd hst) hP hD hS _) hS.2.2 hd hX.2.2.2.2.2.2.1
theorem zr_bret {τ : Type} {F : τ → Prop} {B : Option τ} (hX : zOk X G cc own nL (some .boolean) d) (hd : decode cc pc = .ok (.ireturn, 1)) {rv : Option zV} {z : Int} (hF : zFin X G rv ν) (h0 : zP F (if z = 0 ∨ z = 1 then B else none)) (h : zP F B → (some (zI z), μ) = (rv, ν)) : zW X G nL pc lv [zI z] μ := zP_if h0 fun hc h0 H locs ls hM hst hlv hl hP hD hS => by
  cases h h0
  rw [hF]
  exact W.zret hX.1 hX.2.1 hX.2.2.2.2.2.1 (by rcases hc with rfl | rfl <;> rfl) (zEnd (rv := some (zI z)) hX hM (fun v hv => by cases hv; exact zrS_hd hst) hP hD hS _) hS.2.2 hd hX.2.2.2.2.2.2.1
theorem zr_bretc (hX : zOk X G cc own nL (some .boolean) d) (hd : decode cc pc = .ok (.ireturn, 1)) {rv : Option zV} {z : Int} (hF : zFin X G rv ν) (hz : z = 0 ∨ z = 1) (h : (some (zI z), μ) = (rv, ν)) : zW X G nL pc lv [zI z] μ := zr_bret (F := fun _ : Unit => True) (B := some ()) hX hd hF (by rw [if_pos hz]; trivial) (fun _ => h)
theorem zr_lret (hX : zOk X G cc own nL (some .long) d) (hd : decode cc pc = .ok (.lreturn, 1)) {rv : Option zV} {z : Int} (hF : zFin X G rv ν) (h : (some (zJ z), μ) = (rv, ν)) : zW X G nL pc lv [zJ z] μ := fun H locs ls hM hst hlv hl hP hD hS => by
  cases h
  rw [hF]
  exact W.lret hX.1 hX.2.1 hX.2.2.2.2.2.1 (zEnd (rv := some (zJ z)) hX hM (fun v hv => by cases hv; exact zrS_hd hst) hP hD hS _) hS.2.2 hd hX.2.2.2.2.2.2.1
theorem zr_vret (hX : zOk X G cc own nL none d) (hd : decode cc pc = .ok (.return_, 1)) {rv : Option zV} (hF : zFin X G rv ν) (h : ((none : Option zV), μ) = (rv, ν)) : zW X G nL pc lv [] μ := fun H locs ls hM hst hlv hl hP hD hS => by
  cases h
  rw [hF]
  exact W.vret hX.1 hX.2.1 hX.2.2.2.2.2.1 (zEnd (rv := none) hX hM (fun v hv => by cases hv) hP hD hS _) hS.2.2 hd hX.2.2.2.2.2.2.1
theorem zr_aret {E : String} (hX : zOk X G cc own nL (some (.object E)) d) (hd : decode cc pc = .ok (.areturn, 1)) {rv : Option zV} {q : Option Nat} (hF : zFin X G rv ν) (h : (some (zN q), μ) = (rv, ν)) : zW X G nL pc lv [zN q] μ := fun H locs ls hM hst hlv hl hP hD hS => by
  cases h
  rw [hF]
  exact W.aret hX.1 hX.2.1 hX.2.2.2.2.2.1 (Or.inl ⟨_, rfl⟩) (by cases q with | none => exact Or.inl rfl | some o => exact Or.inr ⟨_, rfl⟩) (zEnd (rv := some (zN q)) hX hM (fun v hv => by cases hv; trivial) hP hD hS _) hS.2.2 hd hX.2.2.2.2.2.2.1
/-! from the walk to the contract -/
def zen : List zV → List (Option zV)
  | [] => []
  | v :: t => if zwide (some v) then some v :: none :: zen t else some v :: zen t
theorem ztl_app (G : zG) : ∀ (a : List (Option zV)) (i k : Nat), ztl G i (a ++ List.replicate k none) = ztl G i a
  | [], i, 0 => rfl
  | [], i, k + 1 => by
    show ztl G (i + 1) ([] ++ List.replicate k none) = _
    exact ztl_app G [] (i + 1) k
  | none :: t, i, k => ztl_app G t (i + 1) k
  | some v :: t, i, k => by
    show (i, zcv G v) :: ztl G (i + 1) (t ++ List.replicate k none) = (i, zcv G v) :: ztl G (i + 1) t
    rw [ztl_app G t (i + 1) k]
theorem ztl_zen (G : zG) : ∀ (as : List zV) (i : Nat), ztl G i (zen as) = lv_args i (as.map (zcv G))
  | [], i => rfl
  | v :: t, i => by
    cases hv : zwide (some v) with
    | false =>
      rw [show zen (v :: t) = some v :: zen t by simp [zen, hv]]
      show (i, zcv G v) :: ztl G (i + 1) (zen t) = (i, zcv G v) :: lv_args (if (zcv G v).category = 2 then i + 2 else i + 1) (t.map (zcv G))
      rw [ztl_zen G t (i + 1), zcat, hv]
      rfl
    | true =>
      rw [show zen (v :: t) = some v :: none :: zen t by simp [zen, hv]]
      show (i, zcv G v) :: ztl G (i + 1 + 1) (zen t) = (i, zcv G v) :: lv_args (if (zcv G v).category = 2 then i + 2 else i + 1) (t.map (zcv G))
      rw [ztl_zen G t (i + 1 + 1), zcat, hv]
      rfl
theorem zen_in : ∀ {as : List zV} {j : Nat} {v : zV}, (zen as)[j]? = some (some v) → v ∈ as
  | [], j, v, h => by simp [zen] at h
  | u :: t, j, v, h => by
    cases hv : zwide (some u) with
    | false =>
      rw [show zen (u :: t) = some u :: zen t by simp [zen, hv]] at h
      cases j with
      | zero => simp at h; exact h ▸ List.mem_cons_self
      | succ j => exact List.mem_cons_of_mem _ (zen_in (j := j) (by simpa using h))
    | true =>
      rw [show zen (u :: t) = some u :: none :: zen t by simp [zen, hv]] at h
      match j with
      | 0 => simp at h; exact h ▸ List.mem_cons_self
      | 1 => simp at h
      | j + 2 => exact List.mem_cons_of_mem _ (zen_in (j := j) (by simpa using h))
theorem zMet {l : Launch} {y : MethodName} {maxL k : Nat} {as : List zV} {rv : Option zV} (hy : plainName y.cls = true) (hlv : lv = zen as ++ List.replicate k none) (hlen : (lg_sl (as.map (zcv G))).length ≤ maxL)
    (body : ∀ X : zX, zXl X = l → zOk X G cc y.cls maxL ret d → zFin X G rv ν → zrS as → zrM μ → zW X G maxL 0 lv [] μ) : zCT l G y cc maxL ret d as μ rv ν := by
  intro hrs hM
  refine Met.ofW (cc := cc) (maxL := maxL) (ret := ret) hy rfl ?_
  intro p e s m args below meth c s₁ B hml hv
  obtain ⟨rfl, hP, hK, hSt, hD⟩ := hv
  have hts := atoms_spec (ws := .code y cc maxL ret :: zBIG) B.pre
  have hX : zOk (p, l, e, zrm d, s, m, (as.map (zcv G)).toArray, below, meth, c, MQ below (zQc G rv ν) (as.map (zcv G)).toArray s 0 0 (zgA G), 0, 0) G cc y.cls maxL ret d :=
    ⟨B.exec, B.bytes, hml, findClass_of_methodNamed B.named, fun w hw => hts w (List.mem_cons_of_mem _ hw), B.returns, B.notSynchronized, hK, hSt, ⟨Nat.le_refl _, Nat.le_refl _⟩, Nat.le_refl _, Nat.le_refl _⟩
  have hl := lv_entry (as.map (zcv G)) hlen
  have hw := body _ rfl hX rfl hrs hM s.heap [] _ hM (fun v h => by cases h) (fun j v hj => ?_) (zl_mono hl (fun q hq => ?_)) hP hD va_S.rf
  · rw [lg_entry_eq]
    exact hw
  · rw [hlv] at hj
    refine hrs v (zen_in (j := j) ?_)
    rcases Nat.lt_or_ge j (zen as).length with h | h
    · rw [List.getElem?_append_left h] at hj; exact hj
    · rw [List.getElem?_append_right h] at hj
      have := List.mem_of_getElem? hj
      simp at this
  · rw [hlv, ztl_app, ztl_zen] at hq
    exact hq
end ZR4
/-- fields' and calls' words, by one look -/
theorem zwf {w : Cond} (h : (decide (w ∈ lw_tbl) && goodWord w) = true) : w ∈ zBIG := by
  simp only [Bool.and_eq_true, decide_eq_true_eq] at h
  exact List.mem_filter.mpr h
theorem zsome_ite {α : Type} {c : Prop} [Decidable c] {a b : α} : (if c then some a else some b) = some (if c then a else b) := by split <;> rfl
/-- where an object's own objects are -/
def zkid (ci k : Nat) (s : Nat × Nat) : Bool := (List.range 56).all fun o => if zsh o = (0, ci) then zsh (o + k) = s else true
theorem zkid_of {ci k : Nat} {s : Nat × Nat} (h : zkid ci k s = true) {o : Nat} (ho : zsh o = (0, ci)) : zsh (o + k) = s := by
  have h1 := List.all_eq_true.mp h o (List.mem_range.mpr (zsh_lt ho (by omega)))
  rw [if_pos ho] at h1
  simpa using h1
def zsz (o : Nat) : Int := ((zsh o).2 : Int)
theorem zk31 {o : Nat} (ho : zsh o = (0, 3)) : zsh (o + 1) = (1, (zsh (o + 1)).2) := by
  have h : ∀ o < 56, zsh o = (0, 3) → (zsh (o + 1)).1 = 1 := by decide +kernel
  have h2 := h o (zsh_lt ho (by omega)) ho
  exact Prod.ext h2 rfl
theorem zkept {i : Int} (h : 0 ≤ i ∧ i < 3) : zsh (27 + 5 * i.toNat) = (0, 4) := by
  have : i.toNat = 0 ∨ i.toNat = 1 ∨ i.toNat = 2 := by omega
  rcases this with e | e | e <;> rw [e] <;> rfl
theorem zsz_r (o : Nat) : zrI (zsz o) := by
  have h : ∀ o < 56, (zsh o).2 < 20000 := by decide +kernel
  unfold zrI zsz
  rcases Nat.lt_or_ge o 56 with q | q
  · have := h o q; omega
  · have e : zsh o = (9, 0) := by
      unfold zsh
      rw [List.getD_eq_getElem?_getD, List.getElem?_eq_none (show zSH.length ≤ o from q)]
      rfl
    rw [e]
    omega
theorem z5 {a b c d e : Cond} (h1 : a ∈ zBIG) (h2 : b ∈ zBIG) (h3 : c ∈ zBIG) (h4 : d ∈ zBIG) (h5 : e ∈ zBIG) : ∀ w ∈ [a, b, c, d, e], w ∈ zBIG := fun w hw => by
  simp only [List.mem_cons, List.not_mem_nil, or_false] at hw
  rcases hw with h | h | h | h | h <;> rw [h] <;> assumption
theorem z4 {a b c d : Cond} (h1 : a ∈ zBIG) (h2 : b ∈ zBIG) (h3 : c ∈ zBIG) (h4 : d ∈ zBIG) : ∀ w ∈ [a, b, c, d], w ∈ zBIG := fun w hw => by
  simp only [List.mem_cons, List.not_mem_nil, or_false] at hw
  rcases hw with h | h | h | h <;> rw [h] <;> assumption
theorem z3 {a b c : Cond} (h1 : a ∈ zBIG) (h2 : b ∈ zBIG) (h3 : c ∈ zBIG) : ∀ w ∈ [a, b, c], w ∈ zBIG := fun w hw => by
  simp only [List.mem_cons, List.not_mem_nil, or_false] at hw
  rcases hw with h | h | h <;> rw [h] <;> assumption
