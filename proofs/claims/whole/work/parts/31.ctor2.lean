def zrm0 (d mc ms : Nat) : Room := { frames := d, cells := mc, slots := ms, locals := 64 * d }
def zGG (G : zG) : Prop := (∀ o, o < 56 → zgR G o = zgR G 0 + o) ∧ ∀ q, zgR G 0 ≤ q → zgA G q
def zR0 (G : zG) (μ : zM) (fl : zF) (n : Nat) (U : State) : Prop := va_P (zgD G) zcl (zw0 G μ fl n) U.heap ∧ va_K (zgD G) zcl (zty G) U ∧ zSt G U U.heap ∧ va_D (zgA G) (zw0 G μ fl n) ∧ va_AO "RoofLent$Story" U ∧ U.heap.size = zgR G 0 + n
def zQ0 (G : zG) (ν : zM) (fk : zF) (n : Nat) : Array Value → State → Outcome → State → Prop := fun _ st oc t => (oc = .returned none ∧ va_P (zgD G) zcl (zw0 G ν fk n) t.heap ∧ va_D (zgA G) (zw0 G ν fk n) ∧ zB0 ν fk n ∧ zrM ν ∧ t.heap.size = zgR G 0 + n) ∧ va_F (zgA G) st t
def zC0 (l : Launch) (G : zG) (y : MethodName) (cc : ByteArray) (maxL d mc ms : Nat) (as : List zV) (μ : zM) (fl : zF) (n : Nat) (ν : zM) (fk : zF) (n2 : Nat) : Prop :=
  zGG G → zB0 μ fl n → zrS as → zrM μ → Met l y (.code y cc maxL none :: zBIG) (zrm0 d mc ms) (va_Pc (as.map (zcv G)) (zR0 G μ fl n)) (zQ0 G ν fk n2) mc ms (zgA G)
theorem zR0_blind {G : zG} {as : List zV} {μ : zM} {fl : zF} {n : Nat} : FrameBlind (va_Pc (as.map (zcv G)) (zR0 G μ fl n)) := fun a U g mk q => ⟨q.1, q.2.1, va_K.moved (u := U) (U := U.calling g mk a) (Vm.Alike.refl U.vm) q.2.2.1, zSt_go (s := U) (t := U.calling g mk a) q.2.2.2.1 (Vm.Alike.refl U.vm) (zNw_same rfl) (fun _ _ _ => rfl), q.2.2.2.2.1, va_AO.moved (u := U) (U := U.calling g mk a) (Vm.Alike.refl U.vm) q.2.2.2.2.2.1, q.2.2.2.2.2.2⟩
section ZC0
variable {p : Program} {l : Launch} {e : Env} {R : Room} {s : State} {m : MethodId} {args : Array Value} {below : List Frame} {meth : Method} {c : Code} {H : Heap} {locs : List Loc} {cells slots mc ms : Nat} {Q : State → Prop} {pc : Nat} {ls : Array Slot} {rest st0 : List Value} {a : Array Value} {G : zG} {μ : zM} {fl : zF} {n : Nat}
theorem zcall0 (hr : va_Run p l e R s m args below meth c H locs cells slots mc ms (F0 m pc ls st0) rest (zQ0 G μ fl n a) (zgA G)) {H0 : Heap} (hS : va_S (zgA G) H0 H locs)
    (kk : ∀ (H1 : Heap) (locs1 : List Loc), va_P (zgD G) zcl (zw0 G μ fl n) H1 → va_D (zgA G) (zw0 G μ fl n) → zB0 μ fl n → zrM μ → H1.size = zgR G 0 + n → va_S (zgA G) H0 H1 locs1 → W p l e R s m args below meth c H1 locs1 (cells + mc) (slots + ms) Q (F0 m (pc + 3) ls rest)) : W p l e R s m args below meth c H locs cells slots Q (F0 m pc ls st0) := by
  intro T hT X
  obtain ⟨v, st₀, t, T', L, h0, X', hL, e1, e2, ⟨⟨hv, hw, hD, hB, hM, hz0⟩, hz, hk⟩, st⟩ := hr T hT X
  cases hv
  rw [h0] at hz hk
  obtain ⟨t2, a1, b1⟩ := kk T'.heap (locs ++ L) (by rw [e1]; exact hw) hD hB hM (by rw [e1]; exact hz0)
    ⟨Nat.le_trans hS.1 (by rw [e1]; exact hz), fun q h1 h2 => by rw [e1, hk q (Nat.lt_of_lt_of_le h1 hS.1) h2]; exact hS.2.1 q h1 h2, fun q hq => by
      rcases List.mem_append.mp hq with h | h
      · exact hS.2.2 q h
      · exact hL q h⟩ T' rfl X'
  exact ⟨t2, st t2 a1, b1⟩
end ZC0
section Z02
variable {X : zX} {G : zG} {cc : ByteArray} {own : String} {nL d mc ms pc n cn sn n2 : Nat} {lv : List (Option zV)} {st stk : List zV} {μ ν : zM} {fl fk : zF}
theorem zPre0 {H : Heap} {locs : List Loc} {as : List zV} (hX : zO0 X G cc own nL d mc ms) (hP : va_P (zgD G) zcl (zw0 G μ fl n) H) (hD : va_D (zgA G) (zw0 G μ fl n)) (hS : va_S (zgA G) (zXs X).heap H locs) (hz : H.size = zgR G 0 + n) : ∀ U : State, U.heap = H → (zXs X).WarmedH U.vm → va_Pc (as.map (zcv G)) (zR0 G μ fl n) (as.map (zcv G)).toArray U := fun U hU hW =>
  ⟨rfl, by rw [hU]; exact hP, va_K.moved hW.alike hX.2.2.2.2.2.1, by rw [hU]; exact zSt_go hX.2.2.2.2.2.2.1 hW.alike (zNw_warm hW) (fun q h1 h2 => hS.2.1 q h1 h2), hD, va_AO.moved hW.alike hX.2.2.2.2.2.2.2.2.2.1, by rw [hU]; exact hz⟩
theorem z0_callI {y : MethodName} {cc2 : ByteArray} {mL2 d2 o k2 ix mc2 ms2 : Nat} {As : List zV} (hX : zO0 X G cc own nL d mc ms) (hd : decode cc pc = .ok (.invokespecial ix, 3)) (hM : zC0 (zXl X) G y cc2 mL2 d2 mc2 ms2 (zR o :: As) μ fl n ν fk n2) (hstk : stk = As.reverse ++ zR o :: st) (hGG : zGG G)
    (hw : ∀ w ∈ ([.methodLink own ix y, .instanceMethod y, .initialized y.cls, .code y cc2 mL2 none] : List Cond), w ∈ zBIG) (hy : y.name = "<init>" ∧ y.cls ≠ "java/lang/invoke/MethodHandle" ∧ y.cls ≠ "java/lang/invoke/VarHandle" ∧ (parseMethodDescriptor y.desc).map (fun d => d.parameters.length) = some k2) (hn : As.length = k2) (hdd : d2 + 1 ≤ d) (hmL : mL2 ≤ 45) (hl0 : st.length ≤ 4) (hr : cn + mc2 ≤ mc ∧ sn + ms2 ≤ ms)
    (kk : zW0 X G nL (pc + 3) lv st ν fk n2 (cn + mc2) (sn + ms2)) : zW0 X G nL pc lv stk μ fl n cn sn := fun H locs ls hB hM0 hst hlv hl hP hD hS hz => by
  subst hstk
  have hroom := hX.2.2.2.2.2.2.2.1
  have hroom2 := hX.2.2.2.2.2.2.2.2.1
  have hrs : zrS (zR o :: As) := fun v hv => by
    rcases List.mem_cons.mp hv with rfl | hv
    · trivial
    · exact hst v (List.mem_append_left _ (List.mem_reverse.mpr hv))
  have hMet := hM hGG hB hrs hM0
  have hgood : GoodIn zBIG (.code y cc2 mL2 none :: zBIG) := fun w hw2 => by
    rcases List.mem_cons.mp hw2 with h | h
    · exact zbig_g (hw w (by simp [h]))
    · exact zbig_g h
  have hrun := va_runI (R := zXR X) (p := zXp X) (e := zXe X) (below := zXb X) (meth := zXM X) (locs := locs) (cells := cn) (slots := sn) (cc := cc) (nL := nL) (Ts := zBIG) (own := own) (n := k2) (index := ix) (b := zgR G o) (H := H) (g := F0 (zXm X) pc ls ((As.reverse ++ zR o :: st).map (zcv G))) (rest := st.map (zcv G)) (As := As.map (zcv G))
    ⟨hX.1, hX.2.1, hX.2.2.1, hX.2.2.2.1, hX.2.2.2.2.1⟩ hMet
    (cwI (rm := zrm0 d2 mc2 ms2) k2 hX.2.2.2.2.1 hgood rfl rfl rfl (hX.2.2.2.2.1 _ (hw _ (by simp))) (hX.2.2.2.2.1 _ (hw _ (by simp))) (hX.2.2.2.2.1 _ (hw _ (by simp))) hy.1 hy.2 ⟨by show d2 + 1 ≤ _; have := hroom.1; omega, by show 8 + (mL2 + 11) + 64 * d2 ≤ _; have := hroom.2; omega⟩)
    ⟨zR0_blind, fun U hU hW => zPre0 (as := zR o :: As) hX hP hD hS hz U hU hW⟩ rfl (by rw [List.length_map]; exact hn) hl.1 (by simp [List.map_append, List.map_reverse]; rfl) (lv_room (pc := pc) (ls := ls) (rest := []) (m := zXm X) (z_lroom G hl0)) hd ⟨by omega, by omega⟩
  exact zcall0 hrun hS (fun H1 locs1 hP1 hD1 hB1 hM1 hz1 hS1 => kk H1 locs1 ls hB1 hM1 (fun v h => hst v (List.mem_append_right _ (List.mem_cons_of_mem _ h))) hlv hl hP1 hD1 hS1 hz1)
theorem z0_callIN {y : MethodName} {cc2 : ByteArray} {mL2 d2 o k2 ix mc2 ms2 : Nat} {As : List zV} (hX : zO0 X G cc own nL d mc ms) (hd : decode cc pc = .ok (.invokespecial ix, 3)) (hM : zC0 (zXl X) G y cc2 mL2 d2 mc2 ms2 (zR o :: As) μ fl n ν fk n2) (hstk : stk = As.reverse ++ zR o :: st) (hGG : zGG G) (hwn : (own, ix, y, "RoofLent") ∈ zNM)
    (hw : ∀ w ∈ ([.instanceMethod y, .initialized y.cls, .code y cc2 mL2 none] : List Cond), w ∈ zBIG) (hy : y.name = "<init>" ∧ y.cls ≠ "java/lang/invoke/MethodHandle" ∧ y.cls ≠ "java/lang/invoke/VarHandle" ∧ (parseMethodDescriptor y.desc).map (fun d => d.parameters.length) = some k2) (hn : As.length = k2) (hdd : d2 + 1 ≤ d) (hmL : mL2 ≤ 45) (hl0 : st.length ≤ 4) (hr : cn + mc2 ≤ mc ∧ sn + ms2 ≤ ms)
    (kk : zW0 X G nL (pc + 3) lv st ν fk n2 (cn + mc2) (sn + ms2)) : zW0 X G nL pc lv stk μ fl n cn sn := fun H locs ls hB hM0 hst hlv hl hP hD hS hz => by
  subst hstk
  have hroom := hX.2.2.2.2.2.2.2.1
  have hroom2 := hX.2.2.2.2.2.2.2.2.1
  have hrs : zrS (zR o :: As) := fun v hv => by
    rcases List.mem_cons.mp hv with rfl | hv
    · trivial
    · exact hst v (List.mem_append_left _ (List.mem_reverse.mpr hv))
  have hMet := hM hGG hB hrs hM0
  have hgood : GoodIn zBIG (.code y cc2 mL2 none :: zBIG) := fun w hw2 => by
    rcases List.mem_cons.mp hw2 with h | h
    · exact zbig_g (hw w (by simp [h]))
    · exact zbig_g h
  have hrun := va_runIN (R := zXR X) (p := zXp X) (e := zXe X) (below := zXb X) (meth := zXM X) (locs := locs) (cells := cn) (slots := sn) (cc := cc) (nL := nL) (Ts := zBIG) (own := own) (n := k2) (index := ix) (b := zgR G o) (H := H) (g := F0 (zXm X) pc ls ((As.reverse ++ zR o :: st).map (zcv G))) (rest := st.map (zcv G)) (As := As.map (zcv G))
    ⟨hX.1, hX.2.1, hX.2.2.1, hX.2.2.2.1, hX.2.2.2.2.1⟩ hMet
    ⟨va_cnB (rm := zrm0 d2 mc2 ms2) (host := "RoofLent") k2 hX.2.2.2.2.1 hgood rfl rfl rfl (hX.2.2.2.2.2.2.1.2.2 _ hwn) (hX.2.2.2.2.1 _ (hw _ (by simp))) hy.2 ⟨by show d2 + 1 ≤ _; have := hroom.1; omega, by show 8 + (mL2 + 11) + 64 * d2 ≤ _; have := hroom.2; omega⟩, hy.1, hX.2.2.2.2.1 _ (hw _ (by simp))⟩
    ⟨zR0_blind, fun U hU hW => zPre0 (as := zR o :: As) hX hP hD hS hz U hU hW⟩ rfl (by rw [List.length_map]; exact hn) hl.1 (by simp [List.map_append, List.map_reverse]; rfl) (lv_room (pc := pc) (ls := ls) (rest := []) (m := zXm X) (z_lroom G hl0)) hd ⟨by omega, by omega⟩
  exact zcall0 hrun hS (fun H1 locs1 hP1 hD1 hB1 hM1 hz1 hS1 => kk H1 locs1 ls hB1 hM1 (fun v h => hst v (List.mem_append_right _ (List.mem_cons_of_mem _ h))) hlv hl hP1 hD1 hS1 hz1)
def zFin0 (X : zX) (G : zG) (ν : zM) (fk : zF) (n mc ms : Nat) : Prop := zXQ X = MQ (zXb X) (zQ0 G ν fk n) (zXa X) (zXs X) mc ms (zgA G) ∧ (zXM X).sig.returnType = none ∧ (zXM X).locks = false
theorem z0_vret (hX : zO0 X G cc own nL d mc ms) (hd : decode cc pc = .ok (.return_, 1)) (hF : zFin0 X G ν fk n2 cn sn) (h : (μ, fl, n) = (ν, fk, n2)) : zW0 X G nL pc lv [] μ fl n cn sn := fun H locs ls hB hM hst hlv hl hP hD hS hz => by
  cases h
  rw [hF.1]
  exact W.vret hX.1 hX.2.1 hF.2.1 (fun t ht hW => ⟨⟨rfl, by rw [ht]; exact hP, hD, hB, hM, by rw [ht]; exact hz⟩, hS.F ht⟩) hS.2.2 hd hF.2.2
theorem zMet0 {l : Launch} {y : MethodName} {maxL k : Nat} {as : List zV} (hy : plainName y.cls = true) (hnm : y.name = "<init>") (hlv : lv = zen as ++ List.replicate k none) (hlen : (lg_sl (as.map (zcv G))).length ≤ maxL)
    (body : ∀ X : zX, zXl X = l → zO0 X G cc y.cls maxL d mc ms → zFin0 X G ν fk n2 mc ms → zW0 X G maxL 0 lv [] μ fl n 0 0) : zC0 l G y cc maxL d mc ms as μ fl n ν fk n2 := by
  intro hGG hB hrs hM
  refine Met.ofW (cc := cc) (maxL := maxL) (ret := none) hy rfl ?_
  intro p e s m args below meth c s₁ B hml hv
  obtain ⟨rfl, hP, hK, hSt, hD, hAO, hz⟩ := hv
  have hts := atoms_spec (ws := .code y cc maxL none :: zBIG) B.pre
  have hin : meth.name = "<init>" := by rw [← hnm]; exact (name_of_methodNamed B.named B.method).1
  have hX : zO0 (p, l, e, zrm0 d mc ms, s, m, (as.map (zcv G)).toArray, below, meth, c, MQ below (zQ0 G ν fk n2) (as.map (zcv G)).toArray s mc ms (zgA G), 0, 0) G cc y.cls maxL d mc ms :=
    ⟨B.exec, B.bytes, hml, findClass_of_methodNamed B.named, fun w hw => hts w (List.mem_cons_of_mem _ hw), hK, hSt, ⟨Nat.le_refl _, Nat.le_refl _⟩, ⟨Nat.le_refl _, Nat.le_refl _⟩, hAO, fun _ => hin, hGG.1, fun q hq => hGG.2 q (by have : s.heap.size ≤ q := hq; omega)⟩
  have hl := lv_entry (as.map (zcv G)) hlen
  have hw := body _ rfl hX ⟨rfl, B.returns, B.notSynchronized⟩ s.heap [] _ hB hM (fun v h => by cases h) (fun j v hj => ?_) (zl_mono hl (fun q hq => ?_)) hP hD va_S.rf hz
  · rw [lg_entry_eq]
    exact hw
  · rw [hlv] at hj
    refine hrs v (zen_in (j := j) ?_)
    rcases Nat.lt_or_ge j (zen as).length with h | h
    · rw [List.getElem?_append_left h] at hj; exact hj
    · rw [List.getElem?_append_right h] at hj
      have := List.mem_of_getElem? hj
      simp at this
  · rw [hlv, ztl_app, ztl_zen] at hq
    exact hq
end Z02
