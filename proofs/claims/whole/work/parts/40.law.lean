/-! THE CLAIM OUT OF ONE WALK OF THE LAW'S BODY. Your part is whole_start (and what it stands on); all else here is the same for every law, but numbers. -/
def R_law : String := "RoofLentLaw"
def lw_P (b : Addr) (xs : List Int32) (args : Array Value) (s : State) : Prop := args = #[.ref b] ∧ s.IntsAt b xs ∧ xs.length ≤ 3072 ∧ (Jvm.Cond.and given_1 narrow_1).before args s = true
def lw_Q (_ : Array Value) (s : State) (o : Outcome) (t : State) : Prop := o = .returned (some (.int 1)) ∧ Framed s o t [] 600000 7302250
def lw_Z (below : List Frame) (a : Array Value) (s : State) : State → Prop := fun t => ∃ o, t.status = .running ∧ Ended t below o ∧ lw_Q a s o t
/-- the law's own end, with 1 on the stack, nothing written that was there before, its room as the claim has it -/
theorem lw_ret {p : Program} {l : Launch} {e : Env} {s : State} {m : MethodId} {below : List Frame} {meth : Method} {c : Code} {b : Nat} (hx : p.tables.exec = Jvm.exec) (hb : c.code = code) (hr : meth.sig.returnType = ret) (hlocks : meth.locks = false) {pc : Nat} {H : Heap} {ls : Array Slot} (hdg : decode code pc = .ok (.ireturn, 1)) : W p l e room_1 s m #[Value.ref b] below meth c H [] 600000 7302250 (lw_Z below #[Value.ref b] s) (F0 m pc ls [.int 1]) := by
  intro T hT X
  obtain ⟨fs, hret, hrun, hended, hW, hframe⟩ := X.leave (v := some (.int 1)) (hlocks := hlocks) (fun h => by rw [hr] at h; cases h)
  have hmeth' : T.vm.method? m = some meth := X.method'
  refine ⟨T.setFrames fs, ?_, .returned (some (.int 1)), hrun, hended, rfl, ⟨_, rfl⟩, hW, hframe⟩
  jvm_step X.here [X.here.top, hx, hb, hdg, hmeth', hr, ret, narrow_b1]
  (try refine ⟨rfl, ?_⟩); (try refine ⟨rfl, ?_⟩)
  first | (intro acts; rw [hret _ acts rfl rfl rfl]) | rw [hret _ _ rfl rfl rfl]
  exact Steps.refl _
/-- what holds at the law's entry: the machine, the code, the tables' words (any of lw_tbl by 'hts w (by decide +kernel)'), the script of L ints xs at the cell b, what the Statement gives of the start (any of its parts by flat_of_before) -/
def lw_At (p : Program) (s : State) (m : MethodId) (meth : Method) (c : Code) (b L : Nat) (xs : Nat → Int32) : Prop :=
  p.tables.exec = Jvm.exec ∧ c.code = code ∧ meth.sig.returnType = ret ∧ c.maxLocals = 4 ∧ s.vm.findClass R_law = some m.cls ∧ (∀ w ∈ lw_tbl, w.before #[Value.ref b] s = true) ∧ va_X b L xs s s.heap ∧ b < s.heap.size ∧ meth.locks = false ∧ (Jvm.Cond.and given_1 narrow_1).before #[Value.ref b] s = true

def zSc (X : zX) (G : zG) (sc : Nat → Int) (L : Nat) : Prop := ∃ xs : Nat → Int32, va_X (zgR G 70) L xs (zXs X) (zXs X).heap ∧ zgR G 70 < (zXs X).heap.size ∧ ¬ zgA G (zgR G 70) ∧ ∀ j, Int32.ofInt (sc j) = xs j ∧ zrI (sc j)
def zFinL (X : zX) : Prop := ∃ b : Nat, zXa X = #[Value.ref b] ∧ zXQ X = lw_Z (zXb X) #[Value.ref b] (zXs X) ∧ zXR X = room_1 ∧ zXn X ≤ 600000 ∧ zXk X ≤ 7302250
section ZLAW
variable {X : zX} {G : zG} {cc : ByteArray} {own : String} {nL d pc : Nat} {lv : List (Option zV)} {st : List zV} {μ : zM} {sc : Nat → Int} {L : Nat} {N : Int}
theorem zr_scl {τ : Type} {F : τ → Prop} {B : Option τ} {i : Int} (hX : zOk X G cc own nL ret d) (hd : decode cc pc = .ok (.iaload, 1)) (hSc : zSc X G sc L) (hN : (L : Int) = N) (h : zP F (if 0 ≤ i ∧ i < N then B else none)) (k : zP F B → zW X G nL (pc + 1) lv (zI (sc i.toNat) :: st) μ) : zW X G nL pc lv (zI i :: zR 70 :: st) μ := zP_if h fun hc h H locs ls hM hst hlv hl hP hD hS => by
  have hi : zrI i := zrS_hd hst
  obtain ⟨xs, h1, h2, h3, h4⟩ := hSc
  refine va_sld hX.1 hX.2.1 h1 h2 h3 hS (z_in hi hc.1 (by omega)) hd ?_
  rw [z_nat hi, ← (h4 i.toNat).1]
  exact k h H locs ls hM (zrS_cons (h4 _).2 (zrS_tl (zrS_tl hst))) hlv hl hP hD hS
theorem zr_sclen (hX : zOk X G cc own nL ret d) (hd : decode cc pc = .ok (.arraylength, 1)) (hSc : zSc X G sc L) (hN : (L : Int) = N) (hr : zrI N) (k : zW X G nL (pc + 1) lv (zI N :: st) μ) : zW X G nL pc lv (zR 70 :: st) μ := fun H locs ls hM hst hlv hl hP hD hS => by
  obtain ⟨xs, h1, h2, h3, h4⟩ := hSc
  refine va_slen hX.1 hX.2.1 h1 h2 h3 hS hd ?_
  rw [z_ofNat, hN]
  exact k H locs ls hM (zrS_cons hr (zrS_tl hst)) hlv hl hP hD hS
/-- the law's end: with 1 -/
theorem zr_lawret {z : Int} (hX : zOk X G code own nL ret d) (hd : decode code pc = .ok (.ireturn, 1)) (hF : zFinL X ∧ ∀ q, zgA G q → (zXs X).heap.size ≤ q) (h : z = 1) : zW X G nL pc lv [zI z] μ := fun H locs ls hM hst hlv hl hP hD hS => by
  subst h
  obtain ⟨⟨b, ha, hQ, hR, hc, hk⟩, hA⟩ := hF
  obtain ⟨p, l, e, R, s, m, args, below, meth, c, Q, cells, slots⟩ := X
  have ha : args = #[Value.ref b] := ha
  have hR : R = room_1 := hR
  have hQ : Q = lw_Z below #[Value.ref b] s := hQ
  show W p l e R s m args below meth c H locs cells slots Q (F0 m pc ls [Value.int 1])
  rw [ha, hR, hQ]
  refine va_forget (fun q hq => hA _ (hS.2.2 q hq)) ?_
  refine W.widen (k := 600000) (n := 7302250) hc hk ?_
  exact lw_ret hX.1 hX.2.1 hX.2.2.2.2.2.1 hX.2.2.2.2.2.2.1 hd
end ZLAW
