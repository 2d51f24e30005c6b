/-! CONSTRUCTORS: worlds that grow. n objects are there; which references are set, is told by fl -/
abbrev zF : Type := Nat → Nat → Bool
def zfst (fl : zF) (o k : Nat) : zF := fun p q => if p = o ∧ q = k then true else fl p q
def zf0 (G : zG) (μ : zM) (fl : zF) (o k : Nat) : Nat × Nat → Value
  | (0, _) => .int (Int32.ofInt (μ o k))
  | (1, _) => .long (Int64.ofInt (μ o k))
  | (_, f) => if fl o k then .ref (zgR G (o + f)) else .null
def zc0 (G : zG) (μ : zM) (fl : zF) (o : Nat) : va_E := match zsh o with
  | (0, ci) => .inr (ci, (zFK ci).mapIdx (fun k t => zf0 G μ fl o k t))
  | (1, n) => .inl (zgI G, n, .inl fun k => Int32.ofInt (μ o k))
  | (2, n) => .inl (zgZ G, n, .inl fun k => Int32.ofInt (μ o k))
  | (_, n) => .inl (zgS G, n, .inr (.inr (.inr (.inr fun k => if fl o k then some (zgR G (27 + 5 * k)) else none))))
def zw0 (G : zG) (μ : zM) (fl : zF) (n : Nat) : va_W := (List.range n).map fun o => (zgR G o, zc0 G μ fl o)
theorem zw0_get (G : zG) (μ : zM) (fl : zF) {n o : Nat} (h : o < n) : (zw0 G μ fl n)[o]? = some (zgR G o, zc0 G μ fl o) := by
  unfold zw0
  rw [List.getElem?_map, List.getElem?_range h]
  rfl
theorem zw0_succ (G : zG) (μ : zM) (fl : zF) (n : Nat) : zw0 G μ fl (n + 1) = zw0 G μ fl n ++ [(zgR G n, zc0 G μ fl n)] := by
  unfold zw0
  rw [List.range_succ, List.map_append]
  rfl
theorem zc0_congr {G : zG} {μ ν : zM} {fl fk : zF} {o : Nat} (h : ν o = μ o) (hf : fk o = fl o) : zc0 G ν fk o = zc0 G μ fl o := by
  unfold zc0
  split
  · congr 2
    apply List.ext_getElem?
    intro i
    simp only [List.getElem?_mapIdx]
    cases (zFK _)[i]? with
    | none => rfl
    | some t =>
      simp only [Option.map_some]
      unfold zf0
      split <;> first | rw [h] | rw [hf]
  · rw [h]
  · rw [h]
  · rw [hf]
theorem zw0_set {G : zG} {μ ν : zM} {fl fk : zF} {n o : Nat} {e : va_E} (ho : o < n) (he : zc0 G ν fk o = e) (hne : ∀ q, q ≠ o → ν q = μ q) (hnf : ∀ q, q ≠ o → fk q = fl q) : (zw0 G μ fl n).set o (zgR G o, e) = zw0 G ν fk n := by
  apply List.ext_getElem?
  intro i
  rcases Nat.lt_or_ge i n with hi | hi
  · rw [zw0_get G ν fk hi]
    by_cases h : i = o
    · subst h
      rw [List.getElem?_set_self (by unfold zw0; simpa using hi), he]
    · rw [List.getElem?_set_ne (fun q => h q.symm), zw0_get G μ fl hi, zc0_congr (hne i h) (hnf i h)]
  · rw [List.getElem?_eq_none (by unfold zw0; simpa using hi), List.getElem?_eq_none (by unfold zw0; simpa using hi)]
theorem zfst_ne {fl : zF} {o k : Nat} : ∀ q, q ≠ o → zfst fl o k q = fl q := by
  intro q hq
  funext j
  unfold zfst
  rw [if_neg (fun h => hq h.1)]
theorem zc0_obj {G : zG} {μ : zM} {fl : zF} {o ci : Nat} (h : zsh o = (0, ci)) : zc0 G μ fl o = .inr (ci, (zFK ci).mapIdx (fun k t => zf0 G μ fl o k t)) := by unfold zc0; rw [h]; rfl
theorem zc0_int {G : zG} {μ : zM} {fl : zF} {o n : Nat} (h : zsh o = (1, n)) : zc0 G μ fl o = .inl (zgI G, n, .inl fun k => Int32.ofInt (μ o k)) := by unfold zc0; rw [h]; rfl
theorem zc0_bool {G : zG} {μ : zM} {fl : zF} {o n : Nat} (h : zsh o = (2, n)) : zc0 G μ fl o = .inl (zgZ G, n, .inl fun k => Int32.ofInt (μ o k)) := by unfold zc0; rw [h]; rfl
theorem zc0_ref {G : zG} {μ : zM} {fl : zF} {o n : Nat} (h : zsh o = (3, n)) : zc0 G μ fl o = .inl (zgS G, n, .inr (.inr (.inr (.inr fun k => if fl o k then some (zgR G (27 + 5 * k)) else none)))) := by unfold zc0; rw [h]; rfl
theorem zf0_get {G : zG} {μ : zM} {fl : zF} {o ci k : Nat} {t : Nat × Nat} (hk : (zFK ci)[k]? = some t) : ((zFK ci).mapIdx (fun k t => zf0 G μ fl o k t))[k]? = some (zf0 G μ fl o k t) := by simp [hk]
theorem zf0_set {G : zG} {μ ν : zM} {fl fk : zF} {o ci k : Nat} {t : Nat × Nat} {w : Value} (hk : (zFK ci)[k]? = some t) (hw : zf0 G ν fk o k t = w) (hν : ∀ j, j ≠ k → ν o j = μ o j) (hf : ∀ j, j ≠ k → fk o j = fl o j) : (zFK ci).mapIdx (fun j t => zf0 G ν fk o j t) = ((zFK ci).mapIdx (fun k t => zf0 G μ fl o k t)).set k w := by
  apply List.ext_getElem?
  intro i
  have hlen : k < (zFK ci).length := (List.getElem?_eq_some_iff.mp hk).1
  by_cases h : i = k
  · subst h
    rw [zf0_get hk, List.getElem?_set_self (by simpa using hlen), hw]
  · rw [List.getElem?_set_ne (fun q => h q.symm)]
    simp only [List.getElem?_mapIdx]
    cases (zFK ci)[i]? with
    | none => rfl
    | some t2 =>
      simp only [Option.map_some]
      unfold zf0
      split <;> first | rw [hν i h] | rw [hf i h]
/-- a start of nothing: what isn't there holds nothing -/
def zB0 (μ : zM) (fl : zF) (n : Nat) : Prop := ∀ q k : Nat, n ≤ q → μ q k = 0 ∧ fl q k = false
theorem zB0_st {μ : zM} {fl : zF} {n o k : Nat} {v : Int} (h : zB0 μ fl n) (ho : o < n) : zB0 (zst μ o k v) fl n := fun p q hp => by
  refine ⟨?_, (h p q hp).2⟩
  unfold zst
  rw [if_neg (fun z => by omega)]
  exact (h p q hp).1
theorem zB0_f {μ : zM} {fl : zF} {n o k : Nat} (h : zB0 μ fl n) (ho : o < n) : zB0 μ (zfst fl o k) n := fun p q hp => by
  refine ⟨(h p q hp).1, ?_⟩
  unfold zfst
  rw [if_neg (fun z => by omega)]
  exact (h p q hp).2
/-- the facts of a constructor's walk -/
def zO0 (X : zX) (G : zG) (cc : ByteArray) (own : String) (nL d mc ms : Nat) : Prop :=
  (zXp X).tables.exec = Jvm.exec ∧ (zXc X).code = cc ∧ (zXc X).maxLocals = nL ∧ (zXs X).vm.findClass own = some (zXm X).cls ∧ (∀ w ∈ zBIG, w.before (zXa X) (zXs X) = true) ∧
  va_K (zgD G) zcl (zty G) (zXs X) ∧ zSt G (zXs X) (zXs X).heap ∧ (d ≤ (zXR X).frames ∧ 64 * d ≤ (zXR X).locals) ∧ (mc ≤ (zXR X).cells ∧ ms ≤ (zXR X).slots) ∧ va_AO "RoofLent$Story" (zXs X) ∧ (own ≠ RL → (zXM X).name = "<init>") ∧ (∀ o, o < 56 → zgR G o = zgR G 0 + o) ∧ (∀ q, (zXs X).heap.size ≤ q → zgA G q)
def zW0 (X : zX) (G : zG) (nL pc : Nat) (lv : List (Option zV)) (st : List zV) (μ : zM) (fl : zF) (n cn sn : Nat) : Prop :=
  ∀ (H : Heap) (locs : List Loc) (ls : Array Slot), zB0 μ fl n → zrM μ → zrS st → zrL lv → lv_has ls nL (ztl G 0 lv) → va_P (zgD G) zcl (zw0 G μ fl n) H → va_D (zgA G) (zw0 G μ fl n) → va_S (zgA G) (zXs X).heap H locs → H.size = zgR G 0 + n →
    W (zXp X) (zXl X) (zXe X) (zXR X) (zXs X) (zXm X) (zXa X) (zXb X) (zXM X) (zXc X) H locs cn sn (zXQ X) (F0 (zXm X) pc ls (st.map (zcv G)))
section Z0
variable {X : zX} {G : zG} {cc : ByteArray} {own : String} {nL d mc ms pc n cn sn : Nat} {lv : List (Option zV)} {st : List zV} {μ : zM} {fl : zF}
theorem z0_iconst (hX : zO0 X G cc own nL d mc ms) {z : Int} (hd : decode cc pc = .ok (.iconst z, 1)) (hr : zrI z) (k : zW0 X G nL (pc + 1) lv (zI z :: st) μ fl n cn sn) : zW0 X G nL pc lv st μ fl n cn sn := fun H locs ls hB hM hst hlv hl hP hD hS hz =>
  lv_iconst hX.1 hX.2.1 hd rfl (k H locs ls hB hM (zrS_cons hr hst) hlv hl hP hD hS hz)
theorem z0_bipush (hX : zO0 X G cc own nL d mc ms) {z : Int} (hd : decode cc pc = .ok (.bipush z, 2)) (hb : (decide (-128 ≤ z) && decide (z ≤ 127)) = true) (k : zW0 X G nL (pc + 2) lv (zI z :: st) μ fl n cn sn) : zW0 X G nL pc lv st μ fl n cn sn := fun H locs ls hB hM hst hlv hl hP hD hS hz =>
  lv_bipush hX.1 hX.2.1 hd (z_b8 hb).1 (k H locs ls hB hM (zrS_cons (z_b8 hb).2 hst) hlv hl hP hD hS hz)
theorem z0_sipush (hX : zO0 X G cc own nL d mc ms) {z : Int} (hd : decode cc pc = .ok (.sipush z, 3)) (hb : (decide (-32768 ≤ z) && decide (z ≤ 32767)) = true) (k : zW0 X G nL (pc + 3) lv (zI z :: st) μ fl n cn sn) : zW0 X G nL pc lv st μ fl n cn sn := fun H locs ls hB hM hst hlv hl hP hD hS hz =>
  lv_sipush hX.1 hX.2.1 hd (z_b16 hb).1 (k H locs ls hB hM (zrS_cons (z_b16 hb).2 hst) hlv hl hP hD hS hz)
theorem z0_lconst (hX : zO0 X G cc own nL d mc ms) {q : Fin 2} {z : Int} (hd : decode cc pc = .ok (.lconst q, 1)) (hv : Int64.ofNat (q : Nat) = Int64.ofInt z) (hr : zrJ z) (k : zW0 X G nL (pc + 1) lv (zJ z :: st) μ fl n cn sn) : zW0 X G nL pc lv st μ fl n cn sn := fun H locs ls hB hM hst hlv hl hP hD hS hz =>
  lv_lconst hX.1 hX.2.1 hd hv (k H locs ls hB hM (zrS_cons hr hst) hlv hl hP hD hS hz)
theorem z0_iload_n (hX : zO0 X G cc own nL d mc ms) {q : Fin 4} {i : Nat} {z : Int} (hd : decode cc pc = .ok (.iload_n q, 1)) (hi : (q : Nat) = i) (h : lv[i]? = some (some (zI z))) (k : zW0 X G nL (pc + 1) lv (zI z :: st) μ fl n cn sn) : zW0 X G nL pc lv st μ fl n cn sn := fun H locs ls hB hM hst hlv hl hP hD hS hz =>
  lv_iload_n hX.1 hX.2.1 hd hi (zl_at hl h) (k H locs ls hB hM (zrS_cons (hlv _ _ h) hst) hlv hl hP hD hS hz)
theorem z0_iload (hX : zO0 X G cc own nL d mc ms) {i : Nat} {z : Int} (hd : decode cc pc = .ok (.iload i, 2)) (h : lv[i]? = some (some (zI z))) (k : zW0 X G nL (pc + 2) lv (zI z :: st) μ fl n cn sn) : zW0 X G nL pc lv st μ fl n cn sn := fun H locs ls hB hM hst hlv hl hP hD hS hz =>
  lv_iload hX.1 hX.2.1 hd (zl_at hl h) (k H locs ls hB hM (zrS_cons (hlv _ _ h) hst) hlv hl hP hD hS hz)
theorem z0_aload_n (hX : zO0 X G cc own nL d mc ms) {q : Fin 4} {i o : Nat} (hd : decode cc pc = .ok (.aload_n q, 1)) (hi : (q : Nat) = i) (h : lv[i]? = some (some (zR o))) (k : zW0 X G nL (pc + 1) lv (zR o :: st) μ fl n cn sn) : zW0 X G nL pc lv st μ fl n cn sn := fun H locs ls hB hM hst hlv hl hP hD hS hz =>
  lv_aload_n hX.1 hX.2.1 hd hi (zl_at hl h) (k H locs ls hB hM (zrS_cons (hlv _ _ h) hst) hlv hl hP hD hS hz)
theorem z0_istore_n (hX : zO0 X G cc own nL d mc ms) {q : Fin 4} {i : Nat} {z : Int} (hd : decode cc pc = .ok (.istore_n q, 1)) (hi : (q : Nat) = i) (hn : i < nL) {lw : List (Option zV)} (hw : zset lv i (zI z) = lw) (k : zW0 X G nL (pc + 1) lw st μ fl n cn sn) : zW0 X G nL pc lv (zI z :: st) μ fl n cn sn := fun H locs ls hB hM hst hlv hl hP hD hS hz =>
  lv_istore_n hX.1 hX.2.1 hd hi hl hn rfl (fun ls' h' => k H locs ls' hB hM (zrS_tl hst) (hw ▸ zrL_set hlv (zrS_hd hst)) (hw ▸ zl_set1 rfl h') hP hD hS hz)
theorem z0_istore (hX : zO0 X G cc own nL d mc ms) {i : Nat} {z : Int} (hd : decode cc pc = .ok (.istore i, 2)) (hn : i < nL) {lw : List (Option zV)} (hw : zset lv i (zI z) = lw) (k : zW0 X G nL (pc + 2) lw st μ fl n cn sn) : zW0 X G nL pc lv (zI z :: st) μ fl n cn sn := fun H locs ls hB hM hst hlv hl hP hD hS hz =>
  lv_istore hX.1 hX.2.1 hd hl hn rfl (fun ls' h' => k H locs ls' hB hM (zrS_tl hst) (hw ▸ zrL_set hlv (zrS_hd hst)) (hw ▸ zl_set1 rfl h') hP hD hS hz)
theorem z0_iinc (hX : zO0 X G cc own nL d mc ms) {i : Nat} {j z y : Int} (hd : decode cc pc = .ok (.iinc i j, 3)) (h : lv[i]? = some (some (zI z))) (hn : i < nL) (hy : z + j = y) (hr : zrI y) {lw : List (Option zV)} (hw : zset lv i (zI y) = lw) (k : zW0 X G nL (pc + 3) lw st μ fl n cn sn) : zW0 X G nL pc lv st μ fl n cn sn := fun H locs ls hB hM hst hlv hl hP hD hS hz => by
  have hm : (i, Value.int (Int32.ofInt z)) ∈ ztl G 0 lv := by
    have := ztl_in (G := G) (i := 0) h
    rw [Nat.zero_add] at this
    exact this
  obtain ⟨j, hj⟩ := List.getElem?_of_mem hm
  refine lv_iinc hX.1 hX.2.1 hd hl hj (v := Int32.ofInt y) (by rw [← hy, Int32.ofInt_add]) hn rfl (fun ls' h' => ?_)
  exact k H locs ls' hB hM hst (hw ▸ zrL_set (v := zI y) hlv hr) (hw ▸ zl_set1 (v := zI y) rfl h') hP hD hS hz
theorem z0_imul (hX : zO0 X G cc own nL d mc ms) {a b c : Int} (hd : decode cc pc = .ok (.imul, 1)) (hc : a * b = c) (hr : zrI c) (k : zW0 X G nL (pc + 1) lv (zI c :: st) μ fl n cn sn) : zW0 X G nL pc lv (zI b :: zI a :: st) μ fl n cn sn := fun H locs ls hB hM hst hlv hl hP hD hS hz => by
  refine lv_imul hX.1 hX.2.1 hd ?_
  rw [← Int32.ofInt_mul, hc]
  exact k H locs ls hB hM (zrS_cons hr (zrS_tl (zrS_tl hst))) hlv hl hP hD hS hz
theorem z0_dup (hX : zO0 X G cc own nL d mc ms) {o : Nat} (hd : decode cc pc = .ok (.dup, 1)) (k : zW0 X G nL (pc + 1) lv (zR o :: zR o :: st) μ fl n cn sn) : zW0 X G nL pc lv (zR o :: st) μ fl n cn sn := fun H locs ls hB hM hst hlv hl hP hD hS hz =>
  lv_dup hX.1 hX.2.1 hd rfl (k H locs ls hB hM (zrS_cons trivial hst) hlv hl hP hD hS hz)
theorem z0_goto (hX : zO0 X G cc own nL d mc ms) {off : Int} {tgt : Nat} (hd : decode cc pc = .ok (.goto off, 3)) (ht : (pc : Int) + off = (tgt : Int)) (k : zW0 X G nL tgt lv st μ fl n cn sn) : zW0 X G nL pc lv st μ fl n cn sn := fun H locs ls hB hM hst hlv hl hP hD hS hz =>
  lv_goto hX.1 hX.2.1 hd ht (k H locs ls hB hM hst hlv hl hP hD hS hz)
theorem z0_icmpge_t (hX : zO0 X G cc own nL d mc ms) {off a b : Int} {tgt : Nat} (hd : decode cc pc = .ok (.if_icmp .ge off, 3)) (ht : (pc : Int) + off = (tgt : Int)) (hc : ¬ a < b) (k : zW0 X G nL tgt lv st μ fl n cn sn) : zW0 X G nL pc lv (zI b :: zI a :: st) μ fl n cn sn := fun H locs ls hB hM hst hlv hl hP hD hS hz =>
  lv_icmp_ge hX.1 hX.2.1 hd ht (fun _ => k H locs ls hB hM (zrS_tl (zrS_tl hst)) hlv hl hP hD hS hz) (fun c => absurd ((z_le (zrS_hd hst) (zrS_hd (zrS_tl hst))).mpr (by omega)) c)
theorem z0_icmpge_f (hX : zO0 X G cc own nL d mc ms) {off a b : Int} {tgt : Nat} (hd : decode cc pc = .ok (.if_icmp .ge off, 3)) (ht : (pc : Int) + off = (tgt : Int)) (hc : a < b) (k : zW0 X G nL (pc + 3) lv st μ fl n cn sn) : zW0 X G nL pc lv (zI b :: zI a :: st) μ fl n cn sn := fun H locs ls hB hM hst hlv hl hP hD hS hz =>
  lv_icmp_ge hX.1 hX.2.1 hd ht (fun c => by have := (z_le (zrS_hd hst) (zrS_hd (zrS_tl hst))).mp c; omega) (fun _ => k H locs ls hB hM (zrS_tl (zrS_tl hst)) hlv hl hP hD hS hz)
theorem z0_get {o i ci k : Nat} {t : Nat × Nat} {v : zV} (hX : zO0 X G cc own nL d mc ms) (hd : decode cc pc = .ok (.getfield i, 3)) (hs : zsh o = (0, ci)) (ho : o < n) (ht : (zFK ci)[k]? = some t) (hw : zfl own i ci k ∈ zBIG) (hv : zcv G v = zf0 G μ fl o k t) (hr : zrV v) (kk : zW0 X G nL (pc + 3) lv (v :: st) μ fl n cn sn) : zW0 X G nL pc lv (zR o :: st) μ fl n cn sn := fun H locs ls hB hM hst hlv hl hP hD hS hz => by
  obtain ⟨⟨C, T, N⟩, hc⟩ := zcl_lt (zfk_lt ht)
  obtain ⟨-, -, hN, hC⟩ := zcl_ok hc
  have hk : k < N := by rw [show N = (zFK ci).length from hN]; exact (List.getElem?_eq_some_iff.mp ht).1
  have e1 : zcT ci k = T k := by unfold zcT; rw [hc]
  have e2 : zcC ci = C := by unfold zcC; rw [hc]
  have hw2 := hX.2.2.2.2.1 _ hw
  unfold zfl at hw2
  rw [e1, e2] at hw2
  refine va_get hX.1 hX.2.1 hX.2.2.2.2.1 (zcl_in hc) hX.2.2.2.1 hX.2.2.2.2.2.1 hP o (by rw [zw0_get G μ fl ho, zc0_obj hs]) hc k hk hw2 (fun x hx => by have e0 : (T k).1 = C := hC k hk; rw [← e0]; exact hx) (zf0_get ht) hd ?_
  rw [← hv]
  exact kk H locs ls hB hM (zrS_cons hr (zrS_tl hst)) hlv hl hP hD hS hz
theorem z0_geti {o i ci k f : Nat} {z : Int} (hX : zO0 X G cc own nL d mc ms) (hd : decode cc pc = .ok (.getfield i, 3)) (hs : zsh o = (0, ci)) (ho : o < n) (ht : (zFK ci)[k]? = some (0, f)) (hw : zfl own i ci k ∈ zBIG) (hz : μ o k = z) (hr : zrI z) (kk : zW0 X G nL (pc + 3) lv (zI z :: st) μ fl n cn sn) : zW0 X G nL pc lv (zR o :: st) μ fl n cn sn :=
  z0_get (v := zI z) hX hd hs ho ht hw (by subst hz; rfl) hr kk
theorem z0_getr {o i ci k f q : Nat} (hX : zO0 X G cc own nL d mc ms) (hd : decode cc pc = .ok (.getfield i, 3)) (hs : zsh o = (0, ci)) (ho : o < n) (ht : (zFK ci)[k]? = some (2, f)) (hw : zfl own i ci k ∈ zBIG) (hf : fl o k = true) (hq : o + f = q) (kk : zW0 X G nL (pc + 3) lv (zR q :: st) μ fl n cn sn) : zW0 X G nL pc lv (zR o :: st) μ fl n cn sn :=
  z0_get (v := zR q) hX hd hs ho ht hw (by subst hq; show _ = if fl o k then _ else _; rw [if_pos hf]; rfl) trivial kk
theorem z0_put {o i ci k : Nat} {t : Nat × Nat} {v : zV} {ty : FieldType} {ν : zM} {fk : zF} (hX : zO0 X G cc own nL d mc ms) (hd : decode cc pc = .ok (.putfield i, 3)) (hs : zsh o = (0, ci)) (ho : o < n) (ht : (zFK ci)[k]? = some t) (hw : zfl own i ci k ∈ zBIG) (hown : zcC ci = own) (hty : parseFieldDescriptor (zcT ci k).2.2.1 = some ty) (hn : narrow ty (zcv G v) = zcv G v) (hfit : fits ty (zcv G v) = true) (hv : zf0 G ν fk o k t = zcv G v)
    (hν : ∀ p j, (p ≠ o ∨ j ≠ k) → ν p j = μ p j) (hf : ∀ p j, (p ≠ o ∨ j ≠ k) → fk p j = fl p j) (hr : zrV v → zrM μ → zrM ν) (kk : zW0 X G nL (pc + 3) lv st ν fk n cn sn) : zW0 X G nL pc lv (v :: zR o :: st) μ fl n cn sn := fun H locs ls hB hM hst hlv hl hP hD hS hz => by
  obtain ⟨⟨C, T, N⟩, hc⟩ := zcl_lt (zfk_lt ht)
  obtain ⟨⟨ty0, hty0⟩, hnm, hN, hC⟩ := zcl_ok hc
  have hk : k < N := by rw [show N = (zFK ci).length from hN]; exact (List.getElem?_eq_some_iff.mp ht).1
  have e1 : zcT ci k = T k := by unfold zcT; rw [hc]
  have e2 : zcC ci = C := by unfold zcC; rw [hc]
  have hw2 := hX.2.2.2.2.1 _ hw
  unfold zfl at hw2
  rw [e1, e2] at hw2
  rw [e1] at hty
  have eC : (T k).1 = own := by have e0 : (T k).1 = C := hC k hk; rw [e0, ← e2, hown]
  have hB2 : zB0 ν fk n := fun p j hp => by rw [hν p j (Or.inl (by omega)), hf p j (Or.inl (by omega))]; exact hB p j hp
  have e3 : (zw0 G μ fl n).set o (zgR G o, .inr (ci, ((zFK ci).mapIdx (fun k t => zf0 G μ fl o k t)).set k (zcv G v))) = zw0 G ν fk n := zw0_set ho (by rw [zc0_obj hs, zf0_set ht hv (fun j hj => hν o j (Or.inr hj)) (fun j hj => hf o j (Or.inr hj))]) (fun q hq => funext fun j => hν q j (Or.inl hq)) (fun q hq => funext fun j => hf q j (Or.inl hq))
  have hl2 : k < ((zFK ci).mapIdx (fun k t => zf0 G μ fl o k t)).length := by simpa using (List.getElem?_eq_some_iff.mp ht).1
  have hsame : ∀ x, (zXs X).fieldFound? (T k).1 (T k).2.1 (T k).2.2.1 = some x → (zXs X).fieldFound? C (T k).2.1 (T k).2.2.1 = some x := fun x hx => by have e0 : (T k).1 = C := hC k hk; rw [← e0]; exact hx
  have hnl : own ≠ RL := by
    rw [← hown]
    have h7 := zfk_lt ht
    have : ∀ c, c < 7 → zcC c ≠ RL := by decide +kernel
    exact this ci h7
  have hap := va_apart (own := own) hX.2.2.2.2.1 (zcl_in hc) ty0 hty0 hnm hX.2.2.2.2.2.1 hc
  have he : (zw0 G μ fl n)[o]? = some (zgR G o, .inr (ci, (zFK ci).mapIdx (fun k t => zf0 G μ fl o k t))) := by rw [zw0_get G μ fl ho, zc0_obj hs]
  obtain ⟨r, h1, cell, q1, q2, q3, q4⟩ := hP o _ he
  have hrr : r = (C, T, N) := Option.some.inj (h1.symm.trans hc)
  subst hrr
  obtain ⟨hSl, hfc, kC, hkC, hkind⟩ := hX.2.2.2.2.2.1.1 ci _ hc
  obtain ⟨cf, kf, fi, f, hi, hsl⟩ := hSl k hk
  have hlay := hX.2.2.2.2.1 _ (zcl_in hc _ (u_in_lay hk))
  have hstt := (u_facts hfc hkC (u_lays hX.2.2.2.2.1 (zcl_in hc) hk) hi).1
  have fin : ∀ H1 : Heap, H1[zgR G o]? = some (cell.setSlot ((zgD G).2 ci k) (zcv G v)) → H1.size = H.size → (∀ q : Nat, q ≠ zgR G o → H1[q]? = H[q]?) → W (zXp X) (zXl X) (zXe X) (zXR X) (zXs X) (zXm X) (zXa X) (zXb X) (zXM X) (zXc X) H1 (locs ++ [⟨zgR G o, (zgD G).2 ci k⟩]) cn sn (zXQ X) (F0 (zXm X) (pc + 3) ls (st.map (zcv G))) := fun H1 e1 e2 e3q => by
    have hP1 := hP.set hD he (e := .inr (ci, ((zFK ci).mapIdx (fun k t => zf0 G μ fl o k t)).set k (zcv G v))) ⟨_, hc, t_OB.to (V := updV (vp_V ((zFK ci).mapIdx (fun k t => zf0 G μ fl o k t))) k (zcv G v)) ⟨_, e1, q2, q3, t_set q4 hap hk (zcv G v)⟩ (fun j _ => vp_updV_set hl2 (zcv G v) j)⟩ e3q
    have hD1 := hD.set (e := .inr (ci, ((zFK ci).mapIdx (fun k t => zf0 G μ fl o k t)).set k (zcv G v))) he
    rw [e3] at hP1 hD1
    exact kk H1 _ ls hB2 (hr (zrS_hd hst) hM) (zrS_tl (zrS_tl hst)) hlv hl hP1 hD1 (hS.put e2 e3q (hD.2 o _ he)) (by rw [e2]; exact hz)
  unfold u_lay at hlay
  by_cases hfin : (T k).2.2.2 = true
  · rw [if_pos hfin] at hlay
    have hcf : (zXm X).cls = cf := by
      obtain ⟨_, _, c', _, _, _, -, -, hf', -, -, -, hown2, -⟩ := Cond.laysFinal_spec hlay
      have e1 : c' = cf := by have := hi.symm.trans hf'; simp at this; exact this.1.symm
      rw [eC] at hown2
      rw [← e1]; exact Option.some.inj (hX.2.2.2.1.symm.trans hown2)
    have h6 := u_fits hfc hkC hkind (Or.inr hlay) hi hty hn hfit
    refine W.putFinK hX.1 hX.2.1 hX.2.2.2.1 hw2 (hsame _ hi) hstt hcf (hX.2.2.2.2.2.2.2.2.2.2.1 hnl) (by rw [q2]; exact h6) q1 q3 (by rw [hsl]; exact k2_hasslot (q4 k hk)) rfl rfl hd fun H' e1 e2 e3q => ?_
    rw [hsl] at e1 ⊢
    exact fin H' e1 e2 e3q
  · rw [if_neg hfin] at hlay
    have h6 := u_store hfc hkC hkind hlay hi hty hn hfit
    refine W.putK hX.1 hX.2.1 (f := f) ⟨hX.2.2.2.1, hw2, ⟨_, _, _, hsame _ hi⟩, hstt⟩ (by rw [q2]; exact h6) q1 q3 (by rw [hsl]; exact k2_hasslot (q4 k hk)) rfl rfl hd fun H' e1 e2 e3q => ?_
    rw [hsl] at e1 ⊢
    exact fin H' e1 e2 e3q
theorem z0_puti {o i ci k f : Nat} {z : Int} (hX : zO0 X G cc own nL d mc ms) (hd : decode cc pc = .ok (.putfield i, 3)) (hs : zsh o = (0, ci)) (ho : o < n) (ht : (zFK ci)[k]? = some (0, f)) (hw : zfl own i ci k ∈ zBIG) (hown : zcC ci = own) (hty : parseFieldDescriptor (zcT ci k).2.2.1 = some .int) (kk : zW0 X G nL (pc + 3) lv st (zst μ o k z) fl n cn sn) : zW0 X G nL pc lv (zI z :: zR o :: st) μ fl n cn sn :=
  z0_put (v := zI z) (ν := zst μ o k z) (fk := fl) hX hd hs ho ht hw hown hty rfl rfl (by show Value.int (Int32.ofInt (zst μ o k z o k)) = _; unfold zst; rw [if_pos ⟨rfl, rfl⟩]; rfl)
    (fun p j h => by unfold zst; rw [if_neg (fun q => h.elim (fun h => h q.1) (fun h => h q.2))]) (fun _ _ _ => rfl) (fun h hM => zrM_st hM (zrI_J h) (fun _ => h)) kk
theorem z0_putj {o i ci k f : Nat} {z : Int} (hX : zO0 X G cc own nL d mc ms) (hd : decode cc pc = .ok (.putfield i, 3)) (hs : zsh o = (0, ci)) (ho : o < n) (ht : (zFK ci)[k]? = some (1, f)) (hw : zfl own i ci k ∈ zBIG) (hown : zcC ci = own) (hty : parseFieldDescriptor (zcT ci k).2.2.1 = some .long) (kk : zW0 X G nL (pc + 3) lv st (zst μ o k z) fl n cn sn) : zW0 X G nL pc lv (zJ z :: zR o :: st) μ fl n cn sn :=
  z0_put (v := zJ z) (ν := zst μ o k z) (fk := fl) hX hd hs ho ht hw hown hty rfl rfl (by show Value.long (Int64.ofInt (zst μ o k z o k)) = _; unfold zst; rw [if_pos ⟨rfl, rfl⟩]; rfl)
    (fun p j h => by unfold zst; rw [if_neg (fun q => h.elim (fun h => h q.1) (fun h => h q.2))]) (fun _ _ _ => rfl) (fun h hM => zrM_st hM h (fun q => by rw [zlg_of hs ht] at q; cases q)) kk
theorem z0_putr {o i ci k f q : Nat} {ty : FieldType} (hX : zO0 X G cc own nL d mc ms) (hd : decode cc pc = .ok (.putfield i, 3)) (hs : zsh o = (0, ci)) (ho : o < n) (ht : (zFK ci)[k]? = some (2, f)) (hw : zfl own i ci k ∈ zBIG) (hown : zcC ci = own) (hty : parseFieldDescriptor (zcT ci k).2.2.1 = some ty) (hq : o + f = q) (hn : narrow ty (.ref (zgR G q)) = .ref (zgR G q)) (hfit : fits ty (.ref (zgR G q)) = true) (kk : zW0 X G nL (pc + 3) lv st μ (zfst fl o k) n cn sn) : zW0 X G nL pc lv (zR q :: zR o :: st) μ fl n cn sn := by
  subst hq
  exact z0_put (v := zR (o + f)) (ν := μ) (fk := zfst fl o k) hX hd hs ho ht hw hown hty hn hfit (by
      have e : zfst fl o k o k = true := by unfold zfst; rw [if_pos ⟨rfl, rfl⟩]
      show (if zfst fl o k o k then _ else _) = _
      rw [if_pos e]; rfl)
    (fun _ _ _ => rfl) (fun p j h => by unfold zfst; rw [if_neg (fun q => h.elim (fun h => h q.1) (fun h => h q.2))]) (fun _ hM => hM) kk
theorem z0_iast {o m2 : Nat} {i x N : Int} (hX : zO0 X G cc own nL d mc ms) (hd : decode cc pc = .ok (.iastore, 1)) (hs : zsh o = (1, m2)) (ho : o < n) (hN : (m2 : Int) = N) (hc : (decide (0 ≤ i) && decide (i < N)) = true) {j : Nat} (hj : i.toNat = j) (kk : zW0 X G nL (pc + 1) lv st (zst μ o j x) fl n cn sn) : zW0 X G nL pc lv (zI x :: zI i :: zR o :: st) μ fl n cn sn := fun H locs ls hB hM hst hlv hl hP hD hS hz => by
  subst hj
  have hi : zrI i := zrS_hd (zrS_tl hst)
  have hx : zrI x := zrS_hd hst
  simp only [Bool.and_eq_true, decide_eq_true_eq] at hc
  have he : (zw0 G μ fl n)[o]? = some (zgR G o, .inl (zgI G, m2, .inl fun k => Int32.ofInt (μ o k))) := by rw [zw0_get G μ fl ho, zc0_int hs]
  have hin := z_in hi hc.1 (by omega : i < (m2 : Int))
  refine W.iast hX.1 hX.2.1 (hP o _ he) ((hX.2.2.2.2.2.1.2 0 _ rfl).1 m2 (fun j => .int (Int32.ofInt (μ o j)))) (fun q => by cases q) (by show ¬ (_ ∨ (arrV _ _ _).slots.size ≤ _); rw [arrV_size]; exact hin) rfl rfl hd fun H1 e1 z1 oq => ?_
  have hset : (zw0 G μ fl n).set o (zgR G o, .inl (zgI G, m2, .inl (upd (fun k => Int32.ofInt (μ o k)) i.toNat (Int32.ofInt x)))) = zw0 G (zst μ o i.toNat x) fl n := zw0_set ho (by
    rw [zc0_int hs]
    congr 4
    funext j
    unfold zst upd
    by_cases hj : j = i.toNat
    · rw [if_pos ⟨rfl, hj⟩, if_pos hj]
    · rw [if_neg (fun q => hj q.2), if_neg hj]) zst_ne (fun _ _ => rfl)
  have hP1 := hP.set hD he (e := .inl (zgI G, m2, .inl (upd (fun k => Int32.ofInt (μ o k)) i.toNat (Int32.ofInt x)))) (by
    show H1[zgR G o]? = some (vp_cell _ _)
    rw [e1]
    show some ((arrV (zgI G) m2 (fun j => Value.int (Int32.ofInt (μ o j)))).setSlot (Int32.ofInt i).toNatClampNeg (Value.int (Int32.ofInt x))) = some (arrV (zgI G) m2 (fun j => Value.int (upd (fun k => Int32.ofInt (μ o k)) i.toNat (Int32.ofInt x) j)))
    rw [z_nat hi, arrV_store]
    congr 2
    funext q
    by_cases hq : q = i.toNat
    · subst hq
      simp [updV, upd]
    · simp [updV, upd, hq]) oq
  have hD1 := hD.set (e := .inl (zgI G, m2, .inl (upd (fun k => Int32.ofInt (μ o k)) i.toNat (Int32.ofInt x)))) he
  rw [hset] at hP1 hD1
  exact kk H1 _ ls (zB0_st hB ho) (zrM_st hM (zrI_J hx) (fun _ => hx)) (zrS_tl (zrS_tl (zrS_tl hst))) hlv hl hP1 hD1 (hS.put z1 oq (hD.2 o _ he)) (by rw [z1]; exact hz)
/-! objects and rows are made -/
theorem z0_grow {H H1 : Heap} {locs : List Loc} (hA : ∀ q, (zXs X).heap.size ≤ q → zgA G q) (hG : zgR G n = zgR G 0 + n) (hP : va_P (zgD G) zcl (zw0 G μ fl n) H) (hD : va_D (zgA G) (zw0 G μ fl n)) (hS : va_S (zgA G) (zXs X).heap H locs) (hz : H.size = zgR G 0 + n) (z1 : H1.size = H.size + 1) (o1 : ∀ q, q < H.size → H1[q]? = H[q]?) (he : va_at (zgD G) zcl (H.size, zc0 G μ fl n) H1) : va_P (zgD G) zcl (zw0 G μ fl (n + 1)) H1 ∧ va_D (zgA G) (zw0 G μ fl (n + 1)) ∧ va_S (zgA G) (zXs X).heap H1 locs ∧ H1.size = zgR G 0 + (n + 1) := by
  have hk : ∀ (k : Nat) (x : Nat × va_E), (zw0 G μ fl n)[k]? = some x → H1[x.1]? = H[x.1]? := fun k x hx => o1 x.1 ((hP k x hx).lt)
  have hq : zgR G n = H.size := by rw [hG, hz]
  rw [zw0_succ, hq]
  refine ⟨(hP.kept hk).app (fun k x hx => ?_), hD.push hP rfl (hA _ hS.1), ⟨Nat.le_trans hS.1 (by omega), fun x h1 h2 => (o1 x (Nat.lt_of_lt_of_le h1 hS.1)).trans (hS.2.1 x h1 h2), hS.2.2⟩, by omega⟩
  have hzk : k < 1 := (List.getElem?_eq_some_iff.mp hx).1
  rw [show k = 0 by omega] at hx
  cases hx
  exact he
theorem zB0_up (hB : zB0 μ fl n) : zB0 μ fl (n + 1) := fun q k h => hB q k (by omega)
def zdf (ci : Nat) : List Value := (zFK ci).map fun t => match t with
  | (0, _) => .int 0
  | (1, _) => .long 0
  | _ => .null
theorem zdf_ok {o ci : Nat} (hb : ∀ k, μ o k = 0 ∧ fl o k = false) : (zFK ci).mapIdx (fun k t => zf0 G μ fl o k t) = zdf ci := by
  apply List.ext_getElem?
  intro i
  unfold zdf
  rw [List.getElem?_map]
  simp only [List.getElem?_mapIdx]
  cases (zFK ci)[i]? with
  | none => rfl
  | some t =>
    simp only [Option.map_some]
    unfold zf0
    obtain ⟨a, b⟩ := t
    match a with
    | 0 => simp only [(hb i).1]; rfl
    | 1 => simp only [(hb i).1]; rfl
    | a + 2 => simp [(hb i).2]
def zty0 : Nat → Nat → FieldType
  | 0 => tyX0
  | 1 => tyX1
  | 2 => tyX2
  | 3 => tyX3
  | 4 => tyX4
  | 5 => tyX5
  | _ => tyX6
theorem zdf_ty {ci : Nat} {q : vw_C} (h : zcl[ci]? = some q) : (∀ k, k < q.2.2 → parseFieldDescriptor (q.2.1 k).2.2.1 = some (zty0 ci k)) ∧ ∀ j, j < q.2.2 → defaultValue (zty0 ci j) = vp_V (zdf ci) j := by
  match ci, h with
  | 0, h => cases h; exact ⟨tyX0_ok, by decide +kernel⟩
  | 1, h => cases h; exact ⟨tyX1_ok, by decide +kernel⟩
  | 2, h => cases h; exact ⟨tyX2_ok, by decide +kernel⟩
  | 3, h => cases h; exact ⟨tyX3_ok, by decide +kernel⟩
  | 4, h => cases h; exact ⟨tyX4_ok, by decide +kernel⟩
  | 5, h => cases h; exact ⟨tyX5_ok, by decide +kernel⟩
  | 6, h => cases h; exact ⟨tyX6_ok, by decide +kernel⟩
  | n + 7, h => simp [zcl] at h
theorem z0_new {ci N ix : Nat} {C : String} {T : u_T} (hX : zO0 X G cc own nL d mc ms) (hd : decode cc pc = .ok (.new ix, 3)) (hs : zsh n = (0, ci)) (hn : n < 56) (hc : zcl[ci]? = some (C, T, N)) (hw : ∀ w ∈ ([.classLink own ix C, .instantiable C N, .initialized C] : List Cond), w ∈ zBIG) (hr : cn + 1 ≤ mc ∧ sn + N ≤ ms) (k : zW0 X G nL (pc + 3) lv (zR n :: st) μ fl (n + 1) (cn + 1) (sn + N)) : zW0 X G nL pc lv st μ fl n cn sn := fun H locs ls hB hM hst hlv hl hP hD hS hz => by
  have hKn := hX.2.2.2.2.2.1.1 ci _ hc
  have hroom := hX.2.2.2.2.2.2.2.2.1
  have hty := zdf_ty hc
  refine W.newcK (n := N) hX.1 hX.2.1 hX.2.2.2.1 (hX.2.2.2.2.1 _ (hw _ (by simp))) (hX.2.2.2.2.1 _ (hw _ (by simp))) (hX.2.2.2.2.1 _ (hw _ (by simp))) rfl hd (by omega) (by omega) hKn.2.1 rfl fun H1 kC hkC e1 z1 o1 => ?_
  have hG := hX.2.2.2.2.2.2.2.2.2.2.2.1 n hn
  obtain ⟨hP1, hD1, hS1, hz1⟩ := z0_grow hX.2.2.2.2.2.2.2.2.2.2.2.2 hG hP hD hS hz z1 o1 (by
    rw [zc0_obj hs, zdf_ok (fun k => hB n k (Nat.le_refl _))]
    exact ⟨_, hc, (u_born (zty0 ci) hX.2.2.2.2.1 (zcl_in hc) hKn hkC e1 hty.1).to hty.2⟩)
  have := k H1 locs ls (zB0_up hB) hM (zrS_cons trivial hst) hlv hl hP1 hD1 hS1 hz1
  rw [show H.size = zgR G n by rw [hG, hz]]
  exact this
theorem z0_newi {m2 : Nat} {N : Int} (hX : zO0 X G cc own nL d mc ms) (hd : decode cc pc = .ok (.newarray .int, 2)) (hs : zsh n = (1, m2)) (hn : n < 56) (hN : (m2 : Int) = N) (hb : m2 ≤ 20000) (hw : Cond.arrayClass .int ∈ zBIG) (hr : cn + 1 ≤ mc ∧ sn + m2 ≤ ms) (k : zW0 X G nL (pc + 2) lv (zR n :: st) μ fl (n + 1) (cn + 1) (sn + m2)) : zW0 X G nL pc lv (zI N :: st) μ fl n cn sn := fun H locs ls hB hM hst hlv hl hP hD hS hz => by
  have hroom := hX.2.2.2.2.2.2.2.2.1
  have hNr : zrI N := zrS_hd hst
  have hG := hX.2.2.2.2.2.2.2.2.2.2.2.1 n hn
  refine va_newaK hX.1 hX.2.1 (atype := .int) (hX.2.2.2.2.1 _ hw) rfl hd rfl (N := m2) (fun q => by have := (z_lt hNr z_zero).mp q; omega) (by rw [z_nat hNr]; omega) (by show m2 * 4 ≤ _; omega) (by omega) (by omega) rfl fun H1 cA e1 z1 o1 hAr hNm => ?_
  have hcA : cA = zgI G := by
    have h2 := (hX.2.2.2.2.2.1.2 0 _ rfl).2
    exact Option.some.inj (hNm.symm.trans h2)
  obtain ⟨hP1, hD1, hS1, hz1⟩ := z0_grow hX.2.2.2.2.2.2.2.2.2.2.2.2 hG hP hD hS hz z1 o1 (by
    rw [zc0_int hs]
    show H1[H.size]? = some (vp_cell _ _)
    rw [e1, hcA]
    show some (arrV _ _ _) = some (arrV _ _ (fun j => Value.int (Int32.ofInt (μ n j))))
    congr 2
    funext j
    rw [(hB n j (Nat.le_refl _)).1]
    rfl)
  have := k H1 locs ls (zB0_up hB) hM (zrS_cons trivial (zrS_tl hst)) hlv hl hP1 hD1 hS1 hz1
  rw [show H.size = zgR G n by rw [hG, hz]]
  exact this
theorem z0_newb {m2 : Nat} {N : Int} (hX : zO0 X G cc own nL d mc ms) (hd : decode cc pc = .ok (.newarray .boolean, 2)) (hs : zsh n = (2, m2)) (hn : n < 56) (hN : (m2 : Int) = N) (hb : m2 ≤ 20000) (hw : Cond.arrayClass .boolean ∈ zBIG) (hr : cn + 1 ≤ mc ∧ sn + m2 ≤ ms) (k : zW0 X G nL (pc + 2) lv (zR n :: st) μ fl (n + 1) (cn + 1) (sn + m2)) : zW0 X G nL pc lv (zI N :: st) μ fl n cn sn := fun H locs ls hB hM hst hlv hl hP hD hS hz => by
  have hroom := hX.2.2.2.2.2.2.2.2.1
  have hNr : zrI N := zrS_hd hst
  have hG := hX.2.2.2.2.2.2.2.2.2.2.2.1 n hn
  refine va_newaK hX.1 hX.2.1 (atype := .boolean) (hX.2.2.2.2.1 _ hw) rfl hd rfl (N := m2) (fun q => by have := (z_lt hNr z_zero).mp q; omega) (by rw [z_nat hNr]; omega) (by show m2 * 1 ≤ _; omega) (by omega) (by omega) rfl fun H1 cA e1 z1 o1 hAr hNm => ?_
  have hcA : cA = zgZ G := by
    have h2 := (hX.2.2.2.2.2.1.2 1 _ rfl).2
    exact Option.some.inj (hNm.symm.trans h2)
  obtain ⟨hP1, hD1, hS1, hz1⟩ := z0_grow hX.2.2.2.2.2.2.2.2.2.2.2.2 hG hP hD hS hz z1 o1 (by
    rw [zc0_bool hs]
    show H1[H.size]? = some (vp_cell _ _)
    rw [e1, hcA]
    show some (arrV _ _ _) = some (arrV _ _ (fun j => Value.int (Int32.ofInt (μ n j))))
    congr 2
    funext j
    rw [(hB n j (Nat.le_refl _)).1]
    rfl)
  have := k H1 locs ls (zB0_up hB) hM (zrS_cons trivial (zrS_tl hst)) hlv hl hP1 hD1 hS1 hz1
  rw [show H.size = zgR G n by rw [hG, hz]]
  exact this
theorem z0_newr {m2 ix : Nat} {N : Int} (hX : zO0 X G cc own nL d mc ms) (hd : decode cc pc = .ok (.anewarray ix, 3)) (hs : zsh n = (3, m2)) (hn : n < 56) (hN : (m2 : Int) = N) (hb : m2 ≤ 20000) (hw : Cond.classLink own ix "RoofLent$Story" ∈ zBIG) (hr : cn + 1 ≤ mc ∧ sn + m2 ≤ ms) (k : zW0 X G nL (pc + 3) lv (zR n :: st) μ fl (n + 1) (cn + 1) (sn + m2)) : zW0 X G nL pc lv (zI N :: st) μ fl n cn sn := fun H locs ls hB hM hst hlv hl hP hD hS hz => by
  have hroom := hX.2.2.2.2.2.2.2.2.1
  have hNr : zrI N := zrS_hd hst
  have hG := hX.2.2.2.2.2.2.2.2.2.2.2.1 n hn
  have hnn : (Int32.ofInt N).toNatClampNeg = m2 := by rw [z_nat hNr]; omega
  refine W.anew hX.1 hX.2.1 hX.2.2.2.1 (hX.2.2.2.2.1 _ hw) (va_AO.use hX.2.2.2.2.2.2.2.2.2.1) rfl hd rfl (fun q => by have := (z_lt hNr z_zero).mp q; omega) (by rw [hnn]; omega) (by omega) (by rw [hnn]; omega) fun cA kA comp f1 f2 f3 f4 => ?_
  have hcA : cA = zgS G := by
    obtain ⟨_, _, -, -, -, h2⟩ := (hX.2.2.2.2.2.1.2 2 _ rfl).2
    exact Option.some.inj (f1.symm.trans h2)
  generalize hH1 : H.push ({ cls := cA, slots := Array.replicate (Int32.ofInt N).toNatClampNeg .null, vm := .none } : Cell) = H1
  have z1 : H1.size = H.size + 1 := by rw [← hH1, Array.size_push]
  have e1 : H1[H.size]? = some (arrV cA m2 (fun _ => .null)) := by rw [← hH1, Array.getElem?_push_size, ← arrV_new, hnn]
  have o1 : ∀ q : Nat, q < H.size → H1[q]? = H[q]? := fun q hq => by rw [← hH1, Array.getElem?_push, if_neg (Nat.ne_of_lt hq)]
  obtain ⟨hP1, hD1, hS1, hz1⟩ := z0_grow hX.2.2.2.2.2.2.2.2.2.2.2.2 hG hP hD hS hz z1 o1 (by
    rw [zc0_ref hs]
    show H1[H.size]? = some (vp_cell _ _)
    rw [e1, hcA, vp_cell_q]
    congr 2
    funext j
    rw [(hB n j (Nat.le_refl _)).2]
    rfl)
  have := k H1 locs ls (zB0_up hB) hM (zrS_cons trivial (zrS_tl hst)) hlv hl hP1 hD1 hS1 hz1
  rw [hnn, show H.size = zgR G n by rw [hG, hz]]
  exact this
theorem z0_alen {o a m2 : Nat} {N : Int} (hX : zO0 X G cc own nL d mc ms) (hd : decode cc pc = .ok (.arraylength, 1)) (hs : zsh o = (a, m2)) (ha : a = 1 ∨ a = 3) (ho : o < n) (hN : (m2 : Int) = N) (hr : zrI N) (k : zW0 X G nL (pc + 1) lv (zI N :: st) μ fl n cn sn) : zW0 X G nL pc lv (zR o :: st) μ fl n cn sn := fun H locs ls hB hM hst hlv hl hP hD hS hz => by
  rcases ha with rfl | rfl
  · exact va_alen hX.1 hX.2.1 hX.2.2.2.2.2.1 hP o 0 (by rw [zw0_get G μ fl ho, zc0_int hs]) rfl (by rw [z_ofNat, hN]) hd (k H locs ls hB hM (zrS_cons hr (zrS_tl hst)) hlv hl hP hD hS hz)
  · exact va_alen hX.1 hX.2.1 hX.2.2.2.2.2.1 hP o 2 (by rw [zw0_get G μ fl ho, zc0_ref hs]) rfl (by rw [z_ofNat, hN]) hd (k H locs ls hB hM (zrS_cons hr (zrS_tl hst)) hlv hl hP hD hS hz)
theorem z0_aast {o q m2 : Nat} {i N : Int} (hX : zO0 X G cc own nL d mc ms) (hd : decode cc pc = .ok (.aastore, 1)) (hs : zsh o = (3, m2)) (ho : o < n) (hq : zsh q = (0, 4)) (hqn : q < n) (hN : (m2 : Int) = N) (hc : (decide (0 ≤ i) && decide (i < N)) = true) {j : Nat} (hj : i.toNat = j) (hqi : q = 27 + 5 * j) (kk : zW0 X G nL (pc + 1) lv st μ (zfst fl o j) n cn sn) : zW0 X G nL pc lv (zR q :: zI i :: zR o :: st) μ fl n cn sn := fun H locs ls hB hM hst hlv hl hP hD hS hz => by
  subst hj
  have hi : zrI i := zrS_hd (zrS_tl hst)
  simp only [Bool.and_eq_true, decide_eq_true_eq] at hc
  have ha : (zw0 G μ fl n)[o]? = some (zgR G o, .inl (zgS G, m2, .inr (.inr (.inr (.inr fun k => if fl o k then some (zgR G (27 + 5 * k)) else none))))) := by rw [zw0_get G μ fl ho, zc0_ref hs]
  have hv : (zw0 G μ fl n)[q]? = some (zgR G q, .inr (4, (zFK 4).mapIdx (fun k t => zf0 G μ fl q k t))) := by rw [zw0_get G μ fl hqn, zc0_obj hq]
  have hlt : i.toNat < m2 := by omega
  obtain ⟨r', hr', cellV, g1, g2, g3, -⟩ := hP q _ hv
  have hcls := (hX.2.2.2.2.2.1.1 4 _ rfl).2
  obtain ⟨kA, comp, k1, k2, k3, -⟩ := (hX.2.2.2.2.2.1.2 2 _ rfl).2
  have hcomp : comp = (zgD G).1 4 := Option.some.inj (k3.symm.trans hcls.1)
  subst hcomp
  obtain ⟨kC, hkC, -⟩ := hcls.2
  refine W.aast hX.1 hX.2.1 (hP o _ ha) (fun q h => by cases h) (fun h => by cases h) k1 k2 rfl hkC ⟨fun z => by have := (z_lt hi z_zero).mp z; omega, by show _ < (arrV _ _ _).slots.size; rw [arrV_size, z_nat hi]; exact hlt⟩ g1 (fun q h => by rw [g3] at h; cases h) (by rw [g2]; exact hkC) (by rw [g2]; exact va_assign hcls) rfl rfl hd fun H1 e z oq => ?_
  have hset : (zw0 G μ fl n).set o (zgR G o, .inl (zgS G, m2, .inr (.inr (.inr (.inr (va_up (fun k => if fl o k then some (zgR G (27 + 5 * k)) else none) i.toNat (some (zgR G q)))))))) = zw0 G μ (zfst fl o i.toNat) n := zw0_set ho (by
    rw [zc0_ref hs]
    congr 7
    funext j
    unfold zfst va_up
    by_cases hj : j = i.toNat
    · rw [if_pos (⟨rfl, hj⟩ : o = o ∧ j = i.toNat), if_pos hj, if_pos rfl, hqi, hj]
    · rw [if_neg (fun (q : o = o ∧ j = i.toNat) => hj q.2), if_neg hj]) (fun _ _ => rfl) zfst_ne
  have hP1 := hP.set hD ha (e := .inl (zgS G, m2, .inr (.inr (.inr (.inr (va_up (fun k => if fl o k then some (zgR G (27 + 5 * k)) else none) i.toNat (some (zgR G q)))))))) (by
    show H1[zgR G o]? = some (vp_cell _ _)
    rw [e]
    rw [vp_cell_q, vp_cell_q, z_nat hi, arrV_store]
    congr 2
    funext j
    by_cases hj : j = i.toNat
    · subst hj
      simp [updV, va_up, va_rf]
    · simp [updV, va_up, hj]) oq
  have hD1 := hD.set (e := .inl (zgS G, m2, .inr (.inr (.inr (.inr (va_up (fun k => if fl o k then some (zgR G (27 + 5 * k)) else none) i.toNat (some (zgR G q)))))))) ha
  rw [hset] at hP1 hD1
  exact kk H1 _ ls (zB0_f hB ho) hM (zrS_tl (zrS_tl (zrS_tl hst))) hlv hl hP1 hD1 (hS.put z oq (hD.2 o _ ha)) (by rw [z]; exact hz)
theorem z0_obj0 {o ix : Nat} (hX : zO0 X G cc own nL d mc ms) (hd : decode cc pc = .ok (.invokespecial ix, 3)) (hw : ∀ w ∈ ([.methodLink own ix Lib.objectInit, .instanceMethod Lib.objectInit, .code Lib.objectInit ⟨#[0xb1]⟩ 1 none] : List Cond), w ∈ zBIG) (hdd : 1 ≤ d) (hl0 : st.length ≤ 4) (k : zW0 X G nL (pc + 3) lv st μ fl n cn sn) : zW0 X G nL pc lv (zR o :: st) μ fl n cn sn := fun H locs ls hB hM hst hlv hl hP hD hS hz => by
  have hroom := hX.2.2.2.2.2.2.2.1
  have h1 := zcat_sum G st
  exact W.objInit hX.1 hX.2.1 hX.2.2.2.1 (hX.2.2.2.2.1 _ (hw _ (by simp))) (hX.2.2.2.2.1 _ (hw _ (by simp))) (hX.2.2.2.2.1 _ (hw _ (by simp))) rfl (by rw [hX.2.2.1]; exact hl.1) rfl hd (by omega) (by show 2 * 0 + _ + 12 ≤ _; omega) (k H locs ls hB hM (zrS_tl hst) hlv hl hP hD hS hz)
theorem z0_max {ix : Nat} {a b c : Int} (hX : zO0 X G cc own nL d mc ms) (hd : decode cc pc = .ok (.invokestatic ix, 3)) (hw : [Cond.methodLink own ix Lib.Math.max.name, Cond.static Lib.Math.max.name, Cond.initialized "java/lang/Math", Cond.code Lib.Math.max.name Lib.Math.max.code 2 (some .int)].all (fun w => decide (w ∈ lw_tbl) && goodWord w) = true) (hdd : 1 ≤ d) (hl0 : st.length ≤ 4) (hcn : cn ≤ mc ∧ sn ≤ ms) (hc : max a b = c) (k : zW0 X G nL (pc + 3) lv (zI c :: st) μ fl n cn sn) : zW0 X G nL pc lv (zI b :: zI a :: st) μ fl n cn sn := fun H locs ls hB hM hst hlv hl hP hD hS hz => by
  have hb : zrI b := zrS_hd hst
  have ha : zrI a := zrS_hd (zrS_tl hst)
  have hws := zbig_sub hw
  have hroom := hX.2.2.2.2.2.2.2.1
  have hroom2 := hX.2.2.2.2.2.2.2.2.1
  have h1 := zcat_sum G st
  refine va_mmax hX.1 hX.2.1 (by rw [hX.2.2.1]; exact hl.1.symm) hX.2.2.2.1 (hX.2.2.2.2.1 _ (hws _ (by simp))) (hX.2.2.2.2.1 _ (hws _ (by simp))) (hX.2.2.2.2.1 _ (hws _ (by simp))) (hX.2.2.2.2.1 _ (hws _ (by simp))) (by omega) (by omega) (by omega) (by omega) hd ?_
  have e : (if Int32.ofInt a < Int32.ofInt b then Int32.ofInt b else Int32.ofInt a) = Int32.ofInt c := by
    by_cases hc2 : a < b
    · rw [if_pos ((z_lt ha hb).mpr hc2), show c = b by omega]
    · rw [if_neg (fun q => hc2 ((z_lt ha hb).mp q)), show c = a by omega]
  rw [e]
  exact k H locs ls hB hM (zrS_cons (show zrI c by unfold zrI at *; omega) (zrS_tl (zrS_tl hst))) hlv hl hP hD hS hz
theorem z0_astore_n (hX : zO0 X G cc own nL d mc ms) {q : Fin 4} {i o : Nat} (hd : decode cc pc = .ok (.astore_n q, 1)) (hi : (q : Nat) = i) (hn : i < nL) {lw : List (Option zV)} (hw : zset lv i (zR o) = lw) (k : zW0 X G nL (pc + 1) lw st μ fl n cn sn) : zW0 X G nL pc lv (zR o :: st) μ fl n cn sn := fun H locs ls hB hM hst hlv hl hP hD hS hz =>
  lv_astore_n hX.1 hX.2.1 hd hi hl hn rfl (fun ls' h' => k H locs ls' hB hM (zrS_tl hst) (hw ▸ zrL_set hlv (zrS_hd hst)) (hw ▸ zl_set1 rfl h') hP hD hS hz)
/-- all is there -/
def zfull (fl : zF) : Bool := (List.range 56).all fun o => match zsh o with
  | (0, ci) => (zFK ci).zipIdx.all fun t => if t.1.1 < 2 then true else fl o t.2
  | (3, n) => (List.range n).all fun k => fl o k
  | _ => true
theorem zfull_at {μ : zM} {fl : zF} (h : zfull fl = true) {H : Heap} {D : va_G} (hD : D = zgD G) {o : Nat} (ho : o < 56) (hp : va_at D zcl (zgR G o, zc0 G μ fl o) H) : va_at D zcl (zgR G o, zce G μ o) H := by
  have h1 := List.all_eq_true.mp h o (List.mem_range.mpr ho)
  unfold zc0 at hp
  unfold zce
  split at hp
  · rename_i ci hz
    rw [hz] at h1 ⊢
    try dsimp only at h1 ⊢
    have e : (zFK ci).mapIdx (fun k t => zf0 G μ fl o k t) = (zFK ci).mapIdx (fun k t => zfv G μ o k t) := by
      apply List.ext_getElem?
      intro i
      simp only [List.getElem?_mapIdx]
      cases hi : (zFK ci)[i]? with
      | none => rfl
      | some t =>
        simp only [Option.map_some]
        have h2 := List.all_eq_true.mp h1 (t, i) (List.mem_of_getElem? (i := i) (by simp [hi]))
        obtain ⟨a, b⟩ := t
        match a with
        | 0 => rfl
        | 1 => rfl
        | a + 2 =>
          have h3 : fl o i = true := by
            have h4 : a + 2 < 2 ∨ fl o i = true := by simpa using h2
            rcases h4 with h4 | h4
            · omega
            · exact h4
          show some (if fl o i then Value.ref (zgR G (o + b)) else Value.null) = some (Value.ref (zgR G (o + b)))
          rw [if_pos h3]
    show va_at D zcl (zgR G o, .inr (ci, (zFK ci).mapIdx (fun k t => zfv G μ o k t))) H
    rw [← e]
    exact hp
  · rename_i n hz
    rw [hz]
    exact hp
  · rename_i n hz
    rw [hz]
    exact hp
  · rename_i a n hz1 hz2 hz3 hz
    have ha : a = 3 := by
      have : ∀ o, o < 56 → (zsh o).1 ≤ 3 := by decide +kernel
      have h9 := this o ho
      rw [hz] at h9
      have g0 : a ≠ 0 := hz1
      have g1 : a ≠ 1 := hz2
      have g2 : a ≠ 2 := hz3
      dsimp only at h9
      omega
    subst ha
    rw [hz] at h1 ⊢
    try dsimp only at h1 ⊢
    show H[_]? = some (vp_cell _ _)
    have hp2 : H[zgR G o]? = some (vp_cell (zgS G) (n, .inr (.inr (.inr (.inr fun k => if fl o k then some (zgR G (27 + 5 * k)) else none))))) := hp
    rw [hp2, vp_cell_q, vp_cell_q]
    congr 1
    unfold arrV
    congr 1
    congr 1
    funext j
    have h2 := List.all_eq_true.mp h1 j.val (List.mem_range.mpr j.isLt)
    show va_rf (if fl o j.val then some (zgR G (27 + 5 * j.val)) else none) = va_rf (some (zgR G (27 + 5 * j.val)))
    rw [if_pos h2]
theorem z0_full {X2 : zX} (h : zfull fl = true) (e : X2 = (zXp X, zXl X, zXe X, zXR X, zXs X, zXm X, zXa X, zXb X, zXM X, zXc X, zXQ X, cn, sn)) (k : zW X2 G nL pc lv st μ) : zW0 X G nL pc lv st μ fl 56 cn sn := fun H locs ls hB hM hst hlv hl hP hD hS hz => by
  subst e
  refine k H locs ls hM hst hlv hl (fun i q hq => ?_) ⟨fun i j p q hi hj hpq => ?_, fun i q hi => ?_⟩ hS
  · have hi : i < 56 := by
      have := (List.getElem?_eq_some_iff.mp hq).1
      unfold zws at this
      simpa using this
    rw [zws_get G μ hi] at hq
    cases hq
    exact zfull_at h rfl hi (hP i _ (zw0_get G μ fl hi))
  · have hi1 : i < 56 := by
      have := (List.getElem?_eq_some_iff.mp hi).1
      unfold zws at this
      simpa using this
    have hj1 : j < 56 := by
      have := (List.getElem?_eq_some_iff.mp hj).1
      unfold zws at this
      simpa using this
    rw [zws_get G μ hi1] at hi
    rw [zws_get G μ hj1] at hj
    cases hi
    cases hj
    exact hD.1 i j _ _ (zw0_get G μ fl hi1) (zw0_get G μ fl hj1) hpq
  · have hi1 : i < 56 := by
      have := (List.getElem?_eq_some_iff.mp hi).1
      unfold zws at this
      simpa using this
    rw [zws_get G μ hi1] at hi
    cases hi
    exact hD.2 i (zgR G i, zc0 G μ fl i) (zw0_get G μ fl hi1)
end Z0
