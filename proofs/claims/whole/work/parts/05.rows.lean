/-! WHERE A WALK STANDS -/
abbrev zX : Type := Program × Launch × Env × Room × State × MethodId × Array Value × List Frame × Method × Code × (State → Prop) × Nat × Nat
abbrev zXp (X : zX) := X.1
abbrev zXl (X : zX) := X.2.1
abbrev zXe (X : zX) := X.2.2.1
abbrev zXR (X : zX) := X.2.2.2.1
abbrev zXs (X : zX) := X.2.2.2.2.1
abbrev zXm (X : zX) := X.2.2.2.2.2.1
abbrev zXa (X : zX) := X.2.2.2.2.2.2.1
abbrev zXb (X : zX) := X.2.2.2.2.2.2.2.1
abbrev zXM (X : zX) := X.2.2.2.2.2.2.2.2.1
abbrev zXc (X : zX) := X.2.2.2.2.2.2.2.2.2.1
abbrev zXQ (X : zX) := X.2.2.2.2.2.2.2.2.2.2.1
abbrev zXn (X : zX) := X.2.2.2.2.2.2.2.2.2.2.2.1
abbrev zXk (X : zX) := X.2.2.2.2.2.2.2.2.2.2.2.2
/-- the walk's own facts: the machine, the code, the words, what the statics hold, the room (d calls deep) -/
def zOk (X : zX) (G : zG) (cc : ByteArray) (own : String) (nL : Nat) (ret : Option FieldType) (d : Nat) : Prop :=
  (zXp X).tables.exec = Jvm.exec ∧ (zXc X).code = cc ∧ (zXc X).maxLocals = nL ∧ (zXs X).vm.findClass own = some (zXm X).cls ∧ (∀ w ∈ zBIG, w.before (zXa X) (zXs X) = true) ∧
  (zXM X).sig.returnType = ret ∧ (zXM X).locks = false ∧ va_K (zgD G) zcl (zty G) (zXs X) ∧ zSt G (zXs X) (zXs X).heap ∧ (d ≤ (zXR X).frames ∧ 64 * d ≤ (zXR X).locals) ∧ zXn X ≤ (zXR X).cells ∧ zXk X ≤ (zXR X).slots
/-- locals by their places -/
def ztl (G : zG) : Nat → List (Option zV) → List (Nat × Value)
  | _, [] => []
  | i, none :: t => ztl G (i + 1) t
  | i, some v :: t => (i, zcv G v) :: ztl G (i + 1) t
theorem ztl_in {G : zG} : ∀ {lv : List (Option zV)} {i j : Nat} {v : zV}, lv[j]? = some (some v) → (i + j, zcv G v) ∈ ztl G i lv
  | [], i, j, v, h => by simp at h
  | none :: t, i, 0, v, h => by simp at h
  | some u :: t, i, 0, v, h => by
    have : u = v := by simpa using h
    subst this
    exact List.mem_cons_self
  | none :: t, i, j + 1, v, h => by
    have := ztl_in (G := G) (lv := t) (i := i + 1) (j := j) (v := v) (by simpa using h)
    rw [show i + (j + 1) = i + 1 + j by omega]
    exact this
  | some u :: t, i, j + 1, v, h => by
    have := ztl_in (G := G) (lv := t) (i := i + 1) (j := j) (v := v) (by simpa using h)
    rw [show i + (j + 1) = i + 1 + j by omega]
    exact List.mem_cons_of_mem _ this
theorem ztl_out {G : zG} : ∀ {lv : List (Option zV)} {i : Nat} {q : Nat × Value}, q ∈ ztl G i lv → ∃ j v, lv[j]? = some (some v) ∧ q = (i + j, zcv G v)
  | [], i, q, h => by cases h
  | none :: t, i, q, h => by
    obtain ⟨j, v, h1, h2⟩ := ztl_out (lv := t) (i := i + 1) h
    exact ⟨j + 1, v, by simpa using h1, by rw [h2, show i + (j + 1) = i + 1 + j by omega]⟩
  | some u :: t, i, q, h => by
    rcases List.mem_cons.mp h with rfl | h
    · exact ⟨0, u, rfl, rfl⟩
    · obtain ⟨j, v, h1, h2⟩ := ztl_out (lv := t) (i := i + 1) h
      exact ⟨j + 1, v, by simpa using h1, by rw [h2, show i + (j + 1) = i + 1 + j by omega]⟩
def zwide : Option zV → Bool
  | some (.inr (.inl _)) => true
  | _ => false
/-- a local is written: a long takes two places; a long whose second place is written is gone -/
def zset : List (Option zV) → Nat → zV → List (Option zV)
  | [], _, _ => []
  | _ :: t, 0, v => some v :: (if zwide (some v) then (match t with | [] => [] | _ :: t2 => none :: t2) else t)
  | x :: t, i + 1, v => (if i == 0 && zwide x then none else x) :: zset t i v
theorem zset_get : ∀ {lv : List (Option zV)} {i j : Nat} {v u : zV}, (zset lv i v)[j]? = some (some u) → (j = i ∧ u = v) ∨ (lv[j]? = some (some u) ∧ j ≠ i ∧ ¬ (j + 1 = i ∧ zwide (some u) = true) ∧ ¬ (zwide (some v) = true ∧ j = i + 1))
  | [], i, j, v, u, h => by simp [zset] at h
  | x :: t, 0, 0, v, u, h => by
    left
    simp [zset] at h
    exact ⟨rfl, h.symm⟩
  | x :: t, 0, j + 1, v, u, h => by
    right
    cases hw : zwide (some v) with
    | false =>
      simp [zset, hw] at h
      exact ⟨by simpa using h, by omega, by omega, by simp⟩
    | true =>
      cases t with
      | nil => simp [zset, hw] at h
      | cons y t2 =>
        cases j with
        | zero => simp [zset, hw] at h
        | succ j =>
          simp [zset, hw] at h
          exact ⟨by simpa using h, by omega, by omega, by omega⟩
  | x :: t, i + 1, 0, v, u, h => by
    right
    by_cases hc : (i == 0 && zwide x) = true
    · simp [zset, hc] at h
    · have hx : x = some u := by
        have : (zset (x :: t) (i + 1) v)[0]? = some (if (i == 0 && zwide x) = true then none else x) := by simp [zset]
        rw [this, if_neg hc] at h
        exact Option.some.inj h
      subst hx
      refine ⟨by simp, by omega, fun q => ?_, by omega⟩
      simp at hc
      have h1 := hc (by omega)
      rw [q.2] at h1
      cases h1
  | x :: t, i + 1, j + 1, v, u, h => by
    have h1 : (zset t i v)[j]? = some (some u) := by
      have : (zset (x :: t) (i + 1) v)[j + 1]? = (zset t i v)[j]? := by simp [zset]
      rw [this] at h
      exact h
    rcases zset_get h1 with ⟨a, b⟩ | ⟨a, b, c, d⟩
    · left; exact ⟨by omega, b⟩
    · right; exact ⟨by simpa using a, by omega, fun q => c ⟨by omega, q.2⟩, fun q => d ⟨q.1, by omega⟩⟩
theorem zcat (G : zG) : ∀ v : zV, (zcv G v).category = if zwide (some v) then 2 else 1
  | .inl _ => rfl
  | .inr (.inl _) => rfl
  | .inr (.inr (.inl _)) => rfl
  | .inr (.inr (.inr none)) => rfl
  | .inr (.inr (.inr (some _))) => rfl
theorem zl_mono {ls : Array Slot} {nL : Nat} {l l' : List (Nat × Value)} (h : lv_has ls nL l) (hs : ∀ q ∈ l', q ∈ l) : lv_has ls nL l' := ⟨h.1, h.2.1, fun q hq => h.2.2 q (hs q hq)⟩
theorem zl_set1 {G : zG} {ls : Array Slot} {nL i : Nat} {lv : List (Option zV)} {v : zV} (hv : zwide (some v) = false) (h : lv_has ls nL ((i, zcv G v) :: (ztl G 0 lv).filter (fun q => !(q.1 == i) && !(q.1 + 1 == i && q.2.category == 2)))) : lv_has ls nL (ztl G 0 (zset lv i v)) := by
  refine zl_mono h (fun q hq => ?_)
  obtain ⟨j, u, h1, rfl⟩ := ztl_out hq
  rcases zset_get h1 with ⟨rfl, rfl⟩ | ⟨a, b, c, -⟩
  · rw [Nat.zero_add]; exact List.mem_cons_self
  · refine List.mem_cons_of_mem _ (List.mem_filter.mpr ⟨ztl_in a, ?_⟩)
    rw [zcat]
    cases hu : zwide (some u) with
    | false => simp; omega
    | true =>
      have c2 : ¬ j + 1 = i := fun q => c ⟨q, hu⟩
      simp; omega
theorem zl_set2 {G : zG} {ls : Array Slot} {nL i : Nat} {lv : List (Option zV)} {v : zV} (hv : zwide (some v) = true) (h : lv_has ls nL ((i, zcv G v) :: (ztl G 0 lv).filter (fun q => !(q.1 == i) && (!(q.1 == i + 1) && !(q.1 + 1 == i && q.2.category == 2))))) : lv_has ls nL (ztl G 0 (zset lv i v)) := by
  refine zl_mono h (fun q hq => ?_)
  obtain ⟨j, u, h1, rfl⟩ := ztl_out hq
  rcases zset_get h1 with ⟨rfl, rfl⟩ | ⟨a, b, c, d⟩
  · rw [Nat.zero_add]; exact List.mem_cons_self
  · refine List.mem_cons_of_mem _ (List.mem_filter.mpr ⟨ztl_in a, ?_⟩)
    rw [zcat]
    have d2 : ¬ j = i + 1 := fun q => d ⟨hv, q⟩
    cases hu : zwide (some u) with
    | false => simp; omega
    | true =>
      have c2 : ¬ j + 1 = i := fun q => c ⟨q, hu⟩
      simp; omega
def zrL (lv : List (Option zV)) : Prop := ∀ (j : Nat) (v : zV), lv[j]? = some (some v) → zrV v
def zrS (st : List zV) : Prop := ∀ v ∈ st, zrV v
theorem zrL_set {lv : List (Option zV)} {i : Nat} {v : zV} (h : zrL lv) (hv : zrV v) : zrL (zset lv i v) := fun j u hu => by
  rcases zset_get hu with ⟨-, rfl⟩ | ⟨a, -⟩
  · exact hv
  · exact h j u a
theorem zrS_cons {v : zV} {st : List zV} (hv : zrV v) (h : zrS st) : zrS (v :: st) := fun u hu => by
  rcases List.mem_cons.mp hu with rfl | hu
  · exact hv
  · exact h u hu
theorem zrS_hd {v : zV} {st : List zV} (h : zrS (v :: st)) : zrV v := h v List.mem_cons_self
theorem zrS_tl {v : zV} {st : List zV} (h : zrS (v :: st)) : zrS st := fun u hu => h u (List.mem_cons_of_mem _ hu)
/-- fewer locals are told -/
def zle : List (Option zV) → List (Option zV) → Prop
  | [], _ => True
  | none :: a, _ :: b => zle a b
  | some x :: a, y :: b => y = some x ∧ zle a b
  | none :: a, [] => zle a []
  | some _ :: _, [] => False
theorem zle_get : ∀ {a b : List (Option zV)} {j : Nat} {v : zV}, zle a b → a[j]? = some (some v) → b[j]? = some (some v)
  | [], b, j, v, h, hj => by simp at hj
  | none :: a, [], 0, v, h, hj => by simp at hj
  | none :: a, [], j + 1, v, h, hj => by
    have := zle_get (a := a) (b := []) (j := j) (v := v) h (by simpa using hj)
    simp at this
  | none :: a, y :: b, 0, v, h, hj => by simp at hj
  | none :: a, y :: b, j + 1, v, h, hj => by
    have := zle_get (a := a) (b := b) (j := j) (v := v) h (by simpa using hj)
    simpa using this
  | some x :: a, [], j, v, h, hj => h.elim
  | some x :: a, y :: b, 0, v, h, hj => by
    obtain ⟨rfl, -⟩ := h
    simpa using hj
  | some x :: a, y :: b, j + 1, v, h, hj => by
    have := zle_get (a := a) (b := b) (j := j) (v := v) h.2 (by simpa using hj)
    simpa using this
/-- the walk, from pc with locals lv, stack st and world μ, comes to its end -/
def zW (X : zX) (G : zG) (nL pc : Nat) (lv : List (Option zV)) (st : List zV) (μ : zM) : Prop :=
  ∀ (H : Heap) (locs : List Loc) (ls : Array Slot), zrM μ → zrS st → zrL lv → lv_has ls nL (ztl G 0 lv) → va_P (zgD G) zcl (zws G μ) H → va_D (zgA G) (zws G μ) → va_S (zgA G) (zXs X).heap H locs →
    W (zXp X) (zXl X) (zXe X) (zXR X) (zXs X) (zXm X) (zXa X) (zXb X) (zXM X) (zXc X) H locs (zXn X) (zXk X) (zXQ X) (F0 (zXm X) pc ls (st.map (zcv G)))
theorem zW_le {X : zX} {G : zG} {nL pc : Nat} {lv lw : List (Option zV)} {st : List zV} {μ : zM} (h : zle lv lw) (k : zW X G nL pc lv st μ) : zW X G nL pc lw st μ := fun H locs ls hM hst hlv hl hP hD hS =>
  k H locs ls hM hst (fun j v hv => hlv j v (zle_get h hv)) (zl_mono hl (fun q hq => by
    obtain ⟨j, v, h1, rfl⟩ := ztl_out hq
    exact ztl_in (zle_get h h1))) hP hD hS
section ZR
variable {X : zX} {G : zG} {cc : ByteArray} {own : String} {nL d pc : Nat} {ret : Option FieldType} {lv : List (Option zV)} {st : List zV} {μ : zM}
/-! constants -/
theorem zrl {n : Int} (h : (decide (-2147483648 ≤ n) && decide (n < 2147483648)) = true) : zrI n := by
  simp only [Bool.and_eq_true, decide_eq_true_eq] at h
  exact h
theorem zrlJ {n : Int} (h : (decide (-9223372036854775808 ≤ n) && decide (n < 9223372036854775808)) = true) : zrJ n := by
  simp only [Bool.and_eq_true, decide_eq_true_eq] at h
  exact h
theorem z_b8 {n : Int} (h : (decide (-128 ≤ n) && decide (n ≤ 127)) = true) : (Int8.ofInt n).toInt32 = Int32.ofInt n ∧ zrI n := by
  simp only [Bool.and_eq_true, decide_eq_true_eq] at h
  exact ⟨Int8.toInt32_ofInt h.1 h.2, by unfold zrI; omega⟩
theorem z_b16 {n : Int} (h : (decide (-32768 ≤ n) && decide (n ≤ 32767)) = true) : (Int16.ofInt n).toInt32 = Int32.ofInt n ∧ zrI n := by
  simp only [Bool.and_eq_true, decide_eq_true_eq] at h
  exact ⟨Int16.toInt32_ofInt h.1 h.2, by unfold zrI; omega⟩
theorem zr_iconst (hX : zOk X G cc own nL ret d) {n : Int} (hd : decode cc pc = .ok (.iconst n, 1)) (hr : zrI n) (k : zW X G nL (pc + 1) lv (zI n :: st) μ) : zW X G nL pc lv st μ := fun H locs ls hM hst hlv hl hP hD hS =>
  lv_iconst hX.1 hX.2.1 hd rfl (k H locs ls hM (zrS_cons hr hst) hlv hl hP hD hS)
theorem zr_bipush (hX : zOk X G cc own nL ret d) {n : Int} (hd : decode cc pc = .ok (.bipush n, 2)) (hb : (decide (-128 ≤ n) && decide (n ≤ 127)) = true) (k : zW X G nL (pc + 2) lv (zI n :: st) μ) : zW X G nL pc lv st μ := fun H locs ls hM hst hlv hl hP hD hS =>
  lv_bipush hX.1 hX.2.1 hd (z_b8 hb).1 (k H locs ls hM (zrS_cons (z_b8 hb).2 hst) hlv hl hP hD hS)
theorem zr_sipush (hX : zOk X G cc own nL ret d) {n : Int} (hd : decode cc pc = .ok (.sipush n, 3)) (hb : (decide (-32768 ≤ n) && decide (n ≤ 32767)) = true) (k : zW X G nL (pc + 3) lv (zI n :: st) μ) : zW X G nL pc lv st μ := fun H locs ls hM hst hlv hl hP hD hS =>
  lv_sipush hX.1 hX.2.1 hd (z_b16 hb).1 (k H locs ls hM (zrS_cons (z_b16 hb).2 hst) hlv hl hP hD hS)
theorem zr_lconst (hX : zOk X G cc own nL ret d) {q : Fin 2} {n : Int} (hd : decode cc pc = .ok (.lconst q, 1)) (hv : Int64.ofNat (q : Nat) = Int64.ofInt n) (hr : zrJ n) (k : zW X G nL (pc + 1) lv (zJ n :: st) μ) : zW X G nL pc lv st μ := fun H locs ls hM hst hlv hl hP hD hS =>
  lv_lconst hX.1 hX.2.1 hd hv (k H locs ls hM (zrS_cons hr hst) hlv hl hP hD hS)
theorem zr_ldc (hX : zOk X G cc own nL ret d) {i : Nat} {n : Int} {v : Int32} (hd : decode cc pc = .ok (.ldc i, 2)) (hw : Cond.constant own i v ∈ zBIG) (hv : Int32.ofInt n = v) (hr : zrI n) (k : zW X G nL (pc + 2) lv (zI n :: st) μ) : zW X G nL pc lv st μ := fun H locs ls hM hst hlv hl hP hD hS => by
  refine lv_ldc hX.1 hX.2.1 hX.2.2.2.1 (hX.2.2.2.2.1 _ hw) hd ?_
  subst hv
  exact k H locs ls hM (zrS_cons hr hst) hlv hl hP hD hS
theorem zr_ldcw (hX : zOk X G cc own nL ret d) {i : Nat} {n : Int} {v : Int32} (hd : decode cc pc = .ok (.ldc_w i, 3)) (hw : Cond.constant own i v ∈ zBIG) (hv : Int32.ofInt n = v) (hr : zrI n) (k : zW X G nL (pc + 3) lv (zI n :: st) μ) : zW X G nL pc lv st μ := fun H locs ls hM hst hlv hl hP hD hS => by
  refine lv_ldcw hX.1 hX.2.1 hX.2.2.2.1 (hX.2.2.2.2.1 _ hw) hd ?_
  subst hv
  exact k H locs ls hM (zrS_cons hr hst) hlv hl hP hD hS
theorem zr_ldc2 (hX : zOk X G cc own nL ret d) {i : Nat} {n : Int} {v : Int64} (hd : decode cc pc = .ok (.ldc2_w i, 3)) (hw : Cond.constantLong own i v ∈ zBIG) (hv : Int64.ofInt n = v) (hr : zrJ n) (k : zW X G nL (pc + 3) lv (zJ n :: st) μ) : zW X G nL pc lv st μ := fun H locs ls hM hst hlv hl hP hD hS => by
  refine lv_ldc2 hX.1 hX.2.1 hX.2.2.2.1 (hX.2.2.2.2.1 _ hw) hd ?_
  subst hv
  exact k H locs ls hM (zrS_cons hr hst) hlv hl hP hD hS
/-! locals -/
theorem zl_at {ls : Array Slot} {i : Nat} {v : zV} (hl : lv_has ls nL (ztl G 0 lv)) (h : lv[i]? = some (some v)) : ls[i]? = some (.val (zcv G v)) := by
  have := hl.2.2 _ (ztl_in (i := 0) h)
  simpa using this
theorem zr_iload_n (hX : zOk X G cc own nL ret d) {q : Fin 4} {i : Nat} {z : Int} (hd : decode cc pc = .ok (.iload_n q, 1)) (hi : (q : Nat) = i) (h : lv[i]? = some (some (zI z))) (k : zW X G nL (pc + 1) lv (zI z :: st) μ) : zW X G nL pc lv st μ := fun H locs ls hM hst hlv hl hP hD hS =>
  lv_iload_n hX.1 hX.2.1 hd hi (zl_at hl h) (k H locs ls hM (zrS_cons (hlv _ _ h) hst) hlv hl hP hD hS)
theorem zr_iload (hX : zOk X G cc own nL ret d) {i : Nat} {z : Int} (hd : decode cc pc = .ok (.iload i, 2)) (h : lv[i]? = some (some (zI z))) (k : zW X G nL (pc + 2) lv (zI z :: st) μ) : zW X G nL pc lv st μ := fun H locs ls hM hst hlv hl hP hD hS =>
  lv_iload hX.1 hX.2.1 hd (zl_at hl h) (k H locs ls hM (zrS_cons (hlv _ _ h) hst) hlv hl hP hD hS)
theorem zr_lload_n (hX : zOk X G cc own nL ret d) {q : Fin 4} {i : Nat} {z : Int} (hd : decode cc pc = .ok (.lload_n q, 1)) (hi : (q : Nat) = i) (h : lv[i]? = some (some (zJ z))) (k : zW X G nL (pc + 1) lv (zJ z :: st) μ) : zW X G nL pc lv st μ := fun H locs ls hM hst hlv hl hP hD hS =>
  lv_lload_n hX.1 hX.2.1 hd hi (zl_at hl h) (k H locs ls hM (zrS_cons (hlv _ _ h) hst) hlv hl hP hD hS)
theorem zr_lload (hX : zOk X G cc own nL ret d) {i : Nat} {z : Int} (hd : decode cc pc = .ok (.lload i, 2)) (h : lv[i]? = some (some (zJ z))) (k : zW X G nL (pc + 2) lv (zJ z :: st) μ) : zW X G nL pc lv st μ := fun H locs ls hM hst hlv hl hP hD hS =>
  lv_lload hX.1 hX.2.1 hd (zl_at hl h) (k H locs ls hM (zrS_cons (hlv _ _ h) hst) hlv hl hP hD hS)
theorem zr_aload_n (hX : zOk X G cc own nL ret d) {q : Fin 4} {i : Nat} {o : Nat} (hd : decode cc pc = .ok (.aload_n q, 1)) (hi : (q : Nat) = i) (h : lv[i]? = some (some (zR o))) (k : zW X G nL (pc + 1) lv (zR o :: st) μ) : zW X G nL pc lv st μ := fun H locs ls hM hst hlv hl hP hD hS =>
  lv_aload_n hX.1 hX.2.1 hd hi (zl_at hl h) (k H locs ls hM (zrS_cons (hlv _ _ h) hst) hlv hl hP hD hS)
theorem zr_aload (hX : zOk X G cc own nL ret d) {i : Nat} {o : Nat} (hd : decode cc pc = .ok (.aload i, 2)) (h : lv[i]? = some (some (zR o))) (k : zW X G nL (pc + 2) lv (zR o :: st) μ) : zW X G nL pc lv st μ := fun H locs ls hM hst hlv hl hP hD hS =>
  lv_aload hX.1 hX.2.1 hd (zl_at hl h) (k H locs ls hM (zrS_cons (hlv _ _ h) hst) hlv hl hP hD hS)
theorem zr_aload_nN (hX : zOk X G cc own nL ret d) {q : Fin 4} {i : Nat} {o : Option Nat} (hd : decode cc pc = .ok (.aload_n q, 1)) (hi : (q : Nat) = i) (h : lv[i]? = some (some (zN o))) (k : zW X G nL (pc + 1) lv (zN o :: st) μ) : zW X G nL pc lv st μ := fun H locs ls hM hst hlv hl hP hD hS => by
  cases o with
  | none => exact lv_aload_nN hX.1 hX.2.1 hd hi (zl_at hl h) (k H locs ls hM (zrS_cons (hlv _ _ h) hst) hlv hl hP hD hS)
  | some o => exact lv_aload_n hX.1 hX.2.1 hd hi (zl_at hl h) (k H locs ls hM (zrS_cons (hlv _ _ h) hst) hlv hl hP hD hS)
theorem zr_istore_n (hX : zOk X G cc own nL ret d) {q : Fin 4} {i : Nat} {z : Int} (hd : decode cc pc = .ok (.istore_n q, 1)) (hi : (q : Nat) = i) (hn : i < nL) (k : zW X G nL (pc + 1) (zset lv i (zI z)) st μ) : zW X G nL pc lv (zI z :: st) μ := fun H locs ls hM hst hlv hl hP hD hS =>
  lv_istore_n hX.1 hX.2.1 hd hi hl hn rfl (fun ls' h' => k H locs ls' hM (zrS_tl hst) (zrL_set hlv (zrS_hd hst)) (zl_set1 rfl h') hP hD hS)
theorem zr_istore (hX : zOk X G cc own nL ret d) {i : Nat} {z : Int} (hd : decode cc pc = .ok (.istore i, 2)) (hn : i < nL) (k : zW X G nL (pc + 2) (zset lv i (zI z)) st μ) : zW X G nL pc lv (zI z :: st) μ := fun H locs ls hM hst hlv hl hP hD hS =>
  lv_istore hX.1 hX.2.1 hd hl hn rfl (fun ls' h' => k H locs ls' hM (zrS_tl hst) (zrL_set hlv (zrS_hd hst)) (zl_set1 rfl h') hP hD hS)
theorem zr_lstore_n (hX : zOk X G cc own nL ret d) {q : Fin 4} {i : Nat} {z : Int} (hd : decode cc pc = .ok (.lstore_n q, 1)) (hi : (q : Nat) = i) (hn : i + 1 < nL) (k : zW X G nL (pc + 1) (zset lv i (zJ z)) st μ) : zW X G nL pc lv (zJ z :: st) μ := fun H locs ls hM hst hlv hl hP hD hS =>
  lv_lstore_n hX.1 hX.2.1 hd hi hl hn rfl (fun ls' h' => k H locs ls' hM (zrS_tl hst) (zrL_set hlv (zrS_hd hst)) (zl_set2 rfl h') hP hD hS)
theorem zr_lstore (hX : zOk X G cc own nL ret d) {i : Nat} {z : Int} (hd : decode cc pc = .ok (.lstore i, 2)) (hn : i + 1 < nL) (k : zW X G nL (pc + 2) (zset lv i (zJ z)) st μ) : zW X G nL pc lv (zJ z :: st) μ := fun H locs ls hM hst hlv hl hP hD hS =>
  lv_lstore hX.1 hX.2.1 hd hl hn rfl (fun ls' h' => k H locs ls' hM (zrS_tl hst) (zrL_set hlv (zrS_hd hst)) (zl_set2 rfl h') hP hD hS)
theorem zr_astore_n (hX : zOk X G cc own nL ret d) {q : Fin 4} {i : Nat} {o : Nat} (hd : decode cc pc = .ok (.astore_n q, 1)) (hi : (q : Nat) = i) (hn : i < nL) (k : zW X G nL (pc + 1) (zset lv i (zR o)) st μ) : zW X G nL pc lv (zR o :: st) μ := fun H locs ls hM hst hlv hl hP hD hS =>
  lv_astore_n hX.1 hX.2.1 hd hi hl hn rfl (fun ls' h' => k H locs ls' hM (zrS_tl hst) (zrL_set hlv (zrS_hd hst)) (zl_set1 rfl h') hP hD hS)
theorem zr_astore (hX : zOk X G cc own nL ret d) {i : Nat} {o : Nat} (hd : decode cc pc = .ok (.astore i, 2)) (hn : i < nL) (k : zW X G nL (pc + 2) (zset lv i (zR o)) st μ) : zW X G nL pc lv (zR o :: st) μ := fun H locs ls hM hst hlv hl hP hD hS =>
  lv_astore hX.1 hX.2.1 hd hl hn rfl (fun ls' h' => k H locs ls' hM (zrS_tl hst) (zrL_set hlv (zrS_hd hst)) (zl_set1 rfl h') hP hD hS)
theorem zr_astore_nN (hX : zOk X G cc own nL ret d) {q : Fin 4} {i : Nat} {o : Option Nat} (hd : decode cc pc = .ok (.astore_n q, 1)) (hi : (q : Nat) = i) (hn : i < nL) (k : zW X G nL (pc + 1) (zset lv i (zN o)) st μ) : zW X G nL pc lv (zN o :: st) μ := fun H locs ls hM hst hlv hl hP hD hS => by
  cases o with
  | none => exact lv_astore_nN hX.1 hX.2.1 hd hi hl hn rfl (fun ls' h' => k H locs ls' hM (zrS_tl hst) (zrL_set hlv (zrS_hd hst)) (zl_set1 rfl h') hP hD hS)
  | some o => exact lv_astore_n hX.1 hX.2.1 hd hi hl hn rfl (fun ls' h' => k H locs ls' hM (zrS_tl hst) (zrL_set hlv (zrS_hd hst)) (zl_set1 rfl h') hP hD hS)
theorem zr_iinc (hX : zOk X G cc own nL ret d) {i : Nat} {n z : Int} (hd : decode cc pc = .ok (.iinc i n, 3)) (h : lv[i]? = some (some (zI z))) (hn : i < nL) (k : zW X G nL (pc + 3) (zset lv i (zI (z32 (z + n)))) st μ) : zW X G nL pc lv st μ := fun H locs ls hM hst hlv hl hP hD hS => by
  have hm : (i, Value.int (Int32.ofInt z)) ∈ ztl G 0 lv := by
    have := ztl_in (G := G) (i := 0) h
    rw [Nat.zero_add] at this
    exact this
  obtain ⟨j, hj⟩ := List.getElem?_of_mem hm
  refine lv_iinc hX.1 hX.2.1 hd hl hj (v := Int32.ofInt (z32 (z + n))) (by rw [z32_of, Int32.ofInt_add]) hn rfl (fun ls' h' => ?_)
  exact k H locs ls' hM hst (zrL_set hlv (z32_r _)) (zl_set1 (v := zI (z32 (z + n))) rfl h') hP hD hS
end ZR
