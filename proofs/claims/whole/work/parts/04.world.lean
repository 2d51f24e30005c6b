/-! THE WORLD: objects by number (in the order in which they are made), what they hold, by two numbers -/
abbrev zM : Type := Nat → Nat → Int
abbrev zV : Type := Int ⊕ Int ⊕ Nat ⊕ Option Nat
abbrev zI (z : Int) : zV := .inl z
abbrev zJ (z : Int) : zV := .inr (.inl z)
abbrev zR (o : Nat) : zV := .inr (.inr (.inl o))
abbrev zN (q : Option Nat) : zV := .inr (.inr (.inr q))
/-- one place changed -/
def zst (μ : zM) (o k : Nat) (v : Int) : zM := fun p q => if p = o ∧ q = k then v else μ p q
/-- System.arraycopy: n places of a from i on come to b from j on -/
def zcp (μ : zM) (a i b j n : Nat) : zM := fun p q => if p = b ∧ j ≤ q ∧ q < j + n then μ a (i + (q - j)) else μ p q
def zrV : zV → Prop
  | .inl z => zrI z
  | .inr (.inl z) => zrJ z
  | _ => True
/-- kinds: 0 an object of a class, 1 ints, 2 booleans, 3 the row of kept stories -/
def zSH : List (Nat × Nat) := [(0, 5), (0, 3), (1, 6), (1, 240), (0, 3), (1, 4), (1, 240), (0, 4), (0, 1), (1, 5), (1, 30), (1, 1200), (3, 3), (0, 1), (1, 5), (1, 30), (0, 0), (1, 12), (1, 12), (1, 12), (1, 12), (1, 144), (1, 12), (0, 2), (1, 12), (1, 4096), (1, 6), (0, 4), (0, 1), (1, 5), (1, 30), (1, 1200), (0, 4), (0, 1), (1, 5), (1, 30), (1, 1200), (0, 4), (0, 1), (1, 5), (1, 30), (1, 1200), (0, 6), (1, 10956), (1, 3), (1, 240), (1, 6), (1, 240), (1, 4), (1, 40), (1, 6), (1, 144), (1, 4096), (1, 4096), (1, 5), (2, 5)]
def zsh (o : Nat) : Nat × Nat := zSH.getD o (9, 0)
def zFK : Nat → List (Nat × Nat)
  | 0 => [(0, 0), (0, 0), (2, 1), (2, 2), (2, 3), (2, 4), (2, 5), (2, 6)]
  | 1 => [(0, 0), (0, 0), (2, 1), (2, 2)]
  | 2 => [(0, 0), (2, 1), (2, 2)]
  | 3 => [(0, 0), (0, 0), (2, 1), (2, 2)]
  | 4 => [(2, 1), (2, 4), (0, 0)]
  | 5 => [(2, 1), (2, 4), (2, 7), (2, 12), (2, 13), (2, 16), (2, 23), (2, 26), (0, 0), (0, 0), (1, 0), (1, 0)]
  | 6 => [(2, 1), (0, 0), (2, 2), (2, 3), (2, 4), (2, 5), (2, 6), (2, 7), (0, 0), (2, 8), (0, 0), (1, 0), (1, 0), (2, 9), (2, 10), (2, 11), (2, 12), (2, 13), (1, 0)]
  | _ => []
/-- the places that hold longs -/
def zlg (o k : Nat) : Bool := (o == 0 && (k == 10 || k == 11)) || (o == 42 && (k == 11 || k == 12 || k == 18))
def zrM (μ : zM) : Prop := ∀ o k : Nat, zrJ (μ o k) ∧ (zlg o k = false → zrI (μ o k))
theorem zrM_i {μ : zM} (h : zrM μ) {o k : Nat} (hl : zlg o k = false) : zrI (μ o k) := (h o k).2 hl
theorem zrM_st {μ : zM} (h : zrM μ) {o k : Nat} {v : Int} (hv : zrJ v) (hl : zlg o k = false → zrI v) : zrM (zst μ o k v) := by
  intro p q
  unfold zst
  by_cases hc : p = o ∧ q = k
  · rw [if_pos hc, hc.1, hc.2]; exact ⟨hv, hl⟩
  · rw [if_neg hc]; exact h p q
theorem zrM_cp {μ : zM} (h : zrM μ) {a i b j n : Nat} (ha : ∀ k, zlg a k = false) : zrM (zcp μ a i b j n) := by
  intro p q
  unfold zcp
  by_cases hc : p = b ∧ j ≤ q ∧ q < j + n
  · rw [if_pos hc]; exact ⟨(h _ _).1, fun _ => (h _ _).2 (ha _)⟩
  · rw [if_neg hc]; exact h p q
theorem zsh_lt {o a b : Nat} (h : zsh o = (a, b)) (ha : a < 9) : o < 56 := by
  rcases Nat.lt_or_ge o 56 with q | q
  · exact q
  · exfalso
    unfold zsh at h
    rw [List.getD_eq_getElem?_getD, List.getElem?_eq_none (show zSH.length ≤ o from q)] at h
    have := congrArg Prod.fst h
    simp at this
    omega
def zlgok (o : Nat) : Bool := match zsh o with
  | (0, c) => (zFK c).zipIdx.all (fun t => (t.1.1 == 1) == zlg o t.2)
  | _ => (List.range 20).all (fun k => zlg o k == false)
theorem zlg_all : ∀ o < 56, zlgok o = true := by decide +kernel
theorem zlg_of {o ci k t f : Nat} (h : zsh o = (0, ci)) (hk : (zFK ci)[k]? = some (t, f)) : zlg o k = (t == 1) := by
  have h1 := zlg_all o (zsh_lt h (by omega))
  unfold zlgok at h1
  rw [h] at h1
  have h2 := List.all_eq_true.mp h1 ((t, f), k) (List.mem_of_getElem? (i := k) (by simp [hk]))
  simp at h2
  exact h2.symm
theorem zlg_arr {o a n : Nat} (h : zsh o = (a, n)) (ha : a ≠ 0) (k : Nat) : zlg o k = false := by
  cases hz : zlg o k with
  | false => rfl
  | true =>
    exfalso
    unfold zlg at hz
    have ho : o = 0 ∨ o = 42 := by simp at hz; omega
    rcases ho with rfl | rfl
    · exact ha (congrArg Prod.fst h).symm
    · exact ha (congrArg Prod.fst h).symm
/-! what stands for what -/
abbrev zG : Type := va_G × (Nat → Nat) × ClassId × ClassId × ClassId × (Nat → Prop)
abbrev zgD (G : zG) : va_G := G.1
abbrev zgR (G : zG) : Nat → Nat := G.2.1
abbrev zgI (G : zG) : ClassId := G.2.2.1
abbrev zgZ (G : zG) : ClassId := G.2.2.2.1
abbrev zgS (G : zG) : ClassId := G.2.2.2.2.1
abbrev zgA (G : zG) : Nat → Prop := G.2.2.2.2.2
def zcv (G : zG) : zV → Value
  | .inl z => .int (Int32.ofInt z)
  | .inr (.inl z) => .long (Int64.ofInt z)
  | .inr (.inr (.inl o)) => .ref (zgR G o)
  | .inr (.inr (.inr none)) => .null
  | .inr (.inr (.inr (some o))) => .ref (zgR G o)
def zfv (G : zG) (μ : zM) (o k : Nat) : Nat × Nat → Value
  | (0, _) => .int (Int32.ofInt (μ o k))
  | (1, _) => .long (Int64.ofInt (μ o k))
  | (_, f) => .ref (zgR G (o + f))
def zce (G : zG) (μ : zM) (o : Nat) : va_E := match zsh o with
  | (0, ci) => .inr (ci, (zFK ci).mapIdx (fun k t => zfv G μ o k t))
  | (1, n) => .inl (zgI G, n, .inl fun k => Int32.ofInt (μ o k))
  | (2, n) => .inl (zgZ G, n, .inl fun k => Int32.ofInt (μ o k))
  | (_, n) => .inl (zgS G, n, .inr (.inr (.inr (.inr fun k => some (zgR G (27 + 5 * k))))))
def zws (G : zG) (μ : zM) : va_W := (List.range 56).map fun o => (zgR G o, zce G μ o)
def zcl : List vw_C := [(RX0, TX0, 8), (RX1, TX1, 4), (RX2, TX2, 3), (RX3, TX3, 4), (RX4, TX4, 3), (RX5, TX5, 12), (RX6, TX6, 19)]
def zty (G : zG) : List (ClassId × FieldType) := [(zgI G, .int), (zgZ G, .boolean), (zgS G, .object "RoofLent$Story")]
/-- the four rows of constants: objects 60 to 63 -/
def zSN : Nat → String
  | 0 => "LETTERS"
  | 1 => "WEIGHTS"
  | 2 => "EASTWARD"
  | _ => "UPWARD"
def zSV : Nat → List Int
  | 0 => [104, 103, 108, 97, 101, 109]
  | 1 => [2, 1, 1, 4, 1, 1]
  | 2 => [-1, -1, 0, 1, 1]
  | _ => [0, 1, 1, 1, 0]
/-- links between nest mates -/
def zNF : List (String × Nat × String × String × String × String) := [(RX5, 125, "RoofLent$Story", "rock", "LRoofLent$Rock;", "RoofLent"), (RX5, 182, "RoofLent$Story", "deeds", "I", "RoofLent"), (RX5, 217, "RoofLent$Ledger", "allLamps", "I", "RoofLent"), (RX1, 102, "RoofLent", "UPWARD", "[I", "RoofLent"), (RX1, 90, "RoofLent", "WEIGHTS", "[I", "RoofLent"), (RX1, 99, "RoofLent", "EASTWARD", "[I", "RoofLent")]
def zNM : List (String × Nat × MethodName × String) := [(RX5, 36, yX1_init, "RoofLent"), (RX5, 43, yX0_init, "RoofLent"), (RX5, 50, yX2_init, "RoofLent"), (RX1, 84, yX5_isOf, "RoofLent"), (RX4, 11, yX1_init, "RoofLent")]
def zNw (U : State) : Prop := (∀ q ∈ zNF, va_Nw (.fieldLinkNest q.1 q.2.1 q.2.2.1 q.2.2.2.1 q.2.2.2.2.1 q.2.2.2.2.2) U) ∧ ∀ q ∈ zNM, va_Nw (.methodLinkNest q.1 q.2.1 q.2.2.1 q.2.2.2) U
theorem zNw_warm {s U : State} (hW : s.WarmedH U.vm) (h : zNw s) : zNw U := ⟨fun q hq => va_Nw.warmF hW (h.1 q hq), fun q hq => va_Nw.warmM hW (h.2 q hq)⟩
theorem zNw_same {s U : State} (e : s.vm = U.vm) (h : zNw s) : zNw U := ⟨fun q hq => va_Nw.same rfl e (h.1 q hq), fun q hq => va_Nw.same rfl e (h.2 q hq)⟩
def zSt (G : zG) (U : State) (H : Heap) : Prop := (∀ i, i < 4 → va_Z "RoofLent" (zSN i) "[I" (.ref (zgR G (60 + i))) (zgA G) U H ∧ va_T .int (zgR G (60 + i)) (zSV i).length (fun k => .int (Int32.ofInt ((zSV i).getD k 0))) (zgA G) U H) ∧ zNw U
def zRW (G : zG) (μ : zM) (U : State) : Prop := va_P (zgD G) zcl (zws G μ) U.heap ∧ va_K (zgD G) zcl (zty G) U ∧ zSt G U U.heap ∧ va_D (zgA G) (zws G μ)
theorem zws_get (G : zG) (μ : zM) {o : Nat} (h : o < 56) : (zws G μ)[o]? = some (zgR G o, zce G μ o) := by
  unfold zws
  rw [List.getElem?_map, List.getElem?_range h]
  rfl
theorem zce_congr {G : zG} {μ ν : zM} {o : Nat} (h : ν o = μ o) : zce G ν o = zce G μ o := by
  unfold zce
  split
  · congr 2
    apply List.ext_getElem?
    intro i
    simp only [List.getElem?_mapIdx]
    cases (zFK _)[i]? with
    | none => rfl
    | some t =>
      simp only [Option.map_some]
      unfold zfv
      split <;> first | rfl | rw [h]
  · rw [h]
  · rw [h]
  · rfl
theorem zws_set {G : zG} {μ ν : zM} {o : Nat} {e : va_E} (ho : o < 56) (he : zce G ν o = e) (hne : ∀ q, q ≠ o → ν q = μ q) : (zws G μ).set o (zgR G o, e) = zws G ν := by
  apply List.ext_getElem?
  intro i
  rcases Nat.lt_or_ge i 56 with hi | hi
  · rw [zws_get G ν hi]
    by_cases h : i = o
    · subst h
      rw [List.getElem?_set_self (by unfold zws; simpa using hi), he]
    · rw [List.getElem?_set_ne (fun q => h q.symm), zws_get G μ hi, zce_congr (hne i h)]
  · rw [List.getElem?_eq_none (by unfold zws; simpa using hi), List.getElem?_eq_none (by unfold zws; simpa using hi)]
theorem zce_int {G : zG} {μ : zM} {o n : Nat} (h : zsh o = (1, n)) : zce G μ o = .inl (zgI G, n, .inl fun k => Int32.ofInt (μ o k)) := by unfold zce; rw [h]; rfl
theorem zce_bool {G : zG} {μ : zM} {o n : Nat} (h : zsh o = (2, n)) : zce G μ o = .inl (zgZ G, n, .inl fun k => Int32.ofInt (μ o k)) := by unfold zce; rw [h]; rfl
theorem zce_ref {G : zG} {μ : zM} {o n : Nat} (h : zsh o = (3, n)) : zce G μ o = .inl (zgS G, n, .inr (.inr (.inr (.inr fun k => some (zgR G (27 + 5 * k)))))) := by unfold zce; rw [h]; rfl
theorem zce_obj {G : zG} {μ : zM} {o ci : Nat} (h : zsh o = (0, ci)) : zce G μ o = .inr (ci, (zFK ci).mapIdx (fun k t => zfv G μ o k t)) := by unfold zce; rw [h]; rfl
theorem zfs_get {G : zG} {μ : zM} {o ci k : Nat} {t : Nat × Nat} (hk : (zFK ci)[k]? = some t) : ((zFK ci).mapIdx (fun k t => zfv G μ o k t))[k]? = some (zfv G μ o k t) := by simp [hk]
/-- a field is written: the world is that of the new places -/
theorem zfs_set {G : zG} {μ : zM} {o ci k : Nat} {t : Nat × Nat} {v : Int} {w : Value} (hk : (zFK ci)[k]? = some t) (hw : zfv G (zst μ o k v) o k t = w) : (zFK ci).mapIdx (fun j t => zfv G (zst μ o k v) o j t) = ((zFK ci).mapIdx (fun k t => zfv G μ o k t)).set k w := by
  apply List.ext_getElem?
  intro i
  have hlen : k < (zFK ci).length := (List.getElem?_eq_some_iff.mp hk).1
  by_cases h : i = k
  · subst h
    rw [zfs_get hk, List.getElem?_set_self (by simpa using hlen), hw]
  · rw [List.getElem?_set_ne (fun q => h q.symm)]
    simp only [List.getElem?_mapIdx]
    cases (zFK ci)[i]? with
    | none => rfl
    | some t2 =>
      have e : zst μ o k v o i = μ o i := by unfold zst; rw [if_neg (fun q => h q.2)]
      simp only [Option.map_some]
      unfold zfv
      split <;> first | rfl | rw [e]
theorem zst_ne {μ : zM} {o k : Nat} {v : Int} : ∀ q, q ≠ o → zst μ o k v q = μ q := by
  intro q hq
  funext j
  unfold zst
  rw [if_neg (fun h => hq h.1)]
theorem zce_st {G : zG} {μ : zM} {o n k : Nat} {v : Int} (h : zsh o = (1, n)) : zce G (zst μ o k v) o = .inl (zgI G, n, .inl (upd (fun k => Int32.ofInt (μ o k)) k (Int32.ofInt v))) := by
  rw [zce_int h]
  congr 4
  funext j
  unfold zst upd
  by_cases hj : j = k
  · rw [if_pos ⟨rfl, hj⟩, if_pos hj]
  · rw [if_neg (fun q => hj q.2), if_neg hj]
theorem zce_stb {G : zG} {μ : zM} {o n k : Nat} {v : Int} (h : zsh o = (2, n)) : zce G (zst μ o k v) o = .inl (zgZ G, n, .inl (upd (fun k => Int32.ofInt (μ o k)) k (Int32.ofInt v))) := by
  rw [zce_bool h]
  congr 4
  funext j
  unfold zst upd
  by_cases hj : j = k
  · rw [if_pos ⟨rfl, hj⟩, if_pos hj]
  · rw [if_neg (fun q => hj q.2), if_neg hj]
/-! the words -/
def zBIG : List Cond := lw_tbl.filter goodWord
theorem zbig {w : Cond} (i : Nat) (h : lw_tbl[i]? = some w) (hg : goodWord w = true) : w ∈ zBIG := List.mem_filter.mpr ⟨List.mem_of_getElem? h, hg⟩
theorem zbig_in {w : Cond} (h : w ∈ zBIG) : w ∈ lw_tbl := (List.mem_filter.mp h).1
theorem zbig_g {w : Cond} (h : w ∈ zBIG) : w ∈ zBIG ∧ ((w.onTables && w.keeps) = true ∨ ∃ ty, w = .arrayClass ty) := ⟨h, good_of_word (List.mem_filter.mp h).2⟩
theorem zbig_sub {l : List Cond} (h : (l.all fun w => decide (w ∈ lw_tbl) && goodWord w) = true) : ∀ w ∈ l, w ∈ zBIG := fun w hw => by
  have h1 := List.all_eq_true.mp h w hw
  simp only [Bool.and_eq_true, decide_eq_true_eq] at h1
  exact List.mem_filter.mpr h1
theorem zin0 : ∀ w ∈ wsX00, w ∈ zBIG := zbig_sub (by decide +kernel)
theorem zin1 : ∀ w ∈ wsX10, w ∈ zBIG := zbig_sub (by decide +kernel)
theorem zin2 : ∀ w ∈ wsX20, w ∈ zBIG := zbig_sub (by decide +kernel)
theorem zin3 : ∀ w ∈ wsX30, w ∈ zBIG := zbig_sub (by decide +kernel)
theorem zin4 : ∀ w ∈ wsX40, w ∈ zBIG := zbig_sub (by decide +kernel)
theorem zin5 : ∀ w ∈ wsX50, w ∈ zBIG := zbig_sub (by decide +kernel)
theorem zin6 : ∀ w ∈ wsX60, w ∈ zBIG := zbig_sub (by decide +kernel)
