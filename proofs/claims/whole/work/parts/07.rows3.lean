section ZR3
variable {X : zX} {G : zG} {cc : ByteArray} {own : String} {nL d pc : Nat} {ret : Option FieldType} {lv : List (Option zV)} {st : List zV} {μ : zM}
/-! fields and arrays -/
theorem zcl_in {ci : Nat} {q : vw_C} (h : zcl[ci]? = some q) : ∀ w ∈ u_ws q.1 q.2.1 q.2.2, w ∈ zBIG := by
  match ci, h with
  | 0, h => cases h; exact zin0
  | 1, h => cases h; exact zin1
  | 2, h => cases h; exact zin2
  | 3, h => cases h; exact zin3
  | 4, h => cases h; exact zin4
  | 5, h => cases h; exact zin5
  | 6, h => cases h; exact zin6
  | n + 7, h => simp [zcl] at h
def zcT (ci k : Nat) : String × String × String × Bool := match zcl[ci]? with
  | some q => q.2.1 k
  | none => ("", "", "", false)
def zcC (ci : Nat) : String := match zcl[ci]? with
  | some q => q.1
  | none => ""
theorem zcl_ok {ci : Nat} {q : vw_C} (h : zcl[ci]? = some q) : (∃ ty0 : Nat → FieldType, ∀ k, k < q.2.2 → parseFieldDescriptor (q.2.1 k).2.2.1 = some (ty0 k)) ∧ (∀ a, a < q.2.2 → ∀ b, b < q.2.2 → a ≠ b → (q.2.1 a).2.1 ≠ (q.2.1 b).2.1) ∧ q.2.2 = (zFK ci).length ∧ (∀ k, k < q.2.2 → (q.2.1 k).1 = q.1) := by
  match ci, h with
  | 0, h => cases h; exact ⟨⟨_, tyX0_ok⟩, nmX0, rfl, by decide +kernel⟩
  | 1, h => cases h; exact ⟨⟨_, tyX1_ok⟩, nmX1, rfl, by decide +kernel⟩
  | 2, h => cases h; exact ⟨⟨_, tyX2_ok⟩, nmX2, rfl, by decide +kernel⟩
  | 3, h => cases h; exact ⟨⟨_, tyX3_ok⟩, nmX3, rfl, by decide +kernel⟩
  | 4, h => cases h; exact ⟨⟨_, tyX4_ok⟩, nmX4, rfl, by decide +kernel⟩
  | 5, h => cases h; exact ⟨⟨_, tyX5_ok⟩, nmX5, rfl, by decide +kernel⟩
  | 6, h => cases h; exact ⟨⟨_, tyX6_ok⟩, nmX6, rfl, by decide +kernel⟩
  | n + 7, h => simp [zcl] at h
/-- the word that links a field -/
abbrev zfl (own : String) (i ci k : Nat) : Cond := .fieldLink own i (zcC ci) (zcT ci k).2.1 (zcT ci k).2.2.1
theorem zcl_lt {ci : Nat} (h : ci < 7) : ∃ q, zcl[ci]? = some q := ⟨_, List.getElem?_eq_getElem h⟩
theorem zfk_lt {ci k : Nat} {t : Nat × Nat} (h : (zFK ci)[k]? = some t) : ci < 7 := by
  rcases Nat.lt_or_ge ci 7 with q | q
  · exact q
  · obtain ⟨n, rfl⟩ : ∃ n, ci = n + 7 := ⟨ci - 7, by omega⟩
    simp [zFK] at h
theorem zr_get {o i ci k : Nat} {t : Nat × Nat} (hX : zOk X G cc own nL ret d) (hd : decode cc pc = .ok (.getfield i, 3)) (hs : zsh o = (0, ci)) (ht : (zFK ci)[k]? = some t) (hw : zfl own i ci k ∈ zBIG) {v : zV} (hv : zcv G v = zfv G μ o k t) (hr : zrM μ → zrV v) (kk : zW X G nL (pc + 3) lv (v :: st) μ) : zW X G nL pc lv (zR o :: st) μ := fun H locs ls hM hst hlv hl hP hD hS => by
  obtain ⟨⟨C, T, N⟩, hc⟩ := zcl_lt (zfk_lt ht)
  obtain ⟨-, -, hN, hC⟩ := zcl_ok hc
  have hk : k < N := by rw [show N = (zFK ci).length from hN]; exact (List.getElem?_eq_some_iff.mp ht).1
  have e1 : zcT ci k = T k := by unfold zcT; rw [hc]
  have e2 : zcC ci = C := by unfold zcC; rw [hc]
  have hw2 := hX.2.2.2.2.1 _ hw
  unfold zfl at hw2
  rw [e1, e2] at hw2
  refine va_get hX.1 hX.2.1 hX.2.2.2.2.1 (zcl_in hc) hX.2.2.2.1 hX.2.2.2.2.2.2.2.1 hP o (by rw [zws_get G μ (zsh_lt hs (by omega)), zce_obj hs]) hc k hk hw2 (fun x hx => by have e0 : (T k).1 = C := hC k hk; rw [← e0]; exact hx) (zfs_get ht) hd ?_
  rw [← hv]
  exact kk H locs ls hM (zrS_cons (hr hM) (zrS_tl hst)) hlv hl hP hD hS
/-- by a link between nest mates -/
theorem zr_getN {o i ci k : Nat} {t : Nat × Nat} (hX : zOk X G cc own nL ret d) (hd : decode cc pc = .ok (.getfield i, 3)) (hs : zsh o = (0, ci)) (ht : (zFK ci)[k]? = some t) (hw : (own, i, zcC ci, (zcT ci k).2.1, (zcT ci k).2.2.1, "RoofLent") ∈ zNF) {v : zV} (hv : zcv G v = zfv G μ o k t) (hr : zrM μ → zrV v) (kk : zW X G nL (pc + 3) lv (v :: st) μ) : zW X G nL pc lv (zR o :: st) μ := fun H locs ls hM hst hlv hl hP hD hS => by
  obtain ⟨⟨C, T, N⟩, hc⟩ := zcl_lt (zfk_lt ht)
  obtain ⟨-, -, hN, hC⟩ := zcl_ok hc
  have hk : k < N := by rw [show N = (zFK ci).length from hN]; exact (List.getElem?_eq_some_iff.mp ht).1
  have e1 : zcT ci k = T k := by unfold zcT; rw [hc]
  have e2 : zcC ci = C := by unfold zcC; rw [hc]
  have hw2 := hX.2.2.2.2.2.2.2.2.1.2.1 _ hw
  dsimp only at hw2
  rw [e1, e2] at hw2
  refine va_getN hX.1 hX.2.1 hX.2.2.2.2.1 (zcl_in hc) hX.2.2.2.1 hX.2.2.2.2.2.2.2.1 hP o (by rw [zws_get G μ (zsh_lt hs (by omega)), zce_obj hs]) hc k hk (va_Nw.use rfl hw2) (fun x hx => by have e0 : (T k).1 = C := hC k hk; rw [← e0]; exact hx) (zfs_get ht) hd ?_
  rw [← hv]
  exact kk H locs ls hM (zrS_cons (hr hM) (zrS_tl hst)) hlv hl hP hD hS
theorem zr_getiN {o i ci k f : Nat} (hX : zOk X G cc own nL ret d) (hd : decode cc pc = .ok (.getfield i, 3)) (hs : zsh o = (0, ci)) (ht : (zFK ci)[k]? = some (0, f)) (hw : (own, i, zcC ci, (zcT ci k).2.1, (zcT ci k).2.2.1, "RoofLent") ∈ zNF) (kk : zW X G nL (pc + 3) lv (zI (μ o k) :: st) μ) : zW X G nL pc lv (zR o :: st) μ :=
  zr_getN (v := zI (μ o k)) hX hd hs ht hw rfl (fun hM => zrM_i hM (zlg_of hs ht)) kk
theorem zr_getrN {o i ci k f q : Nat} (hX : zOk X G cc own nL ret d) (hd : decode cc pc = .ok (.getfield i, 3)) (hs : zsh o = (0, ci)) (ht : (zFK ci)[k]? = some (2, f)) (hw : (own, i, zcC ci, (zcT ci k).2.1, (zcT ci k).2.2.1, "RoofLent") ∈ zNF) (hq : o + f = q) (kk : zW X G nL (pc + 3) lv (zR q :: st) μ) : zW X G nL pc lv (zR o :: st) μ := by
  subst hq
  exact zr_getN (v := zR (o + f)) hX hd hs ht hw rfl (fun _ => trivial) kk
theorem zr_geti {o i ci k f : Nat} (hX : zOk X G cc own nL ret d) (hd : decode cc pc = .ok (.getfield i, 3)) (hs : zsh o = (0, ci)) (ht : (zFK ci)[k]? = some (0, f)) (hw : zfl own i ci k ∈ zBIG) (kk : zW X G nL (pc + 3) lv (zI (μ o k) :: st) μ) : zW X G nL pc lv (zR o :: st) μ :=
  zr_get (v := zI (μ o k)) hX hd hs ht hw rfl (fun hM => zrM_i hM (zlg_of hs ht)) kk
theorem zr_getj {o i ci k f : Nat} (hX : zOk X G cc own nL ret d) (hd : decode cc pc = .ok (.getfield i, 3)) (hs : zsh o = (0, ci)) (ht : (zFK ci)[k]? = some (1, f)) (hw : zfl own i ci k ∈ zBIG) (kk : zW X G nL (pc + 3) lv (zJ (μ o k) :: st) μ) : zW X G nL pc lv (zR o :: st) μ :=
  zr_get (v := zJ (μ o k)) hX hd hs ht hw rfl (fun hM => (hM o k).1) kk
theorem zr_getr {o i ci k f q : Nat} (hX : zOk X G cc own nL ret d) (hd : decode cc pc = .ok (.getfield i, 3)) (hs : zsh o = (0, ci)) (ht : (zFK ci)[k]? = some (2, f)) (hw : zfl own i ci k ∈ zBIG) (hq : o + f = q) (kk : zW X G nL (pc + 3) lv (zR q :: st) μ) : zW X G nL pc lv (zR o :: st) μ := by
  subst hq
  exact zr_get (v := zR (o + f)) hX hd hs ht hw rfl (fun _ => trivial) kk
theorem zr_put {o i ci k : Nat} {t : Nat × Nat} {z : Int} {v : zV} {ty : FieldType} (hX : zOk X G cc own nL ret d) (hd : decode cc pc = .ok (.putfield i, 3)) (hs : zsh o = (0, ci)) (ht : (zFK ci)[k]? = some t) (hw : zfl own i ci k ∈ zBIG) (hfin : (zcT ci k).2.2.2 = false) (hty : parseFieldDescriptor (zcT ci k).2.2.1 = some ty) (hn : narrow ty (zcv G v) = zcv G v) (hfit : fits ty (zcv G v) = true) (hv : zfv G (zst μ o k z) o k t = zcv G v) (hr : zrV v → zrJ z ∧ (zlg o k = false → zrI z)) (kk : zW X G nL (pc + 3) lv st (zst μ o k z)) : zW X G nL pc lv (v :: zR o :: st) μ := fun H locs ls hM hst hlv hl hP hD hS => by
  obtain ⟨⟨C, T, N⟩, hc⟩ := zcl_lt (zfk_lt ht)
  obtain ⟨⟨ty0, hty0⟩, hnm, hN, hC⟩ := zcl_ok hc
  have hk : k < N := by rw [show N = (zFK ci).length from hN]; exact (List.getElem?_eq_some_iff.mp ht).1
  have e1 : zcT ci k = T k := by unfold zcT; rw [hc]
  have e2 : zcC ci = C := by unfold zcC; rw [hc]
  have hw2 := hX.2.2.2.2.1 _ hw
  unfold zfl at hw2
  rw [e1, e2] at hw2
  rw [e1] at hfin hty
  have ho := zsh_lt hs (show 0 < 9 by omega)
  have hrz := hr (zrS_hd hst)
  refine va_put hX.1 hX.2.1 hX.2.2.2.2.1 (zcl_in hc) ty0 hty0 hnm hX.2.2.2.1 hX.2.2.2.2.2.2.2.1 hP hD hS o (by rw [zws_get G μ ho, zce_obj hs]) hc k hk hw2 (fun x hx => by have e0 : (T k).1 = C := hC k hk; rw [← e0]; exact hx) hfin hty hn hfit (by simpa using (List.getElem?_eq_some_iff.mp ht).1) hd (fun H1 locs1 hP1 hD1 hS1 => ?_)
  have e3 : (zws G μ).set o (zgR G o, .inr (ci, ((zFK ci).mapIdx (fun k t => zfv G μ o k t)).set k (zcv G v))) = zws G (zst μ o k z) := zws_set ho (by rw [zce_obj hs, zfs_set ht hv]) zst_ne
  rw [e3] at hP1 hD1
  exact kk H1 locs1 ls (zrM_st hM hrz.1 hrz.2) (zrS_tl (zrS_tl hst)) hlv hl hP1 hD1 hS1
theorem zr_puti {o i ci k f : Nat} {z : Int} (hX : zOk X G cc own nL ret d) (hd : decode cc pc = .ok (.putfield i, 3)) (hs : zsh o = (0, ci)) (ht : (zFK ci)[k]? = some (0, f)) (hw : zfl own i ci k ∈ zBIG) (hfin : (zcT ci k).2.2.2 = false) (hty : parseFieldDescriptor (zcT ci k).2.2.1 = some .int) (kk : zW X G nL (pc + 3) lv st (zst μ o k z)) : zW X G nL pc lv (zI z :: zR o :: st) μ :=
  zr_put hX hd hs ht hw hfin hty rfl rfl (by show Value.int (Int32.ofInt (zst μ o k z o k)) = _; unfold zst; rw [if_pos ⟨rfl, rfl⟩]; rfl) (fun h => ⟨zrI_J h, fun _ => h⟩) kk
theorem zr_putj {o i ci k f : Nat} {z : Int} (hX : zOk X G cc own nL ret d) (hd : decode cc pc = .ok (.putfield i, 3)) (hs : zsh o = (0, ci)) (ht : (zFK ci)[k]? = some (1, f)) (hw : zfl own i ci k ∈ zBIG) (hfin : (zcT ci k).2.2.2 = false) (hty : parseFieldDescriptor (zcT ci k).2.2.1 = some .long) (kk : zW X G nL (pc + 3) lv st (zst μ o k z)) : zW X G nL pc lv (zJ z :: zR o :: st) μ :=
  zr_put hX hd hs ht hw hfin hty rfl rfl (by show Value.long (Int64.ofInt (zst μ o k z o k)) = _; unfold zst; rw [if_pos ⟨rfl, rfl⟩]; rfl) (fun h => ⟨h, fun q => by rw [zlg_of hs ht] at q; cases q⟩) kk
section ZAR
variable {τ : Type} {F : τ → Prop} {B : Option τ} {i N x : Int} {o n : Nat}
theorem z_in (hi : zrI i) (h1 : 0 ≤ i) (h2 : i < (n : Int)) : vp_in (Int32.ofInt i) n := by
  unfold vp_in
  rw [z_nat hi, show (0 : Int32) = Int32.ofInt 0 from rfl, z_lt hi z_zero]
  omega
theorem zr_iald (hX : zOk X G cc own nL ret d) (hd : decode cc pc = .ok (.iaload, 1)) (hs : zsh o = (1, n)) (hN : (n : Int) = N) (h : zP F (if 0 ≤ i ∧ i < N then B else none)) (k : zP F B → zW X G nL (pc + 1) lv (zI (μ o i.toNat) :: st) μ) : zW X G nL pc lv (zI i :: zR o :: st) μ := zP_if h fun hc h H locs ls hM hst hlv hl hP hD hS => by
  have hi : zrI i := zrS_hd hst
  refine va_iald hX.1 hX.2.1 hX.2.2.2.2.2.2.2.1 hP o 0 (n := n) (f := fun k => Int32.ofInt (μ o k)) (by rw [zws_get G μ (zsh_lt hs (by omega)), zce_int hs]) rfl (z_in hi hc.1 (by omega)) hd ?_
  rw [z_nat hi]
  exact k h H locs ls hM (zrS_cons (zrM_i hM (zlg_arr hs (by omega) _)) (zrS_tl (zrS_tl hst))) hlv hl hP hD hS
theorem zr_bald (hX : zOk X G cc own nL ret d) (hd : decode cc pc = .ok (.baload, 1)) (hs : zsh o = (2, n)) (hN : (n : Int) = N) (h : zP F (if 0 ≤ i ∧ i < N then B else none)) (k : zP F B → zW X G nL (pc + 1) lv (zI (μ o i.toNat) :: st) μ) : zW X G nL pc lv (zI i :: zR o :: st) μ := zP_if h fun hc h H locs ls hM hst hlv hl hP hD hS => by
  have hi : zrI i := zrS_hd hst
  refine va_zald hX.1 hX.2.1 hX.2.2.2.2.2.2.2.1 hP o 1 (n := n) (f := fun k => Int32.ofInt (μ o k)) (by rw [zws_get G μ (zsh_lt hs (by omega)), zce_bool hs]) rfl (z_in hi hc.1 (by omega)) hd ?_
  rw [z_nat hi]
  exact k h H locs ls hM (zrS_cons (zrM_i hM (zlg_arr hs (by omega) _)) (zrS_tl (zrS_tl hst))) hlv hl hP hD hS
theorem zr_aald (hX : zOk X G cc own nL ret d) (hd : decode cc pc = .ok (.aaload, 1)) (hs : zsh o = (3, n)) (hN : (n : Int) = N) (h : zP F (if 0 ≤ i ∧ i < N then B else none)) (k : zP F B → zW X G nL (pc + 1) lv (zR (27 + 5 * i.toNat) :: st) μ) : zW X G nL pc lv (zI i :: zR o :: st) μ := zP_if h fun hc h H locs ls hM hst hlv hl hP hD hS => by
  have hi : zrI i := zrS_hd hst
  refine va_aldq hX.1 hX.2.1 hX.2.2.2.2.2.2.2.1 hP o 2 (n := n) (f := fun k => some (zgR G (27 + 5 * k))) (by rw [zws_get G μ (zsh_lt hs (by omega)), zce_ref hs]) rfl (z_in hi hc.1 (by omega)) hd ?_
  rw [z_nat hi]
  exact k h H locs ls hM (zrS_cons trivial (zrS_tl (zrS_tl hst))) hlv hl hP hD hS
theorem zr_iast (hX : zOk X G cc own nL ret d) (hd : decode cc pc = .ok (.iastore, 1)) (hs : zsh o = (1, n)) (hN : (n : Int) = N) (h : zP F (if 0 ≤ i ∧ i < N then B else none)) (k : zP F B → zW X G nL (pc + 1) lv st (zst μ o i.toNat x)) : zW X G nL pc lv (zI x :: zI i :: zR o :: st) μ := zP_if h fun hc h H locs ls hM hst hlv hl hP hD hS => by
  have hi : zrI i := zrS_hd (zrS_tl hst)
  have hx : zrI x := zrS_hd hst
  refine va_iast hX.1 hX.2.1 hX.2.2.2.2.2.2.2.1 hP hD hS o 0 (n := n) (f := fun k => Int32.ofInt (μ o k)) (by rw [zws_get G μ (zsh_lt hs (by omega)), zce_int hs]) rfl (z_in hi hc.1 (by omega)) hd (fun H1 locs1 hP1 hD1 hS1 => ?_)
  rw [z_nat hi, zws_set (ν := zst μ o i.toNat x) (zsh_lt hs (by omega)) (zce_st hs) zst_ne] at hP1 hD1
  exact k h H1 locs1 ls (zrM_st hM (zrI_J hx) (fun _ => hx)) (zrS_tl (zrS_tl (zrS_tl hst))) hlv hl hP1 hD1 hS1
theorem zr_bast (hX : zOk X G cc own nL ret d) (hd : decode cc pc = .ok (.bastore, 1)) (hs : zsh o = (2, n)) (hN : (n : Int) = N) (h : zP F (if (0 ≤ i ∧ i < N) ∧ (x = 0 ∨ x = 1) then B else none)) (k : zP F B → zW X G nL (pc + 1) lv st (zst μ o i.toNat x)) : zW X G nL pc lv (zI x :: zI i :: zR o :: st) μ := zP_if h fun hc h H locs ls hM hst hlv hl hP hD hS => by
  have hi : zrI i := zrS_hd (zrS_tl hst)
  have hx : zrI x := zrS_hd hst
  have e : vp_nar .boolean (Int32.ofInt x) = Int32.ofInt x := by rcases hc.2 with rfl | rfl <;> rfl
  refine va_zast hX.1 hX.2.1 hX.2.2.2.2.2.2.2.1 hP hD hS o 1 (n := n) (f := fun k => Int32.ofInt (μ o k)) (by rw [zws_get G μ (zsh_lt hs (by omega)), zce_bool hs]) rfl (z_in hi hc.1.1 (by omega)) hd (fun H1 locs1 hP1 hD1 hS1 => ?_)
  rw [e, z_nat hi, zws_set (ν := zst μ o i.toNat x) (zsh_lt hs (by omega)) (zce_stb hs) zst_ne] at hP1 hD1
  exact k h H1 locs1 ls (zrM_st hM (zrI_J hx) (fun _ => hx)) (zrS_tl (zrS_tl (zrS_tl hst))) hlv hl hP1 hD1 hS1
theorem zr_ialdc (hX : zOk X G cc own nL ret d) (hd : decode cc pc = .ok (.iaload, 1)) (hs : zsh o = (1, n)) (hN : (n : Int) = N) (hc : (decide (0 ≤ i) && decide (i < N)) = true) (k : zW X G nL (pc + 1) lv (zI (μ o i.toNat) :: st) μ) : zW X G nL pc lv (zI i :: zR o :: st) μ := zr_iald (F := fun _ : Unit => True) (B := some ()) hX hd hs hN (by simp only [Bool.and_eq_true, decide_eq_true_eq] at hc; rw [if_pos hc]; trivial) (fun _ => k)
theorem zr_iastc (hX : zOk X G cc own nL ret d) (hd : decode cc pc = .ok (.iastore, 1)) (hs : zsh o = (1, n)) (hN : (n : Int) = N) (hc : (decide (0 ≤ i) && decide (i < N)) = true) (k : zW X G nL (pc + 1) lv st (zst μ o i.toNat x)) : zW X G nL pc lv (zI x :: zI i :: zR o :: st) μ := zr_iast (F := fun _ : Unit => True) (B := some ()) hX hd hs hN (by simp only [Bool.and_eq_true, decide_eq_true_eq] at hc; rw [if_pos hc]; trivial) (fun _ => k)
theorem zr_bastc (hX : zOk X G cc own nL ret d) (hd : decode cc pc = .ok (.bastore, 1)) (hs : zsh o = (2, n)) (hN : (n : Int) = N) (hc : (decide (0 ≤ i) && decide (i < N)) = true) (hx : x = 0 ∨ x = 1) (k : zW X G nL (pc + 1) lv st (zst μ o i.toNat x)) : zW X G nL pc lv (zI x :: zI i :: zR o :: st) μ := zr_bast (F := fun _ : Unit => True) (B := some ()) hX hd hs hN (by simp only [Bool.and_eq_true, decide_eq_true_eq] at hc; rw [if_pos ⟨hc, hx⟩]; trivial) (fun _ => k)
theorem zr_alen (hX : zOk X G cc own nL ret d) (hd : decode cc pc = .ok (.arraylength, 1)) (hs : zsh o = (1, n)) (hN : (n : Int) = N) (hr : zrI N) (k : zW X G nL (pc + 1) lv (zI N :: st) μ) : zW X G nL pc lv (zR o :: st) μ := fun H locs ls hM hst hlv hl hP hD hS =>
  va_alen hX.1 hX.2.1 hX.2.2.2.2.2.2.2.1 hP o 0 (by rw [zws_get G μ (zsh_lt hs (by omega)), zce_int hs]) rfl (by rw [z_ofNat, hN]) hd (k H locs ls hM (zrS_cons hr (zrS_tl hst)) hlv hl hP hD hS)
theorem zr_alenr (hX : zOk X G cc own nL ret d) (hd : decode cc pc = .ok (.arraylength, 1)) (hs : zsh o = (3, n)) (hN : (n : Int) = N) (hr : zrI N) (k : zW X G nL (pc + 1) lv (zI N :: st) μ) : zW X G nL pc lv (zR o :: st) μ := fun H locs ls hM hst hlv hl hP hD hS =>
  va_alen hX.1 hX.2.1 hX.2.2.2.2.2.2.2.1 hP o 2 (by rw [zws_get G μ (zsh_lt hs (by omega)), zce_ref hs]) rfl (by rw [z_ofNat, hN]) hd (k H locs ls hM (zrS_cons hr (zrS_tl hst)) hlv hl hP hD hS)
/-! rows of constants -/
theorem zr_gets {j ix : Nat} (hX : zOk X G cc own nL ret d) (hd : decode cc pc = .ok (.getstatic ix, 3)) (hj : j < 4) (hw : Cond.fieldLink own ix "RoofLent" (zSN j) "[I" ∈ zBIG) (k : zW X G nL (pc + 3) lv (zR (60 + j) :: st) μ) : zW X G nL pc lv st μ := fun H locs ls hM hst hlv hl hP hD hS =>
  va_gets hX.1 hX.2.1 (hX.2.2.2.2.2.2.2.2.1.1 j hj).1 hS hX.2.2.2.1 (hX.2.2.2.2.1 _ hw) (fun _ h => h) hd (k H locs ls hM (zrS_cons trivial hst) hlv hl hP hD hS)
theorem zr_getsN {j ix : Nat} (hX : zOk X G cc own nL ret d) (hd : decode cc pc = .ok (.getstatic ix, 3)) (hj : j < 4) (hw : (own, ix, "RoofLent", zSN j, "[I", "RoofLent") ∈ zNF) (k : zW X G nL (pc + 3) lv (zR (60 + j) :: st) μ) : zW X G nL pc lv st μ := fun H locs ls hM hst hlv hl hP hD hS =>
  va_getsN hX.1 hX.2.1 (hX.2.2.2.2.2.2.2.2.1.1 j hj).1 hS hX.2.2.2.1 (va_Nw.use rfl (hX.2.2.2.2.2.2.2.2.1.2.1 _ hw)) (fun _ h => h) hd (k H locs ls hM (zrS_cons trivial hst) hlv hl hP hD hS)
theorem zSV_r (j k : Nat) : zrI ((zSV j).getD k 0) := by
  unfold zSV zrI
  split <;> (rcases k with _ | _ | _ | _ | _ | _ | k <;> simp)
theorem zr_sald {j : Nat} (hX : zOk X G cc own nL ret d) (hd : decode cc pc = .ok (.iaload, 1)) (hj : j < 4) (hN : ((zSV j).length : Int) = N) (h : zP F (if 0 ≤ i ∧ i < N then B else none)) (k : zP F B → zW X G nL (pc + 1) lv (zI ((zSV j).getD i.toNat 0) :: st) μ) : zW X G nL pc lv (zI i :: zR (60 + j) :: st) μ := zP_if h fun hc h H locs ls hM hst hlv hl hP hD hS =>
  va_ti hX.1 hX.2.1 (hX.2.2.2.2.2.2.2.2.1.1 j hj).2 hS (z_in (zrS_hd hst) hc.1 (by omega)) (by rw [z_nat (zrS_hd hst)]; rfl) hd (k h H locs ls hM (zrS_cons (zSV_r _ _) (zrS_tl (zrS_tl hst))) hlv hl hP hD hS)
theorem zr_slen {j : Nat} (hX : zOk X G cc own nL ret d) (hd : decode cc pc = .ok (.arraylength, 1)) (hj : j < 4) (hN : ((zSV j).length : Int) = N) (hr : zrI N) (k : zW X G nL (pc + 1) lv (zI N :: st) μ) : zW X G nL pc lv (zR (60 + j) :: st) μ := fun H locs ls hM hst hlv hl hP hD hS =>
  va_tlen hX.1 hX.2.1 (hX.2.2.2.2.2.2.2.2.1.1 j hj).2 hS (by rw [z_ofNat, hN]) hd (k H locs ls hM (zrS_cons hr (zrS_tl hst)) hlv hl hP hD hS)
end ZAR
/-! the JDK's own: copying, the greater, the lesser -/
theorem zcat_sum (G : zG) : ∀ st : List zV, ((st.map (zcv G)).map fun v => v.category).sum ≤ 2 * st.length
  | [] => Nat.le_refl _
  | v :: t => by
    have h := zcat_sum G t
    have h2 : (zcv G v).category ≤ 2 := by rw [zcat]; split <;> omega
    simp only [List.map_cons, List.sum_cons, List.length_cons]
    omega
theorem zce_cp {G : zG} {μ : zM} {a b i j k n : Nat} (h : zsh b = (1, n)) : zce G (zcp μ a i b j k) b = .inl (zgI G, n, .inl (va_cpy (fun q => Int32.ofInt (μ a q)) (fun q => Int32.ofInt (μ b q)) i j k)) := by
  rw [zce_int h]
  congr 4
  funext q
  unfold zcp va_cpy
  by_cases hq : j ≤ q ∧ q < j + k
  · rw [if_pos ⟨rfl, hq.1, hq.2⟩, if_pos hq]
  · rw [if_neg (fun z => hq ⟨z.2.1, z.2.2⟩), if_neg hq]
theorem zcp_ne {μ : zM} {a i b j n : Nat} : ∀ q, q ≠ b → zcp μ a i b j n q = μ q := by
  intro q hq
  funext k
  unfold zcp
  rw [if_neg (fun h => hq h.1)]
theorem zr_copy {τ : Type} {F : τ → Prop} {B : Option τ} {a b na nb ix : Nat} {i j n Na Nb : Int} (hX : zOk X G cc own nL ret d) (hd : decode cc pc = .ok (.invokestatic ix, 3)) (hw : [Cond.methodLink own ix arraycopyName, Cond.native arraycopyName, Cond.static arraycopyName, Cond.initialized "java/lang/System"].all (fun w => decide (w ∈ lw_tbl) && goodWord w) = true) (ha : zsh a = (1, na)) (hb : zsh b = (1, nb)) (hna : (na : Int) = Na) (hnb : (nb : Int) = Nb) (hdd : 1 ≤ d) (hl0 : st.length ≤ 4)
    (h : zP F (if 0 ≤ i ∧ 0 ≤ j ∧ 0 ≤ n ∧ i + n ≤ Na ∧ j + n ≤ Nb then B else none)) (k : zP F B → zW X G nL (pc + 3) lv st (zcp μ a i.toNat b j.toNat n.toNat)) : zW X G nL pc lv (zI n :: zI j :: zR b :: zI i :: zR a :: st) μ := zP_if h fun hc h H locs ls hM hst hlv hl hP hD hS => by
  have hn : zrI n := zrS_hd hst
  have hj : zrI j := zrS_hd (zrS_tl hst)
  have hi : zrI i := zrS_hd (zrS_tl (zrS_tl (zrS_tl hst)))
  obtain ⟨c1, c2, c3, c4, c5⟩ := hc
  have nn : ∀ {z : Int}, zrI z → 0 ≤ z → ¬ Int32.ofInt z < 0 := fun hz h0 q => by
    have := (z_lt hz z_zero).mp q
    omega
  have hws := zbig_sub hw
  have hroom := hX.2.2.2.2.2.2.2.2.2.1
  refine va_copyi hX.1 hX.2.1 (by rw [hX.2.2.1]; exact hl.1.symm) hX.2.2.2.1 (hX.2.2.2.2.1 _ (hws _ (by simp))) (hX.2.2.2.2.1 _ (hws _ (by simp))) (hX.2.2.2.2.1 _ (hws _ (by simp))) (hX.2.2.2.2.1 _ (hws _ (by simp))) hX.2.2.2.2.2.2.2.1 hP hD hS a b 0 0
    (by rw [zws_get G μ (zsh_lt ha (by omega)), zce_int ha]) (by rw [zws_get G μ (zsh_lt hb (by omega)), zce_int hb]) (ty := .int) rfl rfl rfl (nn hi c1) (nn hj c2) (nn hn c3) (by rw [z_nat hi, z_nat hn]; omega) (by rw [z_nat hj, z_nat hn]; omega) (fun _ _ => rfl) (by have := hroom.1; omega) ?_ hd (fun H1 locs1 hP1 hD1 hS1 => ?_)
  · have h1 := zcat_sum G st
    have h2 : nativeFrameWords "java/lang/System" "arraycopy" 5 + 11 ≤ 56 := by decide +kernel
    have h3 := hroom.2
    omega
  · rw [z_nat hi, z_nat hj, z_nat hn, zws_set (ν := zcp μ a i.toNat b j.toNat n.toNat) (zsh_lt hb (by omega)) (zce_cp hb) zcp_ne] at hP1 hD1
    exact k h H1 locs1 ls (zrM_cp hM (fun q => zlg_arr ha (by omega) q)) (zrS_tl (zrS_tl (zrS_tl (zrS_tl (zrS_tl hst))))) hlv hl hP1 hD1 hS1
theorem zr_max {ix : Nat} {a b : Int} (hX : zOk X G cc own nL ret d) (hd : decode cc pc = .ok (.invokestatic ix, 3)) (hw : [Cond.methodLink own ix Lib.Math.max.name, Cond.static Lib.Math.max.name, Cond.initialized "java/lang/Math", Cond.code Lib.Math.max.name Lib.Math.max.code 2 (some .int)].all (fun w => decide (w ∈ lw_tbl) && goodWord w) = true) (hdd : 1 ≤ d) (hl0 : st.length ≤ 4) (k : zW X G nL (pc + 3) lv (zI (max a b) :: st) μ) : zW X G nL pc lv (zI b :: zI a :: st) μ := fun H locs ls hM hst hlv hl hP hD hS => by
  have hb : zrI b := zrS_hd hst
  have ha : zrI a := zrS_hd (zrS_tl hst)
  have hws := zbig_sub hw
  have hroom := hX.2.2.2.2.2.2.2.2.2.1
  have h1 := zcat_sum G st
  refine va_mmax hX.1 hX.2.1 (by rw [hX.2.2.1]; exact hl.1.symm) hX.2.2.2.1 (hX.2.2.2.2.1 _ (hws _ (by simp))) (hX.2.2.2.2.1 _ (hws _ (by simp))) (hX.2.2.2.2.1 _ (hws _ (by simp))) (hX.2.2.2.2.1 _ (hws _ (by simp))) (by have := hroom.1; omega) (by have := hroom.2; omega) hX.2.2.2.2.2.2.2.2.2.2.1 hX.2.2.2.2.2.2.2.2.2.2.2 hd ?_
  have e : (if Int32.ofInt a < Int32.ofInt b then Int32.ofInt b else Int32.ofInt a) = Int32.ofInt (max a b) := by
    by_cases hc : a < b
    · rw [if_pos ((z_lt ha hb).mpr hc), show max a b = b by omega]
    · rw [if_neg (fun q => hc ((z_lt ha hb).mp q)), show max a b = a by omega]
  rw [e]
  exact k H locs ls hM (zrS_cons (show zrI (max a b) by unfold zrI at *; omega) (zrS_tl (zrS_tl hst))) hlv hl hP hD hS
theorem zr_min {ix : Nat} {a b : Int} (hX : zOk X G cc own nL ret d) (hd : decode cc pc = .ok (.invokestatic ix, 3)) (hw : [Cond.methodLink own ix Lib.Math.min.name, Cond.static Lib.Math.min.name, Cond.initialized "java/lang/Math", Cond.code Lib.Math.min.name Lib.Math.min.code 2 (some .int)].all (fun w => decide (w ∈ lw_tbl) && goodWord w) = true) (hdd : 1 ≤ d) (hl0 : st.length ≤ 4) (k : zW X G nL (pc + 3) lv (zI (min a b) :: st) μ) : zW X G nL pc lv (zI b :: zI a :: st) μ := fun H locs ls hM hst hlv hl hP hD hS => by
  have hb : zrI b := zrS_hd hst
  have ha : zrI a := zrS_hd (zrS_tl hst)
  have hws := zbig_sub hw
  have hroom := hX.2.2.2.2.2.2.2.2.2.1
  have h1 := zcat_sum G st
  refine va_mmin hX.1 hX.2.1 (by rw [hX.2.2.1]; exact hl.1.symm) hX.2.2.2.1 (hX.2.2.2.2.1 _ (hws _ (by simp))) (hX.2.2.2.2.1 _ (hws _ (by simp))) (hX.2.2.2.2.1 _ (hws _ (by simp))) (hX.2.2.2.2.1 _ (hws _ (by simp))) (by have := hroom.1; omega) (by have := hroom.2; omega) hX.2.2.2.2.2.2.2.2.2.2.1 hX.2.2.2.2.2.2.2.2.2.2.2 hd ?_
  have e : (if Int32.ofInt b < Int32.ofInt a then Int32.ofInt b else Int32.ofInt a) = Int32.ofInt (min a b) := by
    by_cases hc : b < a
    · rw [if_pos ((z_lt hb ha).mpr hc), show min a b = b by omega]
    · rw [if_neg (fun q => hc ((z_lt hb ha).mp q)), show min a b = a by omega]
  rw [e]
  exact k H locs ls hM (zrS_cons (show zrI (min a b) by unfold zrI at *; omega) (zrS_tl (zrS_tl hst))) hlv hl hP hD hS
end ZR3
