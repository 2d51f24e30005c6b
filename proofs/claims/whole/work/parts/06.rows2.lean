section ZR2
variable {X : zX} {G : zG} {cc : ByteArray} {own : String} {nL d pc : Nat} {ret : Option FieldType} {lv : List (Option zV)} {st : List zV} {μ : zM}
/-! arithmetic -/
theorem zr_iadd (hX : zOk X G cc own nL ret d) {a b : Int} (hd : decode cc pc = .ok (.iadd, 1)) (k : zW X G nL (pc + 1) lv (zI (z32 (a + b)) :: st) μ) : zW X G nL pc lv (zI b :: zI a :: st) μ := fun H locs ls hM hst hlv hl hP hD hS => by
  refine lv_iadd hX.1 hX.2.1 hd ?_
  rw [← Int32.ofInt_add, ← z32_of]
  exact k H locs ls hM (zrS_cons (z32_r _) (zrS_tl (zrS_tl hst))) hlv hl hP hD hS
theorem zr_isub (hX : zOk X G cc own nL ret d) {a b : Int} (hd : decode cc pc = .ok (.isub, 1)) (k : zW X G nL (pc + 1) lv (zI (z32 (a - b)) :: st) μ) : zW X G nL pc lv (zI b :: zI a :: st) μ := fun H locs ls hM hst hlv hl hP hD hS => by
  refine lv_isub hX.1 hX.2.1 hd ?_
  rw [← Int32.ofInt_sub, ← z32_of]
  exact k H locs ls hM (zrS_cons (z32_r _) (zrS_tl (zrS_tl hst))) hlv hl hP hD hS
theorem zr_imul (hX : zOk X G cc own nL ret d) {a b : Int} (hd : decode cc pc = .ok (.imul, 1)) (k : zW X G nL (pc + 1) lv (zI (z32 (a * b)) :: st) μ) : zW X G nL pc lv (zI b :: zI a :: st) μ := fun H locs ls hM hst hlv hl hP hD hS => by
  refine lv_imul hX.1 hX.2.1 hd ?_
  rw [← Int32.ofInt_mul, ← z32_of]
  exact k H locs ls hM (zrS_cons (z32_r _) (zrS_tl (zrS_tl hst))) hlv hl hP hD hS
theorem zr_iand (hX : zOk X G cc own nL ret d) {a b : Int} (hd : decode cc pc = .ok (.iand, 1)) (k : zW X G nL (pc + 1) lv (zI (zand a b) :: st) μ) : zW X G nL pc lv (zI b :: zI a :: st) μ := fun H locs ls hM hst hlv hl hP hD hS => by
  refine lv_iand hX.1 hX.2.1 hd ?_
  rw [← Int32.ofInt_toInt (Int32.ofInt a &&& Int32.ofInt b)]
  exact k H locs ls hM (zrS_cons (zr_toInt _) (zrS_tl (zrS_tl hst))) hlv hl hP hD hS
theorem zr_ior (hX : zOk X G cc own nL ret d) {a b : Int} (hd : decode cc pc = .ok (.ior, 1)) (k : zW X G nL (pc + 1) lv (zI (zor a b) :: st) μ) : zW X G nL pc lv (zI b :: zI a :: st) μ := fun H locs ls hM hst hlv hl hP hD hS => by
  refine lv_ior hX.1 hX.2.1 hd ?_
  rw [← Int32.ofInt_toInt (Int32.ofInt a ||| Int32.ofInt b)]
  exact k H locs ls hM (zrS_cons (zr_toInt _) (zrS_tl (zrS_tl hst))) hlv hl hP hD hS
theorem zr_ixor (hX : zOk X G cc own nL ret d) {a b : Int} (hd : decode cc pc = .ok (.ixor, 1)) (k : zW X G nL (pc + 1) lv (zI (zxor a b) :: st) μ) : zW X G nL pc lv (zI b :: zI a :: st) μ := fun H locs ls hM hst hlv hl hP hD hS => by
  refine lv_ixor hX.1 hX.2.1 hd ?_
  rw [← Int32.ofInt_toInt (Int32.ofInt a ^^^ Int32.ofInt b)]
  exact k H locs ls hM (zrS_cons (zr_toInt _) (zrS_tl (zrS_tl hst))) hlv hl hP hD hS
theorem zr_ishl (hX : zOk X G cc own nL ret d) {a b : Int} (hd : decode cc pc = .ok (.ishl, 1)) (k : zW X G nL (pc + 1) lv (zI (zshl a b) :: st) μ) : zW X G nL pc lv (zI b :: zI a :: st) μ := fun H locs ls hM hst hlv hl hP hD hS => by
  refine lv_ishl hX.1 hX.2.1 hd ?_
  rw [← Int32.ofInt_toInt (Int32.ofInt a <<< (Int32.ofInt b &&& 31))]
  exact k H locs ls hM (zrS_cons (zr_toInt _) (zrS_tl (zrS_tl hst))) hlv hl hP hD hS
theorem zr_ishr (hX : zOk X G cc own nL ret d) {a b : Int} (hd : decode cc pc = .ok (.ishr, 1)) (k : zW X G nL (pc + 1) lv (zI (zshr a b) :: st) μ) : zW X G nL pc lv (zI b :: zI a :: st) μ := fun H locs ls hM hst hlv hl hP hD hS => by
  refine lv_ishr hX.1 hX.2.1 hd ?_
  rw [← Int32.ofInt_toInt (Int32.ofInt a >>> (Int32.ofInt b &&& 31))]
  exact k H locs ls hM (zrS_cons (zr_toInt _) (zrS_tl (zrS_tl hst))) hlv hl hP hD hS
def zushr (a b : Int) : Int := ((Int32.ofInt a).toUInt32 >>> ((Int32.ofInt b).toUInt32 &&& Int32.toUInt32 31)).toInt32.toInt
theorem zr_iushr (hX : zOk X G cc own nL ret d) {a b : Int} (hd : decode cc pc = .ok (.iushr, 1)) (k : zW X G nL (pc + 1) lv (zI (zushr a b) :: st) μ) : zW X G nL pc lv (zI b :: zI a :: st) μ := fun H locs ls hM hst hlv hl hP hD hS =>
  lv_iushr hX.1 hX.2.1 hd (Int32.ofInt_toInt _).symm (k H locs ls hM (zrS_cons (zr_toInt _) (zrS_tl (zrS_tl hst))) hlv hl hP hD hS)
theorem z_ne0 {b : Int} (hb : zrI b) (h : ¬ b = 0) : ¬ Int32.ofInt b = 0 := fun q => h ((z_inj hb (by unfold zrI; omega)).mp q)
theorem zl_ne0 {b : Int} (hb : zrJ b) (h : ¬ b = 0) : ¬ Int64.ofInt b = 0 := fun q => h ((zl_inj hb (by unfold zrJ; omega)).mp q)
theorem zr_idiv {τ : Type} {F : τ → Prop} (hX : zOk X G cc own nL ret d) {a b : Int} (hd : decode cc pc = .ok (.idiv, 1)) {B : Option τ} (h : zP F (if ¬ b = 0 then B else none)) (k : zP F B → zW X G nL (pc + 1) lv (zI (zdiv a b) :: st) μ) : zW X G nL pc lv (zI b :: zI a :: st) μ := zP_if h fun hc h H locs ls hM hst hlv hl hP hD hS => by
  refine lv_idiv hX.1 hX.2.1 hd (z_ne0 (zrS_hd hst) hc) ?_
  rw [← Int32.ofInt_toInt (Int32.ofInt a / Int32.ofInt b)]
  exact k h H locs ls hM (zrS_cons (zr_toInt _) (zrS_tl (zrS_tl hst))) hlv hl hP hD hS
theorem zr_irem {τ : Type} {F : τ → Prop} (hX : zOk X G cc own nL ret d) {a b : Int} (hd : decode cc pc = .ok (.irem, 1)) {B : Option τ} (h : zP F (if ¬ b = 0 then B else none)) (k : zP F B → zW X G nL (pc + 1) lv (zI (zrem a b) :: st) μ) : zW X G nL pc lv (zI b :: zI a :: st) μ := zP_if h fun hc h H locs ls hM hst hlv hl hP hD hS => by
  refine lv_irem hX.1 hX.2.1 hd (z_ne0 (zrS_hd hst) hc) ?_
  rw [← Int32.ofInt_toInt (Int32.ofInt a - Int32.ofInt a / Int32.ofInt b * Int32.ofInt b)]
  exact k h H locs ls hM (zrS_cons (zr_toInt _) (zrS_tl (zrS_tl hst))) hlv hl hP hD hS
theorem zr_ldiv {τ : Type} {F : τ → Prop} (hX : zOk X G cc own nL ret d) {a b : Int} (hd : decode cc pc = .ok (.ldiv, 1)) {B : Option τ} (h : zP F (if ¬ b = 0 then B else none)) (k : zP F B → zW X G nL (pc + 1) lv (zJ (zldiv a b) :: st) μ) : zW X G nL pc lv (zJ b :: zJ a :: st) μ := zP_if h fun hc h H locs ls hM hst hlv hl hP hD hS => by
  refine lv_ldiv hX.1 hX.2.1 hd (zl_ne0 (zrS_hd hst) hc) ?_
  rw [← Int64.ofInt_toInt (Int64.ofInt a / Int64.ofInt b)]
  exact k h H locs ls hM (zrS_cons (zr_toLong _) (zrS_tl (zrS_tl hst))) hlv hl hP hD hS
theorem zr_lrem {τ : Type} {F : τ → Prop} (hX : zOk X G cc own nL ret d) {a b : Int} (hd : decode cc pc = .ok (.lrem, 1)) {B : Option τ} (h : zP F (if ¬ b = 0 then B else none)) (k : zP F B → zW X G nL (pc + 1) lv (zJ (zlrem a b) :: st) μ) : zW X G nL pc lv (zJ b :: zJ a :: st) μ := zP_if h fun hc h H locs ls hM hst hlv hl hP hD hS => by
  refine lv_lrem hX.1 hX.2.1 hd (zl_ne0 (zrS_hd hst) hc) ?_
  rw [← Int64.ofInt_toInt (Int64.ofInt a - Int64.ofInt a / Int64.ofInt b * Int64.ofInt b)]
  exact k h H locs ls hM (zrS_cons (zr_toLong _) (zrS_tl (zrS_tl hst))) hlv hl hP hD hS
theorem zr_idivc (hX : zOk X G cc own nL ret d) {a b : Int} (hd : decode cc pc = .ok (.idiv, 1)) (hc : ¬ b = 0) (k : zW X G nL (pc + 1) lv (zI (zdiv a b) :: st) μ) : zW X G nL pc lv (zI b :: zI a :: st) μ := zr_idiv (F := fun _ : Unit => True) (B := some ()) hX hd (by rw [if_pos hc]; trivial) (fun _ => k)
theorem zr_iremc (hX : zOk X G cc own nL ret d) {a b : Int} (hd : decode cc pc = .ok (.irem, 1)) (hc : ¬ b = 0) (k : zW X G nL (pc + 1) lv (zI (zrem a b) :: st) μ) : zW X G nL pc lv (zI b :: zI a :: st) μ := zr_irem (F := fun _ : Unit => True) (B := some ()) hX hd (by rw [if_pos hc]; trivial) (fun _ => k)
theorem zr_ldivc (hX : zOk X G cc own nL ret d) {a b : Int} (hd : decode cc pc = .ok (.ldiv, 1)) (hc : ¬ b = 0) (k : zW X G nL (pc + 1) lv (zJ (zldiv a b) :: st) μ) : zW X G nL pc lv (zJ b :: zJ a :: st) μ := zr_ldiv (F := fun _ : Unit => True) (B := some ()) hX hd (by rw [if_pos hc]; trivial) (fun _ => k)
theorem zr_lremc (hX : zOk X G cc own nL ret d) {a b : Int} (hd : decode cc pc = .ok (.lrem, 1)) (hc : ¬ b = 0) (k : zW X G nL (pc + 1) lv (zJ (zlrem a b) :: st) μ) : zW X G nL pc lv (zJ b :: zJ a :: st) μ := zr_lrem (F := fun _ : Unit => True) (B := some ()) hX hd (by rw [if_pos hc]; trivial) (fun _ => k)
theorem zr_ladd (hX : zOk X G cc own nL ret d) {a b : Int} (hd : decode cc pc = .ok (.ladd, 1)) (k : zW X G nL (pc + 1) lv (zJ (z64 (a + b)) :: st) μ) : zW X G nL pc lv (zJ b :: zJ a :: st) μ := fun H locs ls hM hst hlv hl hP hD hS => by
  refine lv_ladd hX.1 hX.2.1 hd ?_
  rw [← Int64.ofInt_add, ← z64_of]
  exact k H locs ls hM (zrS_cons (z64_r _) (zrS_tl (zrS_tl hst))) hlv hl hP hD hS
theorem zr_lmul (hX : zOk X G cc own nL ret d) {a b : Int} (hd : decode cc pc = .ok (.lmul, 1)) (k : zW X G nL (pc + 1) lv (zJ (z64 (a * b)) :: st) μ) : zW X G nL pc lv (zJ b :: zJ a :: st) μ := fun H locs ls hM hst hlv hl hP hD hS => by
  refine lv_lmul hX.1 hX.2.1 hd ?_
  rw [← Int64.ofInt_mul, ← z64_of]
  exact k H locs ls hM (zrS_cons (z64_r _) (zrS_tl (zrS_tl hst))) hlv hl hP hD hS
theorem zr_lcmp (hX : zOk X G cc own nL ret d) {a b : Int} (hd : decode cc pc = .ok (.lcmp, 1)) (k : zW X G nL (pc + 1) lv (zI (zlcmp a b) :: st) μ) : zW X G nL pc lv (zJ b :: zJ a :: st) μ := fun H locs ls hM hst hlv hl hP hD hS => by
  refine W.lcmp hX.1 hX.2.1 hd ?_
  rw [← zlcmp_c (zrS_hd (zrS_tl hst)) (zrS_hd hst)]
  exact k H locs ls hM (zrS_cons (zlcmp_r _ _) (zrS_tl (zrS_tl hst))) hlv hl hP hD hS
theorem zr_i2l (hX : zOk X G cc own nL ret d) {a : Int} (hd : decode cc pc = .ok (.i2l, 1)) (k : zW X G nL (pc + 1) lv (zJ a :: st) μ) : zW X G nL pc lv (zI a :: st) μ := fun H locs ls hM hst hlv hl hP hD hS =>
  lv_i2l hX.1 hX.2.1 hd (Int32.toInt64_ofInt (zrS_hd hst).1 (by have := (show zrI a from zrS_hd hst).2; show a ≤ 2147483647; omega)) (k H locs ls hM (zrS_cons (zrI_J (zrS_hd hst)) (zrS_tl hst)) hlv hl hP hD hS)
theorem zr_l2i (hX : zOk X G cc own nL ret d) {a : Int} (hd : decode cc pc = .ok (.l2i, 1)) (k : zW X G nL (pc + 1) lv (zI (z32 a) :: st) μ) : zW X G nL pc lv (zJ a :: st) μ := fun H locs ls hM hst hlv hl hP hD hS =>
  lv_l2i hX.1 hX.2.1 hd (by rw [Int64.toInt32_ofInt, z32_of]) (k H locs ls hM (zrS_cons (z32_r _) (zrS_tl hst)) hlv hl hP hD hS)
theorem zr_i2b (hX : zOk X G cc own nL ret d) {a : Int} (hd : decode cc pc = .ok (.i2b, 1)) (k : zW X G nL (pc + 1) lv (zI (zi2b a) :: st) μ) : zW X G nL pc lv (zI a :: st) μ := fun H locs ls hM hst hlv hl hP hD hS =>
  lv_i2b hX.1 hX.2.1 hd (Int32.ofInt_toInt _).symm (k H locs ls hM (zrS_cons (zr_toInt _) (zrS_tl hst)) hlv hl hP hD hS)
/-! stack -/
theorem zr_dup (hX : zOk X G cc own nL ret d) {v : zV} (hd : decode cc pc = .ok (.dup, 1)) (hv : zwide (some v) = false) (k : zW X G nL (pc + 1) lv (v :: v :: st) μ) : zW X G nL pc lv (v :: st) μ := fun H locs ls hM hst hlv hl hP hD hS =>
  lv_dup hX.1 hX.2.1 hd (by rw [zcat, hv]; rfl) (k H locs ls hM (zrS_cons (zrS_hd hst) hst) hlv hl hP hD hS)
theorem zr_dup2 (hX : zOk X G cc own nL ret d) {v u : zV} (hd : decode cc pc = .ok (.dup2, 1)) (hv : zwide (some v) = false) (hu : zwide (some u) = false) (k : zW X G nL (pc + 1) lv (v :: u :: v :: u :: st) μ) : zW X G nL pc lv (v :: u :: st) μ := fun H locs ls hM hst hlv hl hP hD hS =>
  lv_dup2_11 hX.1 hX.2.1 hd (by rw [zcat, hv]; rfl) (by rw [zcat, hu]; rfl) (k H locs ls hM (zrS_cons (zrS_hd hst) (zrS_cons (zrS_hd (zrS_tl hst)) hst)) hlv hl hP hD hS)
theorem zr_pop (hX : zOk X G cc own nL ret d) {v : zV} (hd : decode cc pc = .ok (.pop, 1)) (hv : zwide (some v) = false) (k : zW X G nL (pc + 1) lv st μ) : zW X G nL pc lv (v :: st) μ := fun H locs ls hM hst hlv hl hP hD hS =>
  lv_pop hX.1 hX.2.1 hd (by rw [zcat, hv]; rfl) (k H locs ls hM (zrS_tl hst) hlv hl hP hD hS)
/-! branches -/
theorem zr_goto (hX : zOk X G cc own nL ret d) {off : Int} {tgt : Nat} (hd : decode cc pc = .ok (.goto off, 3)) (ht : (pc : Int) + off = (tgt : Int)) (k : zW X G nL tgt lv st μ) : zW X G nL pc lv st μ := fun H locs ls hM hst hlv hl hP hD hS =>
  lv_goto hX.1 hX.2.1 hd ht (k H locs ls hM hst hlv hl hP hD hS)
section ZBR
variable {τ : Type} {F : τ → Prop} {A B : Option τ} {off : Int} {tgt : Nat} {a b : Int}
theorem zP_t {c : Prop} [Decidable c] {x y : Option τ} (h : zP F (if c then x else y)) (hc : c) : zP F x := by rw [if_pos hc] at h; exact h
theorem zP_f {c : Prop} [Decidable c] {x y : Option τ} (h : zP F (if c then x else y)) (hc : ¬ c) : zP F y := by rw [if_neg hc] at h; exact h
theorem z_zero : zrI 0 := by unfold zrI; omega
theorem zr_ifeq (hX : zOk X G cc own nL ret d) (hd : decode cc pc = .ok (.ifCond .eq off, 3)) (ht : (pc : Int) + off = (tgt : Int)) (h : zP F (if a = 0 then A else B)) (kt : zP F A → zW X G nL tgt lv st μ) (kf : zP F B → zW X G nL (pc + 3) lv st μ) : zW X G nL pc lv (zI a :: st) μ := fun H locs ls hM hst hlv hl hP hD hS =>
  lv_if_eq hX.1 hX.2.1 hd ht (fun c => kt (zP_t h ((z_inj (zrS_hd hst) z_zero).mp c)) H locs ls hM (zrS_tl hst) hlv hl hP hD hS) (fun c => kf (zP_f h (fun q => c ((z_inj (zrS_hd hst) z_zero).mpr q))) H locs ls hM (zrS_tl hst) hlv hl hP hD hS)
theorem zr_ifne (hX : zOk X G cc own nL ret d) (hd : decode cc pc = .ok (.ifCond .ne off, 3)) (ht : (pc : Int) + off = (tgt : Int)) (h : zP F (if a = 0 then B else A)) (kt : zP F A → zW X G nL tgt lv st μ) (kf : zP F B → zW X G nL (pc + 3) lv st μ) : zW X G nL pc lv (zI a :: st) μ := fun H locs ls hM hst hlv hl hP hD hS =>
  lv_if_ne hX.1 hX.2.1 hd ht (fun c => kt (zP_f h (fun q => c ((z_inj (zrS_hd hst) z_zero).mpr q))) H locs ls hM (zrS_tl hst) hlv hl hP hD hS) (fun c => kf (zP_t h ((z_inj (zrS_hd hst) z_zero).mp c)) H locs ls hM (zrS_tl hst) hlv hl hP hD hS)
theorem zr_iflt (hX : zOk X G cc own nL ret d) (hd : decode cc pc = .ok (.ifCond .lt off, 3)) (ht : (pc : Int) + off = (tgt : Int)) (h : zP F (if a < 0 then A else B)) (kt : zP F A → zW X G nL tgt lv st μ) (kf : zP F B → zW X G nL (pc + 3) lv st μ) : zW X G nL pc lv (zI a :: st) μ := fun H locs ls hM hst hlv hl hP hD hS =>
  lv_if_lt hX.1 hX.2.1 hd ht (fun c => kt (zP_t h ((z_lt (zrS_hd hst) z_zero).mp c)) H locs ls hM (zrS_tl hst) hlv hl hP hD hS) (fun c => kf (zP_f h (fun q => c ((z_lt (zrS_hd hst) z_zero).mpr q))) H locs ls hM (zrS_tl hst) hlv hl hP hD hS)
theorem zr_ifge (hX : zOk X G cc own nL ret d) (hd : decode cc pc = .ok (.ifCond .ge off, 3)) (ht : (pc : Int) + off = (tgt : Int)) (h : zP F (if a < 0 then B else A)) (kt : zP F A → zW X G nL tgt lv st μ) (kf : zP F B → zW X G nL (pc + 3) lv st μ) : zW X G nL pc lv (zI a :: st) μ := fun H locs ls hM hst hlv hl hP hD hS =>
  lv_if_ge hX.1 hX.2.1 hd ht (fun c => kt (zP_f h (fun q => by have := (z_le z_zero (zrS_hd hst)).mp c; omega)) H locs ls hM (zrS_tl hst) hlv hl hP hD hS) (fun c => kf (zP_t h (Int.not_le.mp (fun q => c ((z_le z_zero (zrS_hd hst)).mpr q)))) H locs ls hM (zrS_tl hst) hlv hl hP hD hS)
theorem zr_ifgt (hX : zOk X G cc own nL ret d) (hd : decode cc pc = .ok (.ifCond .gt off, 3)) (ht : (pc : Int) + off = (tgt : Int)) (h : zP F (if 0 < a then A else B)) (kt : zP F A → zW X G nL tgt lv st μ) (kf : zP F B → zW X G nL (pc + 3) lv st μ) : zW X G nL pc lv (zI a :: st) μ := fun H locs ls hM hst hlv hl hP hD hS =>
  lv_if_gt hX.1 hX.2.1 hd ht (fun c => kt (zP_t h ((z_lt z_zero (zrS_hd hst)).mp c)) H locs ls hM (zrS_tl hst) hlv hl hP hD hS) (fun c => kf (zP_f h (fun q => c ((z_lt z_zero (zrS_hd hst)).mpr q))) H locs ls hM (zrS_tl hst) hlv hl hP hD hS)
theorem zr_ifle (hX : zOk X G cc own nL ret d) (hd : decode cc pc = .ok (.ifCond .le off, 3)) (ht : (pc : Int) + off = (tgt : Int)) (h : zP F (if 0 < a then B else A)) (kt : zP F A → zW X G nL tgt lv st μ) (kf : zP F B → zW X G nL (pc + 3) lv st μ) : zW X G nL pc lv (zI a :: st) μ := fun H locs ls hM hst hlv hl hP hD hS =>
  lv_if_le hX.1 hX.2.1 hd ht (fun c => kt (zP_f h (fun q => by have := (z_le (zrS_hd hst) z_zero).mp c; omega)) H locs ls hM (zrS_tl hst) hlv hl hP hD hS) (fun c => kf (zP_t h (Int.not_le.mp (fun q => c ((z_le (zrS_hd hst) z_zero).mpr q)))) H locs ls hM (zrS_tl hst) hlv hl hP hD hS)
theorem zr_icmpeq (hX : zOk X G cc own nL ret d) (hd : decode cc pc = .ok (.if_icmp .eq off, 3)) (ht : (pc : Int) + off = (tgt : Int)) (h : zP F (if a = b then A else B)) (kt : zP F A → zW X G nL tgt lv st μ) (kf : zP F B → zW X G nL (pc + 3) lv st μ) : zW X G nL pc lv (zI b :: zI a :: st) μ := fun H locs ls hM hst hlv hl hP hD hS =>
  lv_icmp_eq hX.1 hX.2.1 hd ht (fun c => kt (zP_t h ((z_inj (zrS_hd (zrS_tl hst)) (zrS_hd hst)).mp c)) H locs ls hM (zrS_tl (zrS_tl hst)) hlv hl hP hD hS) (fun c => kf (zP_f h (fun q => c ((z_inj (zrS_hd (zrS_tl hst)) (zrS_hd hst)).mpr q))) H locs ls hM (zrS_tl (zrS_tl hst)) hlv hl hP hD hS)
theorem zr_icmpne (hX : zOk X G cc own nL ret d) (hd : decode cc pc = .ok (.if_icmp .ne off, 3)) (ht : (pc : Int) + off = (tgt : Int)) (h : zP F (if a = b then B else A)) (kt : zP F A → zW X G nL tgt lv st μ) (kf : zP F B → zW X G nL (pc + 3) lv st μ) : zW X G nL pc lv (zI b :: zI a :: st) μ := fun H locs ls hM hst hlv hl hP hD hS =>
  lv_icmp_ne hX.1 hX.2.1 hd ht (fun c => kt (zP_f h (fun q => c ((z_inj (zrS_hd (zrS_tl hst)) (zrS_hd hst)).mpr q))) H locs ls hM (zrS_tl (zrS_tl hst)) hlv hl hP hD hS) (fun c => kf (zP_t h ((z_inj (zrS_hd (zrS_tl hst)) (zrS_hd hst)).mp c)) H locs ls hM (zrS_tl (zrS_tl hst)) hlv hl hP hD hS)
theorem zr_icmplt (hX : zOk X G cc own nL ret d) (hd : decode cc pc = .ok (.if_icmp .lt off, 3)) (ht : (pc : Int) + off = (tgt : Int)) (h : zP F (if a < b then A else B)) (kt : zP F A → zW X G nL tgt lv st μ) (kf : zP F B → zW X G nL (pc + 3) lv st μ) : zW X G nL pc lv (zI b :: zI a :: st) μ := fun H locs ls hM hst hlv hl hP hD hS =>
  lv_icmp_lt hX.1 hX.2.1 hd ht (fun c => kt (zP_t h ((z_lt (zrS_hd (zrS_tl hst)) (zrS_hd hst)).mp c)) H locs ls hM (zrS_tl (zrS_tl hst)) hlv hl hP hD hS) (fun c => kf (zP_f h (fun q => c ((z_lt (zrS_hd (zrS_tl hst)) (zrS_hd hst)).mpr q))) H locs ls hM (zrS_tl (zrS_tl hst)) hlv hl hP hD hS)
theorem zr_icmpge (hX : zOk X G cc own nL ret d) (hd : decode cc pc = .ok (.if_icmp .ge off, 3)) (ht : (pc : Int) + off = (tgt : Int)) (h : zP F (if a < b then B else A)) (kt : zP F A → zW X G nL tgt lv st μ) (kf : zP F B → zW X G nL (pc + 3) lv st μ) : zW X G nL pc lv (zI b :: zI a :: st) μ := fun H locs ls hM hst hlv hl hP hD hS =>
  lv_icmp_ge hX.1 hX.2.1 hd ht (fun c => kt (zP_f h (fun q => by have := (z_le (zrS_hd hst) (zrS_hd (zrS_tl hst))).mp c; omega)) H locs ls hM (zrS_tl (zrS_tl hst)) hlv hl hP hD hS) (fun c => kf (zP_t h (Int.not_le.mp (fun q => c ((z_le (zrS_hd hst) (zrS_hd (zrS_tl hst))).mpr q)))) H locs ls hM (zrS_tl (zrS_tl hst)) hlv hl hP hD hS)
theorem zr_icmpgt (hX : zOk X G cc own nL ret d) (hd : decode cc pc = .ok (.if_icmp .gt off, 3)) (ht : (pc : Int) + off = (tgt : Int)) (h : zP F (if b < a then A else B)) (kt : zP F A → zW X G nL tgt lv st μ) (kf : zP F B → zW X G nL (pc + 3) lv st μ) : zW X G nL pc lv (zI b :: zI a :: st) μ := fun H locs ls hM hst hlv hl hP hD hS =>
  lv_icmp_gt hX.1 hX.2.1 hd ht (fun c => kt (zP_t h ((z_lt (zrS_hd hst) (zrS_hd (zrS_tl hst))).mp c)) H locs ls hM (zrS_tl (zrS_tl hst)) hlv hl hP hD hS) (fun c => kf (zP_f h (fun q => c ((z_lt (zrS_hd hst) (zrS_hd (zrS_tl hst))).mpr q))) H locs ls hM (zrS_tl (zrS_tl hst)) hlv hl hP hD hS)
theorem zr_icmple (hX : zOk X G cc own nL ret d) (hd : decode cc pc = .ok (.if_icmp .le off, 3)) (ht : (pc : Int) + off = (tgt : Int)) (h : zP F (if b < a then B else A)) (kt : zP F A → zW X G nL tgt lv st μ) (kf : zP F B → zW X G nL (pc + 3) lv st μ) : zW X G nL pc lv (zI b :: zI a :: st) μ := fun H locs ls hM hst hlv hl hP hD hS =>
  lv_icmp_le hX.1 hX.2.1 hd ht (fun c => kt (zP_f h (fun q => by have := (z_le (zrS_hd (zrS_tl hst)) (zrS_hd hst)).mp c; omega)) H locs ls hM (zrS_tl (zrS_tl hst)) hlv hl hP hD hS) (fun c => kf (zP_t h (Int.not_le.mp (fun q => c ((z_le (zrS_hd (zrS_tl hst)) (zrS_hd hst)).mpr q)))) H locs ls hM (zrS_tl (zrS_tl hst)) hlv hl hP hD hS)
/-- a switch over lo .. : one number of it -/
theorem zr_tsw (hX : zOk X G cc own nL ret d) {dflt lo hi : Int} {offs : Array Int} {len : Nat} {o2 : Int} {t2 : Nat} (j : Int) (hd : decode cc pc = .ok (.tableswitch dflt lo hi offs, len)) (hj : lo ≤ j ∧ j ≤ hi) (hrj : zrI j) (ho : offs[(j - lo).toNat]? = some o2) (ht : (pc : Int) + o2 = (t2 : Int)) (h : zP F (if a = j then A else B)) (kt : zP F A → zW X G nL t2 lv st μ) (kf : ¬ a = j → zP F B → zW X G nL pc lv (zI a :: st) μ) : zW X G nL pc lv (zI a :: st) μ := by
  by_cases hc : a = j
  · rw [if_pos hc] at h
    subst hc
    intro H locs ls hM hst hlv hl hP hD hS
    exact lv_tableIn hX.1 hX.2.1 hd (by rw [zrI_to hrj]; omega) (by rw [zrI_to hrj]; omega) (by rw [zrI_to hrj]; exact ho) ht (kt h H locs ls hM (zrS_tl hst) hlv hl hP hD hS)
  · rw [if_neg hc] at h
    exact kf hc h
theorem zr_tswd (hX : zOk X G cc own nL ret d) {dflt lo hi : Int} {offs : Array Int} {len : Nat} (hd : decode cc pc = .ok (.tableswitch dflt lo hi offs, len)) (hc : a < lo ∨ hi < a) (ht : (pc : Int) + dflt = (tgt : Int)) (k : zW X G nL tgt lv st μ) : zW X G nL pc lv (zI a :: st) μ := fun H locs ls hM hst hlv hl hP hD hS =>
  lv_tableOut hX.1 hX.2.1 hd (by rw [zrI_to (show zrI a from zrS_hd hst)]; exact hc) ht (k H locs ls hM (zrS_tl hst) hlv hl hP hD hS)
/-- the reference that may be null -/
theorem zr_ifnonnull (hX : zOk X G cc own nL ret d) {q : Option Nat} {C : Nat → Option τ} (hd : decode cc pc = .ok (.ifnonnull off, 3)) (ht : (pc : Int) + off = (tgt : Int)) (h : zP F (match q with | none => B | some o => C o)) (kt : ∀ o, q = some o → zP F (C o) → zW X G nL tgt lv st μ) (kf : q = none → zP F B → zW X G nL (pc + 3) lv st μ) : zW X G nL pc lv (zN q :: st) μ := fun H locs ls hM hst hlv hl hP hD hS => by
  cases q with
  | none => exact lv_ifnonnullN hX.1 hX.2.1 hd (kf rfl h H locs ls hM (zrS_tl hst) hlv hl hP hD hS)
  | some o => exact lv_ifnonnull hX.1 hX.2.1 hd ht (kt o rfl h H locs ls hM (zrS_tl hst) hlv hl hP hD hS)
theorem zr_ifnull (hX : zOk X G cc own nL ret d) {q : Option Nat} {C : Nat → Option τ} (hd : decode cc pc = .ok (.ifnull off, 3)) (ht : (pc : Int) + off = (tgt : Int)) (h : zP F (match q with | none => B | some o => C o)) (kt : ∀ o, q = some o → zP F (C o) → zW X G nL (pc + 3) lv st μ) (kf : q = none → zP F B → zW X G nL tgt lv st μ) : zW X G nL pc lv (zN q :: st) μ := fun H locs ls hM hst hlv hl hP hD hS => by
  cases q with
  | none => exact lv_ifnullN hX.1 hX.2.1 hd ht (kf rfl h H locs ls hM (zrS_tl hst) hlv hl hP hD hS)
  | some o => exact lv_ifnull hX.1 hX.2.1 hd (kt o rfl h H locs ls hM (zrS_tl hst) hlv hl hP hD hS)
theorem zr_null (hX : zOk X G cc own nL ret d) (hd : decode cc pc = .ok (.aconst_null, 1)) (k : zW X G nL (pc + 1) lv (zN none :: st) μ) : zW X G nL pc lv st μ := fun H locs ls hM hst hlv hl hP hD hS =>
  lv_null hX.1 hX.2.1 hd (k H locs ls hM (zrS_cons trivial hst) hlv hl hP hD hS)
/-- one that isn't null, told either way -/
theorem zW_RN {o : Nat} (k : zW X G nL pc lv (zN (some o) :: st) μ) : zW X G nL pc lv (zR o :: st) μ := fun H locs ls hM hst hlv hl hP hD hS =>
  k H locs ls hM (zrS_cons trivial (zrS_tl hst)) hlv hl hP hD hS
theorem zW_NR {o : Nat} (k : zW X G nL pc lv (zR o :: st) μ) : zW X G nL pc lv (zN (some o) :: st) μ := fun H locs ls hM hst hlv hl hP hD hS =>
  k H locs ls hM (zrS_cons trivial (zrS_tl hst)) hlv hl hP hD hS
end ZBR
end ZR2
