/-! THE THREE CHANGES of a rock: a house comes on top, a house goes, a house changes -/
def addT (T : zT) (t k b : Int) : zT := T.set t.toNat (T.getD t.toNat [] ++ [(k.toNat, b.toNat)])
def gonT (T : zT) (t s : Int) : zT := T.set t.toNat ((T.getD t.toNat []).eraseIdx s.toNat)
def chgT (T : zT) (t s k b : Int) : zT := T.set t.toNat ((T.getD t.toNat []).set s.toNat (k.toNat, b.toNat))
theorem getD_set {α : Type} (L : List α) (i j : Nat) (a d : α) : (L.set i a).getD j d = if j = i ∧ i < L.length then a else L.getD j d := by
  rw [List.getD_eq_getElem?_getD, List.getD_eq_getElem?_getD, List.getElem?_set]
  by_cases c : i = j
  · subst c
    by_cases h : i < L.length
    · rw [if_pos rfl, if_pos h, if_pos ⟨rfl, h⟩]; rfl
    · rw [if_pos rfl, if_neg h, if_neg (fun z => h z.2), List.getElem?_eq_none (by omega)]
  · rw [if_neg c, if_neg (fun z => c z.1.symm)]
theorem getD_app {α : Type} (L : List α) (j : Nat) (a d : α) : (L ++ [a]).getD j d = if j = L.length then a else L.getD j d := by
  rw [List.getD_eq_getElem?_getD, List.getD_eq_getElem?_getD]
  by_cases c : j < L.length
  · rw [List.getElem?_append_left c, if_neg (by omega)]
  · by_cases h : j = L.length
    · subst h; simp
    · rw [if_neg h, List.getElem?_eq_none (by simp; omega), List.getElem?_eq_none (by omega)]
theorem getD_era {α : Type} (L : List α) (s j : Nat) (d : α) : (L.eraseIdx s).getD j d = if j < s then L.getD j d else L.getD (j + 1) d := by
  rw [List.getD_eq_getElem?_getD, List.getElem?_eraseIdx]
  split <;> rw [List.getD_eq_getElem?_getD]
theorem len_set (T : zT) : ∀ (i : Nat) (l : List (Nat × Nat)), i < T.length → ((T.set i l).map List.length).sum + (T.getD i []).length = (T.map List.length).sum + l.length := by
  induction T with
  | nil => intro i l h; exact absurd h (by simp)
  | cons x T ih =>
    intro i l h
    cases i with
    | zero => simp; omega
    | succ i =>
      have := ih i l (by simpa using h)
      simp at this ⊢
      omega
section OPS
variable {T : zT} {t s k b x y : Int}
theorem hT_set {l : List (Nat × Nat)} (h1 : 0 ≤ t) (h2 : t < nT T) : hT (T.set t.toNat l) x = if x = t then (l.length : Int) else hT T x := by
  unfold hT
  unfold nT at h2
  by_cases c : 0 ≤ x
  · rw [if_pos c, if_pos c, getD_set]
    by_cases d : x = t
    · subst d; rw [if_pos ⟨rfl, by omega⟩, if_pos rfl]
    · rw [if_neg (by omega), if_neg d]
  · rw [if_neg c, if_neg c, if_neg (by omega)]
theorem cT_set {l : List (Nat × Nat)} (h1 : 0 ≤ t) (h2 : t < nT T) (hx : 0 ≤ x) : cT (T.set t.toNat l) x y = if x = t then ((l.getD y.toNat (0, 0)).1 : Int) else cT T x y := by
  unfold cT
  unfold nT at h2
  rw [getD_set]
  by_cases d : x = t
  · subst d; rw [if_pos ⟨rfl, by omega⟩, if_pos rfl]
  · rw [if_neg (by omega), if_neg d]
theorem bT_set {l : List (Nat × Nat)} (h1 : 0 ≤ t) (h2 : t < nT T) (hx : 0 ≤ x) : bT (T.set t.toNat l) x y = if x = t then ((l.getD y.toNat (0, 0)).2 : Int) else bT T x y := by
  unfold bT
  unfold nT at h2
  rw [getD_set]
  by_cases d : x = t
  · subst d; rw [if_pos ⟨rfl, by omega⟩, if_pos rfl]
  · rw [if_neg (by omega), if_neg d]
theorem hT_len (h1 : 0 ≤ t) : hT T t = ((T.getD t.toNat []).length : Int) := by unfold hT; rw [if_pos h1]
theorem tot_set {l : List (Nat × Nat)} (h1 : 0 ≤ t) (h2 : t < nT T) : tot (T.set t.toNat l) = tot T - hT T t + l.length := by
  have := len_set T t.toNat l (by unfold nT at h2; omega)
  rw [hT_len h1]
  unfold tot
  omega
theorem mem_getD {α : Type} {L : List (List α)} {i : Nat} {a : α} (h : a ∈ L.getD i []) : L.getD i [] ∈ L := by
  rw [List.getD_eq_getElem?_getD] at h ⊢
  by_cases c : i < L.length
  · rw [List.getElem?_eq_getElem c]; exact List.getElem_mem c
  · rw [List.getElem?_eq_none (by omega)] at h; exact absurd h (by simp)
theorem VT_set {l : List (Nat × Nat)} (hV : VT T) (h1 : 0 ≤ t) (h2 : t < nT T) (h3 : l.length ≤ 6) (h4 : tot T - hT T t + l.length ≤ 12) (h5 : ∀ h ∈ l, h.1 < 6 ∧ h.2 < 10) : VT (T.set t.toNat l) := by
  obtain ⟨v1, v2, v3, v4⟩ := hV
  refine ⟨by simpa using v1, fun u hu => ?_, ?_, fun u hu => ?_⟩
  · rcases List.mem_or_eq_of_mem_set hu with h | h
    · exact v2 u h
    · rw [h]; exact h3
  · have := tot_set (l := l) h1 h2
    unfold tot at this h4
    omega
  · rcases List.mem_or_eq_of_mem_set hu with h | h
    · exact v4 u h
    · rw [h]; exact h5
theorem nT_set {i : Nat} {l : List (Nat × Nat)} : nT (T.set i l) = nT T := by unfold nT; simp
/-- a house comes -/
theorem addT_h (h1 : 0 ≤ t) (h2 : t < nT T) : hT (addT T t k b) x = if x = t then hT T t + 1 else hT T x := by
  unfold addT
  rw [hT_set h1 h2, hT_len h1]
  simp
theorem addT_c (h1 : 0 ≤ t) (h2 : t < nT T) (hx : 0 ≤ x) (hy : 0 ≤ y) (hk : 0 ≤ k) (hb : 0 ≤ b) : cT (addT T t k b) x y = (if x = t ∧ y = hT T t then k else cT T x y) ∧ bT (addT T t k b) x y = if x = t ∧ y = hT T t then b else bT T x y := by
  unfold addT
  rw [cT_set h1 h2 hx, bT_set h1 h2 hx, getD_app, hT_len h1]
  by_cases c : x = t
  · subst c
    by_cases d : y = ((T.getD x.toNat []).length : Int)
    · rw [if_pos rfl, if_pos rfl, if_pos (by omega), if_pos ⟨rfl, d⟩, if_pos ⟨rfl, d⟩]
      exact ⟨by show ((k.toNat : Nat) : Int) = k; omega, by show ((b.toNat : Nat) : Int) = b; omega⟩
    · rw [if_pos rfl, if_pos rfl, if_neg (by omega), if_neg (fun z => d z.2), if_neg (fun z => d z.2)]
      exact ⟨rfl, rfl⟩
  · rw [if_neg c, if_neg c, if_neg (fun z => c z.1), if_neg (fun z => c z.1)]
    exact ⟨rfl, rfl⟩
theorem addT_n : nT (addT T t k b) = nT T := nT_set
theorem addT_t (h1 : 0 ≤ t) (h2 : t < nT T) : tot (addT T t k b) = tot T + 1 := by
  unfold addT
  rw [tot_set h1 h2, hT_len h1, List.length_append]
  simp
  omega
theorem addT_V (hV : VT T) (h1 : 0 ≤ t) (h2 : t < nT T) (h3 : hT T t < 6) (h4 : tot T < 12) (hk : 0 ≤ k ∧ k < 6) (hb : 0 ≤ b ∧ b < 10) : VT (addT T t k b) := by
  have e := hT_len (T := T) h1
  have e2 : (T.getD t.toNat [] ++ [(k.toNat, b.toNat)]).length = (T.getD t.toNat []).length + 1 := by rw [List.length_append]; rfl
  refine VT_set hV h1 h2 (by omega) (by omega) (fun h hh => ?_)
  rcases List.mem_append.mp hh with q | q
  · exact hV.2.2.2 _ (mem_getD q) h q
  · rw [List.mem_singleton.mp q]; exact ⟨by show k.toNat < 6; omega, by show b.toNat < 10; omega⟩
/-- a house goes -/
theorem gonT_h (h1 : 0 ≤ s) (h2 : s < hT T t) : hT (gonT T t s) x = if x = t then hT T t - 1 else hT T x := by
  have h3 := hT_pos (show 0 < hT T t by omega)
  unfold gonT
  rw [hT_len h3.1] at h2
  rw [hT_set h3.1 h3.2, hT_len h3.1, List.length_eraseIdx, if_pos (show s.toNat < (T.getD t.toNat []).length by omega)]
  by_cases c : x = t
  · rw [if_pos c, if_pos c]; omega
  · rw [if_neg c, if_neg c]
theorem gonT_c (h1 : 0 ≤ s) (h2 : s < hT T t) (hx : 0 ≤ x) (hy : 0 ≤ y) : cT (gonT T t s) x y = (if x = t ∧ s ≤ y then cT T x (y + 1) else cT T x y) ∧ bT (gonT T t s) x y = if x = t ∧ s ≤ y then bT T x (y + 1) else bT T x y := by
  have h3 := hT_pos (show 0 < hT T t by omega)
  unfold gonT
  rw [cT_set h3.1 h3.2 hx, bT_set h3.1 h3.2 hx, getD_era]
  by_cases c : x = t
  · subst c
    by_cases d : s ≤ y
    · rw [if_pos rfl, if_pos rfl, if_neg (by omega), if_pos ⟨rfl, d⟩, if_pos ⟨rfl, d⟩]
      unfold cT bT
      rw [show (y + 1).toNat = y.toNat + 1 by omega]
      exact ⟨rfl, rfl⟩
    · rw [if_pos rfl, if_pos rfl, if_pos (by omega), if_neg (fun z => d z.2), if_neg (fun z => d z.2)]
      exact ⟨rfl, rfl⟩
  · rw [if_neg c, if_neg c, if_neg (fun z => c z.1), if_neg (fun z => c z.1)]
    exact ⟨rfl, rfl⟩
theorem gonT_n : nT (gonT T t s) = nT T := nT_set
theorem gonT_t (h1 : 0 ≤ s) (h2 : s < hT T t) : tot (gonT T t s) = tot T - 1 := by
  have h3 := hT_pos (show 0 < hT T t by omega)
  unfold gonT
  rw [hT_len h3.1] at h2
  rw [tot_set h3.1 h3.2, hT_len h3.1, List.length_eraseIdx, if_pos (by omega)]
  omega
theorem gonT_V (hV : VT T) (h1 : 0 ≤ s) (h2 : s < hT T t) : VT (gonT T t s) := by
  have h3 := hT_pos (show 0 < hT T t by omega)
  have h4 := hT_le hV t
  have h5 := tot_le hV
  rw [hT_len h3.1] at h2 h4
  have e : ((T.getD t.toNat []).eraseIdx s.toNat).length = (T.getD t.toNat []).length - 1 := by rw [List.length_eraseIdx, if_pos (by omega)]
  refine VT_set hV h3.1 h3.2 (by omega) (by rw [hT_len h3.1]; omega) (fun h hh => ?_)
  have q := List.mem_of_mem_eraseIdx hh
  exact hV.2.2.2 _ (mem_getD q) h q
/-- a house changes -/
theorem chgT_h (h1 : 0 ≤ t) (h2 : t < nT T) : hT (chgT T t s k b) x = hT T x := by
  unfold chgT
  rw [hT_set h1 h2, List.length_set]
  by_cases c : x = t
  · subst c; rw [if_pos rfl, hT_len h1]
  · rw [if_neg c]
theorem chgT_c (h1 : 0 ≤ s) (h2 : s < hT T t) (hx : 0 ≤ x) (hy : 0 ≤ y) (hk : 0 ≤ k) (hb : 0 ≤ b) : cT (chgT T t s k b) x y = (if x = t ∧ y = s then k else cT T x y) ∧ bT (chgT T t s k b) x y = if x = t ∧ y = s then b else bT T x y := by
  have h3 := hT_pos (show 0 < hT T t by omega)
  rw [hT_len h3.1] at h2
  unfold chgT
  rw [cT_set h3.1 h3.2 hx, bT_set h3.1 h3.2 hx, getD_set]
  by_cases c : x = t
  · subst c
    by_cases d : y = s
    · rw [if_pos rfl, if_pos rfl, if_pos (by omega), if_pos ⟨rfl, d⟩, if_pos ⟨rfl, d⟩]
      exact ⟨by show ((k.toNat : Nat) : Int) = k; omega, by show ((b.toNat : Nat) : Int) = b; omega⟩
    · rw [if_pos rfl, if_pos rfl, if_neg (by omega), if_neg (fun z => d z.2), if_neg (fun z => d z.2)]
      exact ⟨rfl, rfl⟩
  · rw [if_neg c, if_neg c, if_neg (fun z => c z.1), if_neg (fun z => c z.1)]
    exact ⟨rfl, rfl⟩
theorem chgT_n : nT (chgT T t s k b) = nT T := nT_set
theorem chgT_t (h1 : 0 ≤ t) (h2 : t < nT T) : tot (chgT T t s k b) = tot T := by
  unfold chgT
  rw [tot_set h1 h2, List.length_set, hT_len h1]
  omega
theorem chgT_V (hV : VT T) (h1 : 0 ≤ t) (h2 : t < nT T) (hk : 0 ≤ k ∧ k < 6) (hb : 0 ≤ b ∧ b < 10) : VT (chgT T t s k b) := by
  have h4 := hT_le hV t
  have h5 := tot_le hV
  rw [hT_len h1] at h4
  refine VT_set hV h1 h2 (by rw [List.length_set]; omega) (by rw [List.length_set, hT_len h1]; omega) (fun h hh => ?_)
  rcases List.mem_or_eq_of_mem_set hh with q | q
  · exact hV.2.2.2 _ (mem_getD q) h q
  · rw [q]; exact ⟨by show k.toNat < 6; omega, by show b.toNat < 10; omega⟩
end OPS
