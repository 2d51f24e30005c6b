theorem shT_chg {T : zT} (hV : VT T) {t s b x y h : Int} (h1 : 0 ≤ s) (h2 : s < hT T t) (hb : 0 ≤ b ∧ b < 10) : shT (chgT T t s 0 b) x y h = -9 ↔ shT T x y h = -9 ∧ onW x y t s h 5 = true := by
  have h3 := hT_pos (show 0 < hT T t by omega)
  have hV' := chgT_V (s := s) (k := 0) (b := b) hV h3.1 h3.2 ⟨by omega, by omega⟩ hb
  rw [shT_iff hV', shT_iff hV]
  unfold onW
  rw [zall_iff]
  constructor
  · intro g
    refine ⟨fun k hk => ?_, fun k hk => ?_⟩
    · have := g k hk
      rw [blkT_chg h1 h2 hb.1, Bool.or_eq_false_iff] at this
      exact this.1
    · have := g k hk
      rw [blkT_chg h1 h2 hb.1, Bool.or_eq_false_iff] at this
      have h4 := of_decide_eq_false this.2
      rw [Bool.not_eq_true']
      exact decide_eq_false (fun z => h4 ⟨z.1.symm, z.2.symm⟩)
  · intro g k hk
    rw [blkT_chg h1 h2 hb.1, Bool.or_eq_false_iff]
    refine ⟨g.1 k hk, decide_eq_false (fun z => ?_)⟩
    have h4 := g.2 k hk
    rw [Bool.not_eq_true'] at h4
    exact of_decide_eq_false h4 ⟨z.1.symm, z.2.symm⟩
