/-! Long.compare -/
theorem dJ13_compare_74951_0 : decode cJ13_compare_74951 0 = .ok (.lload_n 0, 1) := by decide +kernel
theorem dJ13_compare_74951_1 : decode cJ13_compare_74951 1 = .ok (.lload_n 2, 1) := by decide +kernel
theorem dJ13_compare_74951_2 : decode cJ13_compare_74951 2 = .ok (.lcmp, 1) := by decide +kernel
theorem dJ13_compare_74951_3 : decode cJ13_compare_74951 3 = .ok (.ifCond .ge 7, 3) := by decide +kernel
theorem dJ13_compare_74951_6 : decode cJ13_compare_74951 6 = .ok (.iconst (-1), 1) := by decide +kernel
theorem dJ13_compare_74951_7 : decode cJ13_compare_74951 7 = .ok (.goto 14, 3) := by decide +kernel
theorem dJ13_compare_74951_10 : decode cJ13_compare_74951 10 = .ok (.lload_n 0, 1) := by decide +kernel
theorem dJ13_compare_74951_11 : decode cJ13_compare_74951 11 = .ok (.lload_n 2, 1) := by decide +kernel
theorem dJ13_compare_74951_12 : decode cJ13_compare_74951 12 = .ok (.lcmp, 1) := by decide +kernel
theorem dJ13_compare_74951_13 : decode cJ13_compare_74951 13 = .ok (.ifCond .ne 7, 3) := by decide +kernel
theorem dJ13_compare_74951_16 : decode cJ13_compare_74951 16 = .ok (.iconst 0, 1) := by decide +kernel
theorem dJ13_compare_74951_17 : decode cJ13_compare_74951 17 = .ok (.goto 4, 3) := by decide +kernel
theorem dJ13_compare_74951_20 : decode cJ13_compare_74951 20 = .ok (.iconst 1, 1) := by decide +kernel
theorem dJ13_compare_74951_21 : decode cJ13_compare_74951 21 = .ok (.ireturn, 1) := by decide +kernel
abbrev MJcompare : rx_M := (RJ13, yJ13_compare_74951, cJ13_compare_74951, 4, (some .int), 1)
theorem kJcompare : rKs MJcompare 2 := ⟨tb_in (i := 4) (j := 30) rfl rfl, tb_in (i := 4) (j := 31) rfl rfl, tb_in (i := 4) (j := 24) rfl rfl, ⟨by decide, by decide, by decide +kernel⟩, by decide⟩
theorem cJcompare {l : Launch} {D : va_G} {Z : (Nat → Nat) × (Nat → Nat)} {tys : List (ClassId × FieldType)} {ws : va_W} {x y : Int64} : rMet l D Z tys MJcompare [.long x, .long y] ws ws (some (.int (lg_cmp x y))) := by
  refine rMet.of (by decide) rfl (Nat.le_of_ble_eq_true rfl) ?_
  refine r_sub (lv' := [(0, .long x), (2, .long y)]) [0, 1] rfl ?_
  refine r_lload_n 0 dJ13_compare_74951_0 rfl ?_
  refine r_lload_n 1 dJ13_compare_74951_1 rfl ?_
  refine r_lcmp dJ13_compare_74951_2 ?_
  refine r_if_ge 10 dJ13_compare_74951_3 (by decide) (fun c1 => ?_) (fun c1 => ?_)
  · refine r_lload_n 0 dJ13_compare_74951_10 rfl ?_
    refine r_lload_n 1 dJ13_compare_74951_11 rfl ?_
    refine r_lcmp dJ13_compare_74951_12 ?_
    refine r_if_ne 20 dJ13_compare_74951_13 (by decide) (fun c2 => ?_) (fun c2 => ?_)
    · refine r_iconst (x := 1) dJ13_compare_74951_20 (by decide) ?_
      have e : lg_cmp x y = 1 := by
        unfold lg_cmp at c1 c2 ⊢
        repeat' split at c1
        all_goals first | rfl | simp_all | (exfalso; revert c1; decide)
      rw [e]
      exact r_iret rfl dJ13_compare_74951_21
    · refine r_iconst (x := 0) dJ13_compare_74951_16 (by decide) ?_
      refine r_goto 21 dJ13_compare_74951_17 (by decide) ?_
      rw [c2]
      exact r_iret rfl dJ13_compare_74951_21
  · refine r_iconst (x := -1) dJ13_compare_74951_6 (by decide) ?_
    refine r_goto 21 dJ13_compare_74951_7 (by decide) ?_
    have e : lg_cmp x y = -1 := by
      unfold lg_cmp at c1 ⊢
      repeat' split at c1
      all_goals first | rfl | simp_all | (exfalso; apply c1; decide)
    rw [e]
    exact r_iret rfl dJ13_compare_74951_21
theorem r_lcompare {l : Launch} {D : va_G} {Z : (Nat → Nat) × (Nat → Nat)} {tys : List (ClassId × FieldType)} {M : rx_M} {pc : Nat} {lv : List (Nat × Value)} {st : List Value} {ws ws' : va_W} {v : Option Value} {index : Nat} {x y : Int64} (hlink : Cond.methodLink M.1 index yJ13_compare_74951 ∈ TB) (hrank : 2 ≤ M.2.2.2.2.2) (hcat : (st.map fun v => v.category).sum ≤ 8) (hdg : decode M.2.2.1 pc = .ok (.invokestatic index, 3)) (k : rW l D Z tys M (pc + 3) lv (.int (lg_cmp x y) :: st) ws ws' v) : rW l D Z tys M pc lv (.long y :: .long x :: st) ws ws' v :=
  r_callS (st := st) (cJcompare (x := x) (y := y)) rfl rfl hcat kJcompare hlink hrank hdg k
