section PM3
variable {l : Launch} {D : va_G} {Z : (Nat → Nat) × (Nat → Nat)} {K : Nat → ClassId} {ad : Nat → Nat} {tys : List (ClassId × FieldType)} {ws : va_W}
variable {z_tape : Nat → Int32} {z_taped : Int32} {z_rules : Int32} {z_sign : Nat → Int32} {z_length : Nat → Int32} {z_clause : Nat → Int32} {z_clauses : Nat → Int32} {z_read : Nat → Int32} {z_next : Int32} {z_wrong : Int32} {z_number : Int32} {z_text : Int32} {z_made : Int32} {z_deep : Int32} {z_lines : Int32} {z_open : Nat → Int32} {z_opened : Int32} {z_stack : Nat → Int64} {z_top : Int32} {z_word : Nat → Int64} {z_said : Nat → Int32} {z_force : Int32} {z_x : Int32} {z_absent : Int32} {z_isRaining : Int32} {z_wasSaid : Nat → Int32} {z_undone : Int32} {z_kept : Nat → Int32} {z_order : Nat → Int32} {z_bestOrder : Nat → Int32} {z_hasBy : Nat → Int32} {z_wealthThen : Nat → Int32} {z_isFit : Nat → Int32} {z_tillThen : Nat → Int32} {z_drawX : Int64} {z_images : Nat → Int32} {z_imageForce : Nat → Int32} {z_imageX : Nat → Int32} {z_isMade : Nat → Int32}
theorem dX12_choice_0 : decode cX12_choice 0 = .ok (.iconst (-1), 1) := by decide +kernel
theorem dX12_choice_1 : decode cX12_choice 1 = .ok (.istore_n 2, 1) := by decide +kernel
theorem dX12_choice_2 : decode cX12_choice 2 = .ok (.lconst 0, 1) := by decide +kernel
theorem dX12_choice_3 : decode cX12_choice 3 = .ok (.lstore_n 3, 1) := by decide +kernel
theorem dX12_choice_4 : decode cX12_choice 4 = .ok (.iconst 0, 1) := by decide +kernel
theorem dX12_choice_5 : decode cX12_choice 5 = .ok (.istore 5, 2) := by decide +kernel
theorem dX12_choice_7 : decode cX12_choice 7 = .ok (.iload 5, 2) := by decide +kernel
theorem dX12_choice_9 : decode cX12_choice 9 = .ok (.aload_n 0, 1) := by decide +kernel
theorem dX12_choice_10 : decode cX12_choice 10 = .ok (.getfield 39, 3) := by decide +kernel
theorem dX12_choice_13 : decode cX12_choice 13 = .ok (.iconst 3, 1) := by decide +kernel
theorem dX12_choice_14 : decode cX12_choice 14 = .ok (.iaload, 1) := by decide +kernel
theorem dX12_choice_15 : decode cX12_choice 15 = .ok (.if_icmp .ge 62, 3) := by decide +kernel
theorem dX12_choice_18 : decode cX12_choice 18 = .ok (.iload_n 1, 1) := by decide +kernel
theorem dX12_choice_19 : decode cX12_choice 19 = .ok (.aload_n 0, 1) := by decide +kernel
theorem dX12_choice_20 : decode cX12_choice 20 = .ok (.getfield 46, 3) := by decide +kernel
theorem dX12_choice_23 : decode cX12_choice 23 = .ok (.if_icmp .eq 54, 3) := by decide +kernel
theorem dX12_choice_26 : decode cX12_choice 26 = .ok (.aload_n 0, 1) := by decide +kernel
theorem dX12_choice_27 : decode cX12_choice 27 = .ok (.getfield 335, 3) := by decide +kernel
theorem dX12_choice_30 : decode cX12_choice 30 = .ok (.ifCond .ne 47, 3) := by decide +kernel
theorem dX12_choice_33 : decode cX12_choice 33 = .ok (.aload_n 0, 1) := by decide +kernel
theorem dX12_choice_34 : decode cX12_choice 34 = .ok (.iload_n 1, 1) := by decide +kernel
theorem dX12_choice_35 : decode cX12_choice 35 = .ok (.iload 5, 2) := by decide +kernel
theorem dX12_choice_37 : decode cX12_choice 37 = .ok (.invokevirtual 322, 3) := by decide +kernel
theorem dX12_choice_40 : decode cX12_choice 40 = .ok (.ifCond .ne 6, 3) := by decide +kernel
theorem dX12_choice_43 : decode cX12_choice 43 = .ok (.goto 28, 3) := by decide +kernel
theorem dX12_choice_46 : decode cX12_choice 46 = .ok (.aload_n 0, 1) := by decide +kernel
theorem dX12_choice_47 : decode cX12_choice 47 = .ok (.iload_n 1, 1) := by decide +kernel
theorem dX12_choice_48 : decode cX12_choice 48 = .ok (.iload 5, 2) := by decide +kernel
theorem dX12_choice_50 : decode cX12_choice 50 = .ok (.invokevirtual 339, 3) := by decide +kernel
theorem dX12_choice_53 : decode cX12_choice 53 = .ok (.lstore 6, 2) := by decide +kernel
theorem dX12_choice_55 : decode cX12_choice 55 = .ok (.lload 6, 2) := by decide +kernel
theorem dX12_choice_57 : decode cX12_choice 57 = .ok (.lload_n 3, 1) := by decide +kernel
theorem dX12_choice_58 : decode cX12_choice 58 = .ok (.lcmp, 1) := by decide +kernel
theorem dX12_choice_59 : decode cX12_choice 59 = .ok (.ifCond .gt 6, 3) := by decide +kernel
theorem dX12_choice_62 : decode cX12_choice 62 = .ok (.goto 9, 3) := by decide +kernel
theorem dX12_choice_65 : decode cX12_choice 65 = .ok (.iload 5, 2) := by decide +kernel
theorem dX12_choice_67 : decode cX12_choice 67 = .ok (.istore_n 2, 1) := by decide +kernel
theorem dX12_choice_68 : decode cX12_choice 68 = .ok (.lload 6, 2) := by decide +kernel
theorem dX12_choice_70 : decode cX12_choice 70 = .ok (.lstore_n 3, 1) := by decide +kernel
theorem dX12_choice_71 : decode cX12_choice 71 = .ok (.iinc 5 1, 3) := by decide +kernel
theorem dX12_choice_74 : decode cX12_choice 74 = .ok (.goto (-67), 3) := by decide +kernel
theorem dX12_choice_77 : decode cX12_choice 77 = .ok (.iload_n 2, 1) := by decide +kernel
theorem dX12_choice_78 : decode cX12_choice 78 = .ok (.ireturn, 1) := by decide +kernel
abbrev Mm_choice : rx_M := (RX12, yX12_choice, cX12_choice, 8, (some .int), 6)
theorem km_choice : rKv Mm_choice 1 := ⟨tb_in (i := 25) (j := 19) rfl rfl, tb_in (i := 25) (j := 20) rfl rfl, tb_in (i := 17) (j := 21) rfl rfl, tb_in (i := 25) (j := 12) rfl rfl, ⟨by decide, by decide, by decide +kernel⟩, by decide⟩
def m_choice_l7 (z_sign : Nat → Int32) (z_clause : Nat → Int32) (z_clauses : Nat → Int32) (z_said : Nat → Int32) (z_force : Int32) (z_absent : Int32) (z_isRaining : Int32) (x1 : Int32) : Nat → Int32 → Int64 → Int32 → (Nat → Int64) → Int32 → (Nat → Int64) → Option (Int32 × (Nat → Int64) × Int32 × (Nat → Int64))
  | 0, _, _, _, _, _, _ => none
  | n + 1, x2, x3, x5, z_stack, z_top, z_word => rq (inb (3 : Int32) 156) ((if (z_said (3 : Int32).toNatClampNeg) ≤ x5 then some (x2, z_stack, z_top, z_word) else (if x1 = z_absent then some (x2, z_stack, z_top, z_word) else (if z_isRaining = 0 then (m_canBuy x1 x5 z_said).bind (fun q5 => (if q5 = 0 then m_choice_l7 z_sign z_clause z_clauses z_said z_force z_absent z_isRaining x1 n x2 x3 (x5 + (1 : Int32)) z_stack z_top z_word else (m_sumOf x1 x5 z_sign z_clause z_clauses z_stack z_top z_word z_said z_force).bind (fun q7 => (if 0 < (lg_cmp q7.1 x3) then m_choice_l7 z_sign z_clause z_clauses z_said z_force z_absent z_isRaining x1 n x5 q7.1 (x5 + (1 : Int32)) q7.2.1 q7.2.2.1 q7.2.2.2 else m_choice_l7 z_sign z_clause z_clauses z_said z_force z_absent z_isRaining x1 n x2 x3 (x5 + (1 : Int32)) q7.2.1 q7.2.2.1 q7.2.2.2)))) else some (x2, z_stack, z_top, z_word)))))
set_option maxRecDepth 20000 in
theorem cm_choice_l7 {q : Int32 × (Nat → Int64) × Int32 × (Nat → Int64)} {x1 : Int32}  : ∀ (n : Nat) (x2 : Int32) (x3 : Int64) (x5 : Int32) (z_stack : Nat → Int64) (z_top : Int32) (z_word : Nat → Int64), m_choice_l7 z_sign z_clause z_clauses z_said z_force z_absent z_isRaining x1 n x2 x3 x5 z_stack z_top z_word = some q → rW l D Z (ty7 K) Mm_choice 7 [(0, .ref (ad 0)), (1, .int x1), (2, .int x2), (3, .long x3), (5, .int x5)] [] (wM K ad z_tape z_taped z_rules z_sign z_length z_clause z_clauses z_read z_next z_wrong z_number z_text z_made z_deep z_lines z_open z_opened z_stack z_top z_word z_said z_force z_x z_absent z_isRaining z_wasSaid z_undone z_kept z_order z_bestOrder z_hasBy z_wealthThen z_isFit z_tillThen z_drawX z_images z_imageForce z_imageX z_isMade) (wM K ad z_tape z_taped z_rules z_sign z_length z_clause z_clauses z_read z_next z_wrong z_number z_text z_made z_deep z_lines z_open z_opened q.2.1 q.2.2.1 q.2.2.2 z_said z_force z_x z_absent z_isRaining z_wasSaid z_undone z_kept z_order z_bestOrder z_hasBy z_wealthThen z_isFit z_tillThen z_drawX z_images z_imageForce z_imageX z_isMade) (some (.int q.1)) := by
  intro n
  induction n with
  | zero => intro x2 x3 x5 z_stack z_top z_word h; unfold m_choice_l7 at h; cases h
  | succ n ih =>
    intro x2 x3 x5 z_stack z_top z_word h
    unfold m_choice_l7 at h
    refine r_iload 4 dX12_choice_7 rfl ?_
    refine r_aload_n 0 dX12_choice_9 rfl ?_
    refine gM_said rfl dX12_choice_10 ?_
    refine r_iconst (x := (3 : Int32)) dX12_choice_13 (by decide) ?_
    obtain ⟨h1, h⟩ := rq_some h
    refine lM_said (inb_in h1) dX12_choice_14 ?_
    refine r_icmp_ge 77 dX12_choice_15 (by decide) (fun c2 => ?_) (fun c2 => ?_)
    · replace h := it_pos c2 h
      refine r_iload_n 2 dX12_choice_77 rfl ?_
      have hq := Option.some.inj h
      subst hq
      exact r_iret rfl dX12_choice_78
    · replace h := it_neg c2 h
      refine r_iload_n 1 dX12_choice_18 rfl ?_
      refine r_aload_n 0 dX12_choice_19 rfl ?_
      refine gM_absent rfl dX12_choice_20 ?_
      refine r_icmp_eq 77 dX12_choice_23 (by decide) (fun c3 => ?_) (fun c3 => ?_)
      · replace h := it_pos c3 h
        refine r_iload_n 2 dX12_choice_77 rfl ?_
        have hq := Option.some.inj h
        subst hq
        exact r_iret rfl dX12_choice_78
      · replace h := it_neg c3 h
        refine r_aload_n 0 dX12_choice_26 rfl ?_
        refine gM_isRaining rfl dX12_choice_27 ?_
        refine r_if_ne 77 dX12_choice_30 (by decide) (fun c4 => ?_) (fun c4 => ?_)
        · replace h := it_neg c4 h
          refine r_iload_n 2 dX12_choice_77 rfl ?_
          have hq := Option.some.inj h
          subst hq
          exact r_iret rfl dX12_choice_78
        · replace h := it_pos c4 h
          refine r_aload_n 0 dX12_choice_33 rfl ?_
          refine r_iload_n 1 dX12_choice_34 rfl ?_
          refine r_iload 4 dX12_choice_35 rfl ?_
          obtain ⟨q5, h5, h⟩ := bd_some h
          refine cvM (st := []) (cm_canBuy h5) rfl rfl (Nat.le_of_ble_eq_true rfl) km_canBuy (tb_in (i := 24) (j := 27) rfl rfl) (by decide) rfl dX12_choice_37 ?_
          refine r_if_ne 46 dX12_choice_40 (by decide) (fun c6 => ?_) (fun c6 => ?_)
          · replace h := it_neg c6 h
            refine r_aload_n 0 dX12_choice_46 rfl ?_
            refine r_iload_n 1 dX12_choice_47 rfl ?_
            refine r_iload 4 dX12_choice_48 rfl ?_
            obtain ⟨q7, h7, h⟩ := bd_some h
            refine cvM (st := []) (cm_sumOf h7) rfl rfl (Nat.le_of_ble_eq_true rfl) km_sumOf (tb_in (i := 25) (j := 9) rfl rfl) (by decide) rfl dX12_choice_50 ?_
            refine r_lstore (lv' := [(6, .long q7.1), (0, .ref (ad 0)), (1, .int x1), (2, .int x2), (3, .long x3), (5, .int x5)]) dX12_choice_53 (by decide) rfl ?_
            refine r_lload 0 dX12_choice_55 rfl ?_
            refine r_lload_n 4 dX12_choice_57 rfl ?_
            refine r_lcmp dX12_choice_58 ?_
            refine r_if_gt 65 dX12_choice_59 (by decide) (fun c8 => ?_) (fun c8 => ?_)
            · replace h := it_pos c8 h
              refine r_iload 5 dX12_choice_65 rfl ?_
              refine r_istore_n (lv' := [(2, .int x5), (6, .long q7.1), (0, .ref (ad 0)), (1, .int x1), (3, .long x3), (5, .int x5)]) dX12_choice_67 (by decide) rfl ?_
              refine r_lload 1 dX12_choice_68 rfl ?_
              refine r_lstore_n (lv' := [(3, .long q7.1), (2, .int x5), (6, .long q7.1), (0, .ref (ad 0)), (1, .int x1), (5, .int x5)]) dX12_choice_70 (by decide) rfl ?_
              refine r_iinc (y := (x5 + (1 : Int32))) (lv' := [(5, .int (x5 + (1 : Int32))), (3, .long q7.1), (2, .int x5), (6, .long q7.1), (0, .ref (ad 0)), (1, .int x1)]) 5 dX12_choice_71 rfl rfl (by decide) rfl ?_
              refine r_goto 7 dX12_choice_74 (by decide) ?_
              refine r_sub (lv' := [(0, .ref (ad 0)), (1, .int x1), (2, .int x5), (3, .long q7.1), (5, .int (x5 + (1 : Int32)))]) [4, 5, 2, 1, 0] rfl ?_
              exact ih _ _ _ _ _ _ h
            · replace h := it_neg c8 h
              refine r_goto 71 dX12_choice_62 (by decide) ?_
              refine r_iinc (y := (x5 + (1 : Int32))) (lv' := [(5, .int (x5 + (1 : Int32))), (6, .long q7.1), (0, .ref (ad 0)), (1, .int x1), (2, .int x2), (3, .long x3)]) 5 dX12_choice_71 rfl rfl (by decide) rfl ?_
              refine r_goto 7 dX12_choice_74 (by decide) ?_
              refine r_sub (lv' := [(0, .ref (ad 0)), (1, .int x1), (2, .int x2), (3, .long x3), (5, .int (x5 + (1 : Int32)))]) [2, 3, 4, 5, 0] rfl ?_
              exact ih _ _ _ _ _ _ h
          · replace h := it_pos c6 h
            refine r_goto 71 dX12_choice_43 (by decide) ?_
            refine r_iinc (y := (x5 + (1 : Int32))) (lv' := [(5, .int (x5 + (1 : Int32))), (0, .ref (ad 0)), (1, .int x1), (2, .int x2), (3, .long x3)]) 4 dX12_choice_71 rfl rfl (by decide) rfl ?_
            refine r_goto 7 dX12_choice_74 (by decide) ?_
            refine r_sub (lv' := [(0, .ref (ad 0)), (1, .int x1), (2, .int x2), (3, .long x3), (5, .int (x5 + (1 : Int32)))]) [1, 2, 3, 4, 0] rfl ?_
            exact ih _ _ _ _ _ _ h
def m_choice (x1 : Int32) (z_sign : Nat → Int32) (z_clause : Nat → Int32) (z_clauses : Nat → Int32) (z_stack : Nat → Int64) (z_top : Int32) (z_word : Nat → Int64) (z_said : Nat → Int32) (z_force : Int32) (z_absent : Int32) (z_isRaining : Int32) : Option (Int32 × (Nat → Int64) × Int32 × (Nat → Int64)) := m_choice_l7 z_sign z_clause z_clauses z_said z_force z_absent z_isRaining x1 FU (-1 : Int32) (0 : Int64) (0 : Int32) z_stack z_top z_word
set_option maxRecDepth 20000 in
theorem cm_choice {q : Int32 × (Nat → Int64) × Int32 × (Nat → Int64)} {x1 : Int32} (h : m_choice x1 z_sign z_clause z_clauses z_stack z_top z_word z_said z_force z_absent z_isRaining = some q) : rMet l D Z (ty7 K) Mm_choice [.ref (ad 0), .int x1] (wM K ad z_tape z_taped z_rules z_sign z_length z_clause z_clauses z_read z_next z_wrong z_number z_text z_made z_deep z_lines z_open z_opened z_stack z_top z_word z_said z_force z_x z_absent z_isRaining z_wasSaid z_undone z_kept z_order z_bestOrder z_hasBy z_wealthThen z_isFit z_tillThen z_drawX z_images z_imageForce z_imageX z_isMade) (wM K ad z_tape z_taped z_rules z_sign z_length z_clause z_clauses z_read z_next z_wrong z_number z_text z_made z_deep z_lines z_open z_opened q.2.1 q.2.2.1 q.2.2.2 z_said z_force z_x z_absent z_isRaining z_wasSaid z_undone z_kept z_order z_bestOrder z_hasBy z_wealthThen z_isFit z_tillThen z_drawX z_images z_imageForce z_imageX z_isMade) (some (.int q.1)) := by
  refine rMet.of (by decide) rfl (Nat.le_of_ble_eq_true rfl) ?_
  refine r_sub (lv' := [(0, .ref (ad 0)), (1, .int x1)]) [0, 1] rfl ?_
  unfold m_choice at h
  refine r_iconst (x := (-1 : Int32)) dX12_choice_0 (by decide) ?_
  refine r_istore_n (lv' := [(2, .int (-1 : Int32)), (0, .ref (ad 0)), (1, .int x1)]) dX12_choice_1 (by decide) rfl ?_
  refine r_lconst (x := (0 : Int64)) dX12_choice_2 (by decide) ?_
  refine r_lstore_n (lv' := [(3, .long (0 : Int64)), (2, .int (-1 : Int32)), (0, .ref (ad 0)), (1, .int x1)]) dX12_choice_3 (by decide) rfl ?_
  refine r_iconst (x := (0 : Int32)) dX12_choice_4 (by decide) ?_
  refine r_istore (lv' := [(5, .int (0 : Int32)), (3, .long (0 : Int64)), (2, .int (-1 : Int32)), (0, .ref (ad 0)), (1, .int x1)]) dX12_choice_5 (by decide) rfl ?_
  refine r_sub (lv' := [(0, .ref (ad 0)), (1, .int x1), (2, .int (-1 : Int32)), (3, .long (0 : Int64)), (5, .int (0 : Int32))]) [3, 4, 2, 1, 0] rfl ?_
  exact cm_choice_l7  FU _ _ _ _ _ _ h
theorem dX12_buys_0 : decode cX12_buys 0 = .ok (.iload_n 2, 1) := by decide +kernel
theorem dX12_buys_1 : decode cX12_buys 1 = .ok (.ifCond .ge 5, 3) := by decide +kernel
theorem dX12_buys_4 : decode cX12_buys 4 = .ok (.iconst 0, 1) := by decide +kernel
theorem dX12_buys_5 : decode cX12_buys 5 = .ok (.ireturn, 1) := by decide +kernel
theorem dX12_buys_6 : decode cX12_buys 6 = .ok (.aload_n 0, 1) := by decide +kernel
theorem dX12_buys_7 : decode cX12_buys 7 = .ok (.getfield 39, 3) := by decide +kernel
theorem dX12_buys_10 : decode cX12_buys 10 = .ok (.bipush 11, 2) := by decide +kernel
theorem dX12_buys_12 : decode cX12_buys 12 = .ok (.iconst 4, 1) := by decide +kernel
theorem dX12_buys_13 : decode cX12_buys 13 = .ok (.iload_n 2, 1) := by decide +kernel
theorem dX12_buys_14 : decode cX12_buys 14 = .ok (.imul, 1) := by decide +kernel
theorem dX12_buys_15 : decode cX12_buys 15 = .ok (.iadd, 1) := by decide +kernel
theorem dX12_buys_16 : decode cX12_buys 16 = .ok (.dup2, 1) := by decide +kernel
theorem dX12_buys_17 : decode cX12_buys 17 = .ok (.iaload, 1) := by decide +kernel
theorem dX12_buys_18 : decode cX12_buys 18 = .ok (.iconst 1, 1) := by decide +kernel
theorem dX12_buys_19 : decode cX12_buys 19 = .ok (.isub, 1) := by decide +kernel
theorem dX12_buys_20 : decode cX12_buys 20 = .ok (.iastore, 1) := by decide +kernel
theorem dX12_buys_21 : decode cX12_buys 21 = .ok (.aload_n 0, 1) := by decide +kernel
theorem dX12_buys_22 : decode cX12_buys 22 = .ok (.getfield 39, 3) := by decide +kernel
theorem dX12_buys_25 : decode cX12_buys 25 = .ok (.bipush 47, 2) := by decide +kernel
theorem dX12_buys_27 : decode cX12_buys 27 = .ok (.iload_n 1, 1) := by decide +kernel
theorem dX12_buys_28 : decode cX12_buys 28 = .ok (.iadd, 1) := by decide +kernel
theorem dX12_buys_29 : decode cX12_buys 29 = .ok (.dup2, 1) := by decide +kernel
theorem dX12_buys_30 : decode cX12_buys 30 = .ok (.iaload, 1) := by decide +kernel
theorem dX12_buys_31 : decode cX12_buys 31 = .ok (.aload_n 0, 1) := by decide +kernel
theorem dX12_buys_32 : decode cX12_buys 32 = .ok (.iload_n 2, 1) := by decide +kernel
theorem dX12_buys_33 : decode cX12_buys 33 = .ok (.invokevirtual 305, 3) := by decide +kernel
theorem dX12_buys_36 : decode cX12_buys 36 = .ok (.isub, 1) := by decide +kernel
theorem dX12_buys_37 : decode cX12_buys 37 = .ok (.iastore, 1) := by decide +kernel
theorem dX12_buys_38 : decode cX12_buys 38 = .ok (.aload_n 0, 1) := by decide +kernel
theorem dX12_buys_39 : decode cX12_buys 39 = .ok (.getfield 39, 3) := by decide +kernel
theorem dX12_buys_42 : decode cX12_buys 42 = .ok (.bipush 11, 2) := by decide +kernel
theorem dX12_buys_44 : decode cX12_buys 44 = .ok (.iconst 4, 1) := by decide +kernel
theorem dX12_buys_45 : decode cX12_buys 45 = .ok (.aload_n 0, 1) := by decide +kernel
theorem dX12_buys_46 : decode cX12_buys 46 = .ok (.iload_n 2, 1) := by decide +kernel
theorem dX12_buys_47 : decode cX12_buys 47 = .ok (.invokevirtual 296, 3) := by decide +kernel
theorem dX12_buys_50 : decode cX12_buys 50 = .ok (.imul, 1) := by decide +kernel
theorem dX12_buys_51 : decode cX12_buys 51 = .ok (.iadd, 1) := by decide +kernel
theorem dX12_buys_52 : decode cX12_buys 52 = .ok (.iconst 2, 1) := by decide +kernel
theorem dX12_buys_53 : decode cX12_buys 53 = .ok (.iadd, 1) := by decide +kernel
theorem dX12_buys_54 : decode cX12_buys 54 = .ok (.dup2, 1) := by decide +kernel
theorem dX12_buys_55 : decode cX12_buys 55 = .ok (.iaload, 1) := by decide +kernel
theorem dX12_buys_56 : decode cX12_buys 56 = .ok (.aload_n 0, 1) := by decide +kernel
theorem dX12_buys_57 : decode cX12_buys 57 = .ok (.iload_n 2, 1) := by decide +kernel
theorem dX12_buys_58 : decode cX12_buys 58 = .ok (.invokevirtual 305, 3) := by decide +kernel
theorem dX12_buys_61 : decode cX12_buys 61 = .ok (.iadd, 1) := by decide +kernel
theorem dX12_buys_62 : decode cX12_buys 62 = .ok (.iastore, 1) := by decide +kernel
theorem dX12_buys_63 : decode cX12_buys 63 = .ok (.aload_n 0, 1) := by decide +kernel
theorem dX12_buys_64 : decode cX12_buys 64 = .ok (.getfield 39, 3) := by decide +kernel
theorem dX12_buys_67 : decode cX12_buys 67 = .ok (.bipush 53, 2) := by decide +kernel
theorem dX12_buys_69 : decode cX12_buys 69 = .ok (.bipush 6, 2) := by decide +kernel
theorem dX12_buys_71 : decode cX12_buys 71 = .ok (.iload_n 1, 1) := by decide +kernel
theorem dX12_buys_72 : decode cX12_buys 72 = .ok (.imul, 1) := by decide +kernel
theorem dX12_buys_73 : decode cX12_buys 73 = .ok (.iadd, 1) := by decide +kernel
theorem dX12_buys_74 : decode cX12_buys 74 = .ok (.iload_n 2, 1) := by decide +kernel
theorem dX12_buys_75 : decode cX12_buys 75 = .ok (.iadd, 1) := by decide +kernel
theorem dX12_buys_76 : decode cX12_buys 76 = .ok (.dup2, 1) := by decide +kernel
theorem dX12_buys_77 : decode cX12_buys 77 = .ok (.iaload, 1) := by decide +kernel
theorem dX12_buys_78 : decode cX12_buys 78 = .ok (.iconst 1, 1) := by decide +kernel
theorem dX12_buys_79 : decode cX12_buys 79 = .ok (.iadd, 1) := by decide +kernel
theorem dX12_buys_80 : decode cX12_buys 80 = .ok (.iastore, 1) := by decide +kernel
theorem dX12_buys_81 : decode cX12_buys 81 = .ok (.aload_n 0, 1) := by decide +kernel
theorem dX12_buys_82 : decode cX12_buys 82 = .ok (.iload_n 2, 1) := by decide +kernel
theorem dX12_buys_83 : decode cX12_buys 83 = .ok (.invokevirtual 305, 3) := by decide +kernel
theorem dX12_buys_86 : decode cX12_buys 86 = .ok (.ireturn, 1) := by decide +kernel
abbrev Mm_buys : rx_M := (RX12, yX12_buys, cX12_buys, 3, (some .int), 4)
theorem km_buys : rKv Mm_buys 2 := ⟨tb_in (i := 25) (j := 22) rfl rfl, tb_in (i := 25) (j := 23) rfl rfl, tb_in (i := 17) (j := 21) rfl rfl, tb_in (i := 25) (j := 13) rfl rfl, ⟨by decide, by decide, by decide +kernel⟩, by decide⟩
def m_buys (x1 : Int32) (x2 : Int32) (z_said : Nat → Int32) : Option (Int32 × (Nat → Int32)) := (if 0 ≤ x2 then lt ((11 : Int32) + ((4 : Int32) * x2)) (fun y2 => rq (inb y2 156) (rq (inb y2 156) (lt (upd z_said y2.toNatClampNeg ((z_said y2.toNatClampNeg) - (1 : Int32))) (fun u4 => lt ((47 : Int32) + x1) (fun y5 => rq (inb y5 156) ((m_priceOf x2 u4).bind (fun q7 => rq (inb y5 156) (lt (upd u4 y5.toNatClampNeg ((u4 y5.toNatClampNeg) - q7)) (fun u8 => (m_sellerOf x2 u8).bind (fun q9 => lt (((11 : Int32) + ((4 : Int32) * q9)) + (2 : Int32)) (fun y10 => rq (inb y10 156) ((m_priceOf x2 u8).bind (fun q12 => rq (inb y10 156) (lt (upd u8 y10.toNatClampNeg ((u8 y10.toNatClampNeg) + q12)) (fun u13 => lt (((53 : Int32) + ((6 : Int32) * x1)) + x2) (fun y14 => rq (inb y14 156) (rq (inb y14 156) (lt (upd u13 y14.toNatClampNeg ((u13 y14.toNatClampNeg) + (1 : Int32))) (fun u16 => (m_priceOf x2 u16).bind (fun q17 => some (q17, u16))))))))))))))))))))) else some ((0 : Int32), z_said))
set_option maxRecDepth 20000 in
theorem cm_buys {q : Int32 × (Nat → Int32)} {x1 : Int32} {x2 : Int32} (h : m_buys x1 x2 z_said = some q) : rMet l D Z (ty7 K) Mm_buys [.ref (ad 0), .int x1, .int x2] (wM K ad z_tape z_taped z_rules z_sign z_length z_clause z_clauses z_read z_next z_wrong z_number z_text z_made z_deep z_lines z_open z_opened z_stack z_top z_word z_said z_force z_x z_absent z_isRaining z_wasSaid z_undone z_kept z_order z_bestOrder z_hasBy z_wealthThen z_isFit z_tillThen z_drawX z_images z_imageForce z_imageX z_isMade) (wM K ad z_tape z_taped z_rules z_sign z_length z_clause z_clauses z_read z_next z_wrong z_number z_text z_made z_deep z_lines z_open z_opened z_stack z_top z_word q.2 z_force z_x z_absent z_isRaining z_wasSaid z_undone z_kept z_order z_bestOrder z_hasBy z_wealthThen z_isFit z_tillThen z_drawX z_images z_imageForce z_imageX z_isMade) (some (.int q.1)) := by
  refine rMet.of (by decide) rfl (Nat.le_of_ble_eq_true rfl) ?_
  refine r_sub (lv' := [(0, .ref (ad 0)), (1, .int x1), (2, .int x2)]) [0, 1, 2] rfl ?_
  unfold m_buys at h
  refine r_iload_n 2 dX12_buys_0 rfl ?_
  refine r_if_ge 6 dX12_buys_1 (by decide) (fun c1 => ?_) (fun c1 => ?_)
  · replace h := it_pos c1 h
    refine r_aload_n 0 dX12_buys_6 rfl ?_
    refine gM_said rfl dX12_buys_7 ?_
    refine r_bipush (x := (11 : Int32)) dX12_buys_10 (by decide) ?_
    refine r_iconst (x := (4 : Int32)) dX12_buys_12 (by decide) ?_
    refine r_iload_n 2 dX12_buys_13 rfl ?_
    refine r_imul dX12_buys_14 ?_
    refine r_iadd dX12_buys_15 ?_
    obtain ⟨y2, e2, h⟩ := lt_some h
    refine r_top e2 ?_
    refine r_dup2 dX12_buys_16 rfl rfl ?_
    obtain ⟨h3, h⟩ := rq_some h
    refine lM_said (inb_in h3) dX12_buys_17 ?_
    refine r_iconst (x := (1 : Int32)) dX12_buys_18 (by decide) ?_
    refine r_isub dX12_buys_19 ?_
    obtain ⟨h4, h⟩ := rq_some h
    obtain ⟨u4, e4, h⟩ := lt_some h
    refine sM_said e4 (inb_in h4) dX12_buys_20 ?_
    refine r_aload_n 0 dX12_buys_21 rfl ?_
    refine gM_said rfl dX12_buys_22 ?_
    refine r_bipush (x := (47 : Int32)) dX12_buys_25 (by decide) ?_
    refine r_iload_n 1 dX12_buys_27 rfl ?_
    refine r_iadd dX12_buys_28 ?_
    obtain ⟨y5, e5, h⟩ := lt_some h
    refine r_top e5 ?_
    refine r_dup2 dX12_buys_29 rfl rfl ?_
    obtain ⟨h6, h⟩ := rq_some h
    refine lM_said (inb_in h6) dX12_buys_30 ?_
    refine r_aload_n 0 dX12_buys_31 rfl ?_
    refine r_iload_n 2 dX12_buys_32 rfl ?_
    obtain ⟨q7, h7, h⟩ := bd_some h
    refine cvM (st := [.int (u4 y5.toNatClampNeg), .int y5, .ref (ad 10)]) (cm_priceOf h7) rfl rfl (Nat.le_of_ble_eq_true rfl) km_priceOf (tb_in (i := 24) (j := 7) rfl rfl) (by decide) rfl dX12_buys_33 ?_
    refine r_isub dX12_buys_36 ?_
    obtain ⟨h8, h⟩ := rq_some h
    obtain ⟨u8, e8, h⟩ := lt_some h
    refine sM_said e8 (inb_in h8) dX12_buys_37 ?_
    refine r_aload_n 0 dX12_buys_38 rfl ?_
    refine gM_said rfl dX12_buys_39 ?_
    refine r_bipush (x := (11 : Int32)) dX12_buys_42 (by decide) ?_
    refine r_iconst (x := (4 : Int32)) dX12_buys_44 (by decide) ?_
    refine r_aload_n 0 dX12_buys_45 rfl ?_
    refine r_iload_n 2 dX12_buys_46 rfl ?_
    obtain ⟨q9, h9, h⟩ := bd_some h
    refine cvM (st := [.int (4 : Int32), .int (11 : Int32), .ref (ad 10)]) (cm_sellerOf h9) rfl rfl (Nat.le_of_ble_eq_true rfl) km_sellerOf (tb_in (i := 23) (j := 29) rfl rfl) (by decide) rfl dX12_buys_47 ?_
    refine r_imul dX12_buys_50 ?_
    refine r_iadd dX12_buys_51 ?_
    refine r_iconst (x := (2 : Int32)) dX12_buys_52 (by decide) ?_
    refine r_iadd dX12_buys_53 ?_
    obtain ⟨y10, e10, h⟩ := lt_some h
    refine r_top e10 ?_
    refine r_dup2 dX12_buys_54 rfl rfl ?_
    obtain ⟨h11, h⟩ := rq_some h
    refine lM_said (inb_in h11) dX12_buys_55 ?_
    refine r_aload_n 0 dX12_buys_56 rfl ?_
    refine r_iload_n 2 dX12_buys_57 rfl ?_
    obtain ⟨q12, h12, h⟩ := bd_some h
    refine cvM (st := [.int (u8 y10.toNatClampNeg), .int y10, .ref (ad 10)]) (cm_priceOf h12) rfl rfl (Nat.le_of_ble_eq_true rfl) km_priceOf (tb_in (i := 24) (j := 7) rfl rfl) (by decide) rfl dX12_buys_58 ?_
    refine r_iadd dX12_buys_61 ?_
    obtain ⟨h13, h⟩ := rq_some h
    obtain ⟨u13, e13, h⟩ := lt_some h
    refine sM_said e13 (inb_in h13) dX12_buys_62 ?_
    refine r_aload_n 0 dX12_buys_63 rfl ?_
    refine gM_said rfl dX12_buys_64 ?_
    refine r_bipush (x := (53 : Int32)) dX12_buys_67 (by decide) ?_
    refine r_bipush (x := (6 : Int32)) dX12_buys_69 (by decide) ?_
    refine r_iload_n 1 dX12_buys_71 rfl ?_
    refine r_imul dX12_buys_72 ?_
    refine r_iadd dX12_buys_73 ?_
    refine r_iload_n 2 dX12_buys_74 rfl ?_
    refine r_iadd dX12_buys_75 ?_
    obtain ⟨y14, e14, h⟩ := lt_some h
    refine r_top e14 ?_
    refine r_dup2 dX12_buys_76 rfl rfl ?_
    obtain ⟨h15, h⟩ := rq_some h
    refine lM_said (inb_in h15) dX12_buys_77 ?_
    refine r_iconst (x := (1 : Int32)) dX12_buys_78 (by decide) ?_
    refine r_iadd dX12_buys_79 ?_
    obtain ⟨h16, h⟩ := rq_some h
    obtain ⟨u16, e16, h⟩ := lt_some h
    refine sM_said e16 (inb_in h16) dX12_buys_80 ?_
    refine r_aload_n 0 dX12_buys_81 rfl ?_
    refine r_iload_n 2 dX12_buys_82 rfl ?_
    obtain ⟨q17, h17, h⟩ := bd_some h
    refine cvM (st := []) (cm_priceOf h17) rfl rfl (Nat.le_of_ble_eq_true rfl) km_priceOf (tb_in (i := 24) (j := 7) rfl rfl) (by decide) rfl dX12_buys_83 ?_
    have hq := Option.some.inj h
    subst hq
    exact r_iret rfl dX12_buys_86
  · replace h := it_neg c1 h
    refine r_iconst (x := (0 : Int32)) dX12_buys_4 (by decide) ?_
    have hq := Option.some.inj h
    subst hq
    exact r_iret rfl dX12_buys_5
theorem dX12_handsOn_0 : decode cX12_handsOn 0 = .ok (.iconst 0, 1) := by decide +kernel
theorem dX12_handsOn_1 : decode cX12_handsOn 1 = .ok (.istore_n 1, 1) := by decide +kernel
theorem dX12_handsOn_2 : decode cX12_handsOn 2 = .ok (.iload_n 1, 1) := by decide +kernel
theorem dX12_handsOn_3 : decode cX12_handsOn 3 = .ok (.aload_n 0, 1) := by decide +kernel
theorem dX12_handsOn_4 : decode cX12_handsOn 4 = .ok (.getfield 39, 3) := by decide +kernel
theorem dX12_handsOn_7 : decode cX12_handsOn 7 = .ok (.iconst 3, 1) := by decide +kernel
theorem dX12_handsOn_8 : decode cX12_handsOn 8 = .ok (.iaload, 1) := by decide +kernel
theorem dX12_handsOn_9 : decode cX12_handsOn 9 = .ok (.if_icmp .ge 84, 3) := by decide +kernel
theorem dX12_handsOn_12 : decode cX12_handsOn 12 = .ok (.aload_n 0, 1) := by decide +kernel
theorem dX12_handsOn_13 : decode cX12_handsOn 13 = .ok (.iload_n 1, 1) := by decide +kernel
theorem dX12_handsOn_14 : decode cX12_handsOn 14 = .ok (.invokevirtual 343, 3) := by decide +kernel
theorem dX12_handsOn_17 : decode cX12_handsOn 17 = .ok (.aload_n 0, 1) := by decide +kernel
theorem dX12_handsOn_18 : decode cX12_handsOn 18 = .ok (.getfield 39, 3) := by decide +kernel
theorem dX12_handsOn_21 : decode cX12_handsOn 21 = .ok (.iconst 2, 1) := by decide +kernel
theorem dX12_handsOn_22 : decode cX12_handsOn 22 = .ok (.iaload, 1) := by decide +kernel
theorem dX12_handsOn_23 : decode cX12_handsOn 23 = .ok (.imul, 1) := by decide +kernel
theorem dX12_handsOn_24 : decode cX12_handsOn 24 = .ok (.bipush 10, 2) := by decide +kernel
theorem dX12_handsOn_26 : decode cX12_handsOn 26 = .ok (.idiv, 1) := by decide +kernel
theorem dX12_handsOn_27 : decode cX12_handsOn 27 = .ok (.istore_n 2, 1) := by decide +kernel
theorem dX12_handsOn_28 : decode cX12_handsOn 28 = .ok (.aload_n 0, 1) := by decide +kernel
theorem dX12_handsOn_29 : decode cX12_handsOn 29 = .ok (.getfield 39, 3) := by decide +kernel
theorem dX12_handsOn_32 : decode cX12_handsOn 32 = .ok (.bipush 11, 2) := by decide +kernel
theorem dX12_handsOn_34 : decode cX12_handsOn 34 = .ok (.iconst 4, 1) := by decide +kernel
theorem dX12_handsOn_35 : decode cX12_handsOn 35 = .ok (.iload_n 1, 1) := by decide +kernel
theorem dX12_handsOn_36 : decode cX12_handsOn 36 = .ok (.imul, 1) := by decide +kernel
theorem dX12_handsOn_37 : decode cX12_handsOn 37 = .ok (.iadd, 1) := by decide +kernel
theorem dX12_handsOn_38 : decode cX12_handsOn 38 = .ok (.iconst 3, 1) := by decide +kernel
theorem dX12_handsOn_39 : decode cX12_handsOn 39 = .ok (.iadd, 1) := by decide +kernel
theorem dX12_handsOn_40 : decode cX12_handsOn 40 = .ok (.dup2, 1) := by decide +kernel
theorem dX12_handsOn_41 : decode cX12_handsOn 41 = .ok (.iaload, 1) := by decide +kernel
theorem dX12_handsOn_42 : decode cX12_handsOn 42 = .ok (.iload_n 2, 1) := by decide +kernel
theorem dX12_handsOn_43 : decode cX12_handsOn 43 = .ok (.iadd, 1) := by decide +kernel
theorem dX12_handsOn_44 : decode cX12_handsOn 44 = .ok (.iastore, 1) := by decide +kernel
theorem dX12_handsOn_45 : decode cX12_handsOn 45 = .ok (.aload_n 0, 1) := by decide +kernel
theorem dX12_handsOn_46 : decode cX12_handsOn 46 = .ok (.getfield 39, 3) := by decide +kernel
theorem dX12_handsOn_49 : decode cX12_handsOn 49 = .ok (.bipush 11, 2) := by decide +kernel
theorem dX12_handsOn_51 : decode cX12_handsOn 51 = .ok (.iconst 4, 1) := by decide +kernel
theorem dX12_handsOn_52 : decode cX12_handsOn 52 = .ok (.aload_n 0, 1) := by decide +kernel
theorem dX12_handsOn_53 : decode cX12_handsOn 53 = .ok (.iload_n 1, 1) := by decide +kernel
theorem dX12_handsOn_54 : decode cX12_handsOn 54 = .ok (.iconst 1, 1) := by decide +kernel
theorem dX12_handsOn_55 : decode cX12_handsOn 55 = .ok (.invokevirtual 289, 3) := by decide +kernel
theorem dX12_handsOn_58 : decode cX12_handsOn 58 = .ok (.imul, 1) := by decide +kernel
theorem dX12_handsOn_59 : decode cX12_handsOn 59 = .ok (.iadd, 1) := by decide +kernel
theorem dX12_handsOn_60 : decode cX12_handsOn 60 = .ok (.iconst 3, 1) := by decide +kernel
theorem dX12_handsOn_61 : decode cX12_handsOn 61 = .ok (.iadd, 1) := by decide +kernel
theorem dX12_handsOn_62 : decode cX12_handsOn 62 = .ok (.dup2, 1) := by decide +kernel
theorem dX12_handsOn_63 : decode cX12_handsOn 63 = .ok (.iaload, 1) := by decide +kernel
theorem dX12_handsOn_64 : decode cX12_handsOn 64 = .ok (.aload_n 0, 1) := by decide +kernel
theorem dX12_handsOn_65 : decode cX12_handsOn 65 = .ok (.iload_n 1, 1) := by decide +kernel
theorem dX12_handsOn_66 : decode cX12_handsOn 66 = .ok (.invokevirtual 343, 3) := by decide +kernel
theorem dX12_handsOn_69 : decode cX12_handsOn 69 = .ok (.iload_n 2, 1) := by decide +kernel
theorem dX12_handsOn_70 : decode cX12_handsOn 70 = .ok (.isub, 1) := by decide +kernel
theorem dX12_handsOn_71 : decode cX12_handsOn 71 = .ok (.iadd, 1) := by decide +kernel
theorem dX12_handsOn_72 : decode cX12_handsOn 72 = .ok (.iastore, 1) := by decide +kernel
theorem dX12_handsOn_73 : decode cX12_handsOn 73 = .ok (.aload_n 0, 1) := by decide +kernel
theorem dX12_handsOn_74 : decode cX12_handsOn 74 = .ok (.getfield 39, 3) := by decide +kernel
theorem dX12_handsOn_77 : decode cX12_handsOn 77 = .ok (.bipush 11, 2) := by decide +kernel
theorem dX12_handsOn_79 : decode cX12_handsOn 79 = .ok (.iconst 4, 1) := by decide +kernel
theorem dX12_handsOn_80 : decode cX12_handsOn 80 = .ok (.iload_n 1, 1) := by decide +kernel
theorem dX12_handsOn_81 : decode cX12_handsOn 81 = .ok (.imul, 1) := by decide +kernel
theorem dX12_handsOn_82 : decode cX12_handsOn 82 = .ok (.iadd, 1) := by decide +kernel
theorem dX12_handsOn_83 : decode cX12_handsOn 83 = .ok (.iconst 2, 1) := by decide +kernel
theorem dX12_handsOn_84 : decode cX12_handsOn 84 = .ok (.iadd, 1) := by decide +kernel
theorem dX12_handsOn_85 : decode cX12_handsOn 85 = .ok (.iconst 0, 1) := by decide +kernel
theorem dX12_handsOn_86 : decode cX12_handsOn 86 = .ok (.iastore, 1) := by decide +kernel
theorem dX12_handsOn_87 : decode cX12_handsOn 87 = .ok (.iinc 1 1, 3) := by decide +kernel
theorem dX12_handsOn_90 : decode cX12_handsOn 90 = .ok (.goto (-88), 3) := by decide +kernel
theorem dX12_handsOn_93 : decode cX12_handsOn 93 = .ok (.return_, 1) := by decide +kernel
abbrev Mm_handsOn : rx_M := (RX12, yX12_handsOn, cX12_handsOn, 3, none, 3)
theorem km_handsOn : rKv Mm_handsOn 0 := ⟨tb_in (i := 25) (j := 25) rfl rfl, tb_in (i := 25) (j := 26) rfl rfl, tb_in (i := 17) (j := 21) rfl rfl, tb_in (i := 25) (j := 14) rfl rfl, ⟨by decide, by decide, by decide +kernel⟩, by decide⟩
def m_handsOn_l2  : Nat → Int32 → (Nat → Int32) → Option ((Nat → Int32))
  | 0, _, _ => none
  | n + 1, x1, z_said => rq (inb (3 : Int32) 156) ((if (z_said (3 : Int32).toNatClampNeg) ≤ x1 then some (z_said) else (m_tillOf x1 z_said).bind (fun q3 => rq (inb (2 : Int32) 156) (lt ((q3 * (z_said (2 : Int32).toNatClampNeg)) / (10 : Int32)) (fun y5 => lt (((11 : Int32) + ((4 : Int32) * x1)) + (3 : Int32)) (fun y6 => rq (inb y6 156) (rq (inb y6 156) (lt (upd z_said y6.toNatClampNeg ((z_said y6.toNatClampNeg) + y5)) (fun u8 => (m_besideOf x1 (1 : Int32) u8).bind (fun q9 => lt (((11 : Int32) + ((4 : Int32) * q9)) + (3 : Int32)) (fun y10 => rq (inb y10 156) ((m_tillOf x1 u8).bind (fun q12 => rq (inb y10 156) (lt (upd u8 y10.toNatClampNeg ((u8 y10.toNatClampNeg) + (q12 - y5))) (fun u13 => rq (inb (((11 : Int32) + ((4 : Int32) * x1)) + (2 : Int32)) 156) (lt (upd u13 (((11 : Int32) + ((4 : Int32) * x1)) + (2 : Int32)).toNatClampNeg (0 : Int32)) (fun u14 => m_handsOn_l2 n (x1 + (1 : Int32)) u14)))))))))))))))))
set_option maxRecDepth 20000 in
theorem cm_handsOn_l2 {q : (Nat → Int32)}   : ∀ (n : Nat) (x1 : Int32) (z_said : Nat → Int32), m_handsOn_l2 n x1 z_said = some q → rW l D Z (ty7 K) Mm_handsOn 2 [(0, .ref (ad 0)), (1, .int x1)] [] (wM K ad z_tape z_taped z_rules z_sign z_length z_clause z_clauses z_read z_next z_wrong z_number z_text z_made z_deep z_lines z_open z_opened z_stack z_top z_word z_said z_force z_x z_absent z_isRaining z_wasSaid z_undone z_kept z_order z_bestOrder z_hasBy z_wealthThen z_isFit z_tillThen z_drawX z_images z_imageForce z_imageX z_isMade) (wM K ad z_tape z_taped z_rules z_sign z_length z_clause z_clauses z_read z_next z_wrong z_number z_text z_made z_deep z_lines z_open z_opened z_stack z_top z_word q z_force z_x z_absent z_isRaining z_wasSaid z_undone z_kept z_order z_bestOrder z_hasBy z_wealthThen z_isFit z_tillThen z_drawX z_images z_imageForce z_imageX z_isMade) none := by
  intro n
  induction n with
  | zero => intro x1 z_said h; unfold m_handsOn_l2 at h; cases h
  | succ n ih =>
    intro x1 z_said h
    unfold m_handsOn_l2 at h
    refine r_iload_n 1 dX12_handsOn_2 rfl ?_
    refine r_aload_n 0 dX12_handsOn_3 rfl ?_
    refine gM_said rfl dX12_handsOn_4 ?_
    refine r_iconst (x := (3 : Int32)) dX12_handsOn_7 (by decide) ?_
    obtain ⟨h1, h⟩ := rq_some h
    refine lM_said (inb_in h1) dX12_handsOn_8 ?_
    refine r_icmp_ge 93 dX12_handsOn_9 (by decide) (fun c2 => ?_) (fun c2 => ?_)
    · replace h := it_pos c2 h
      have hq := Option.some.inj h
      subst hq
      exact r_vret rfl dX12_handsOn_93
    · replace h := it_neg c2 h
      refine r_aload_n 0 dX12_handsOn_12 rfl ?_
      refine r_iload_n 1 dX12_handsOn_13 rfl ?_
      obtain ⟨q3, h3, h⟩ := bd_some h
      refine cvM (st := []) (cm_tillOf h3) rfl rfl (Nat.le_of_ble_eq_true rfl) km_tillOf (tb_in (i := 25) (j := 15) rfl rfl) (by decide) rfl dX12_handsOn_14 ?_
      refine r_aload_n 0 dX12_handsOn_17 rfl ?_
      refine gM_said rfl dX12_handsOn_18 ?_
      refine r_iconst (x := (2 : Int32)) dX12_handsOn_21 (by decide) ?_
      obtain ⟨h4, h⟩ := rq_some h
      refine lM_said (inb_in h4) dX12_handsOn_22 ?_
      refine r_imul dX12_handsOn_23 ?_
      refine r_bipush (x := (10 : Int32)) dX12_handsOn_24 (by decide) ?_
      refine r_idiv dX12_handsOn_26 (by decide) ?_
      obtain ⟨y5, e5, h⟩ := lt_some h
      refine r_top e5 ?_
      refine r_istore_n (lv' := [(2, .int y5), (0, .ref (ad 0)), (1, .int x1)]) dX12_handsOn_27 (by decide) rfl ?_
      refine r_aload_n 1 dX12_handsOn_28 rfl ?_
      refine gM_said rfl dX12_handsOn_29 ?_
      refine r_bipush (x := (11 : Int32)) dX12_handsOn_32 (by decide) ?_
      refine r_iconst (x := (4 : Int32)) dX12_handsOn_34 (by decide) ?_
      refine r_iload_n 2 dX12_handsOn_35 rfl ?_
      refine r_imul dX12_handsOn_36 ?_
      refine r_iadd dX12_handsOn_37 ?_
      refine r_iconst (x := (3 : Int32)) dX12_handsOn_38 (by decide) ?_
      refine r_iadd dX12_handsOn_39 ?_
      obtain ⟨y6, e6, h⟩ := lt_some h
      refine r_top e6 ?_
      refine r_dup2 dX12_handsOn_40 rfl rfl ?_
      obtain ⟨h7, h⟩ := rq_some h
      refine lM_said (inb_in h7) dX12_handsOn_41 ?_
      refine r_iload_n 0 dX12_handsOn_42 rfl ?_
      refine r_iadd dX12_handsOn_43 ?_
      obtain ⟨h8, h⟩ := rq_some h
      obtain ⟨u8, e8, h⟩ := lt_some h
      refine sM_said e8 (inb_in h8) dX12_handsOn_44 ?_
      refine r_aload_n 1 dX12_handsOn_45 rfl ?_
      refine gM_said rfl dX12_handsOn_46 ?_
      refine r_bipush (x := (11 : Int32)) dX12_handsOn_49 (by decide) ?_
      refine r_iconst (x := (4 : Int32)) dX12_handsOn_51 (by decide) ?_
      refine r_aload_n 1 dX12_handsOn_52 rfl ?_
      refine r_iload_n 2 dX12_handsOn_53 rfl ?_
      refine r_iconst (x := (1 : Int32)) dX12_handsOn_54 (by decide) ?_
      obtain ⟨q9, h9, h⟩ := bd_some h
      refine cvM (st := [.int (4 : Int32), .int (11 : Int32), .ref (ad 10)]) (cm_besideOf h9) rfl rfl (Nat.le_of_ble_eq_true rfl) km_besideOf (tb_in (i := 23) (j := 22) rfl rfl) (by decide) rfl dX12_handsOn_55 ?_
      refine r_imul dX12_handsOn_58 ?_
      refine r_iadd dX12_handsOn_59 ?_
      refine r_iconst (x := (3 : Int32)) dX12_handsOn_60 (by decide) ?_
      refine r_iadd dX12_handsOn_61 ?_
      obtain ⟨y10, e10, h⟩ := lt_some h
      refine r_top e10 ?_
      refine r_dup2 dX12_handsOn_62 rfl rfl ?_
      obtain ⟨h11, h⟩ := rq_some h
      refine lM_said (inb_in h11) dX12_handsOn_63 ?_
      refine r_aload_n 1 dX12_handsOn_64 rfl ?_
      refine r_iload_n 2 dX12_handsOn_65 rfl ?_
      obtain ⟨q12, h12, h⟩ := bd_some h
      refine cvM (st := [.int (u8 y10.toNatClampNeg), .int y10, .ref (ad 10)]) (cm_tillOf h12) rfl rfl (Nat.le_of_ble_eq_true rfl) km_tillOf (tb_in (i := 25) (j := 15) rfl rfl) (by decide) rfl dX12_handsOn_66 ?_
      refine r_iload_n 0 dX12_handsOn_69 rfl ?_
      refine r_isub dX12_handsOn_70 ?_
      refine r_iadd dX12_handsOn_71 ?_
      obtain ⟨h13, h⟩ := rq_some h
      obtain ⟨u13, e13, h⟩ := lt_some h
      refine sM_said e13 (inb_in h13) dX12_handsOn_72 ?_
      refine r_aload_n 1 dX12_handsOn_73 rfl ?_
      refine gM_said rfl dX12_handsOn_74 ?_
      refine r_bipush (x := (11 : Int32)) dX12_handsOn_77 (by decide) ?_
      refine r_iconst (x := (4 : Int32)) dX12_handsOn_79 (by decide) ?_
      refine r_iload_n 2 dX12_handsOn_80 rfl ?_
      refine r_imul dX12_handsOn_81 ?_
      refine r_iadd dX12_handsOn_82 ?_
      refine r_iconst (x := (2 : Int32)) dX12_handsOn_83 (by decide) ?_
      refine r_iadd dX12_handsOn_84 ?_
      refine r_iconst (x := (0 : Int32)) dX12_handsOn_85 (by decide) ?_
      obtain ⟨h14, h⟩ := rq_some h
      obtain ⟨u14, e14, h⟩ := lt_some h
      refine sM_said e14 (inb_in h14) dX12_handsOn_86 ?_
      refine r_iinc (y := (x1 + (1 : Int32))) (lv' := [(1, .int (x1 + (1 : Int32))), (2, .int y5), (0, .ref (ad 0))]) 2 dX12_handsOn_87 rfl rfl (by decide) rfl ?_
      refine r_goto 2 dX12_handsOn_90 (by decide) ?_
      refine r_sub (lv' := [(0, .ref (ad 0)), (1, .int (x1 + (1 : Int32)))]) [2, 0] rfl ?_
      exact ih _ _ h
def m_handsOn (z_said : Nat → Int32) : Option ((Nat → Int32)) := m_handsOn_l2 FU (0 : Int32) z_said
set_option maxRecDepth 20000 in
theorem cm_handsOn {q : (Nat → Int32)}  (h : m_handsOn z_said = some q) : rMet l D Z (ty7 K) Mm_handsOn [.ref (ad 0)] (wM K ad z_tape z_taped z_rules z_sign z_length z_clause z_clauses z_read z_next z_wrong z_number z_text z_made z_deep z_lines z_open z_opened z_stack z_top z_word z_said z_force z_x z_absent z_isRaining z_wasSaid z_undone z_kept z_order z_bestOrder z_hasBy z_wealthThen z_isFit z_tillThen z_drawX z_images z_imageForce z_imageX z_isMade) (wM K ad z_tape z_taped z_rules z_sign z_length z_clause z_clauses z_read z_next z_wrong z_number z_text z_made z_deep z_lines z_open z_opened z_stack z_top z_word q z_force z_x z_absent z_isRaining z_wasSaid z_undone z_kept z_order z_bestOrder z_hasBy z_wealthThen z_isFit z_tillThen z_drawX z_images z_imageForce z_imageX z_isMade) none := by
  refine rMet.of (by decide) rfl (Nat.le_of_ble_eq_true rfl) ?_
  refine r_sub (lv' := [(0, .ref (ad 0))]) [0] rfl ?_
  unfold m_handsOn at h
  refine r_iconst (x := (0 : Int32)) dX12_handsOn_0 (by decide) ?_
  refine r_istore_n (lv' := [(1, .int (0 : Int32)), (0, .ref (ad 0))]) dX12_handsOn_1 (by decide) rfl ?_
  refine r_sub (lv' := [(0, .ref (ad 0)), (1, .int (0 : Int32))]) [1, 0] rfl ?_
  exact cm_handsOn_l2  FU _ _ h
theorem dX12_passes_0 : decode cX12_passes 0 = .ok (.iconst 0, 1) := by decide +kernel
theorem dX12_passes_1 : decode cX12_passes 1 = .ok (.istore_n 1, 1) := by decide +kernel
theorem dX12_passes_2 : decode cX12_passes 2 = .ok (.iconst 0, 1) := by decide +kernel
theorem dX12_passes_3 : decode cX12_passes 3 = .ok (.istore_n 2, 1) := by decide +kernel
theorem dX12_passes_4 : decode cX12_passes 4 = .ok (.iload_n 2, 1) := by decide +kernel
theorem dX12_passes_5 : decode cX12_passes 5 = .ok (.aload_n 0, 1) := by decide +kernel
theorem dX12_passes_6 : decode cX12_passes 6 = .ok (.getfield 39, 3) := by decide +kernel
theorem dX12_passes_9 : decode cX12_passes 9 = .ok (.iconst 4, 1) := by decide +kernel
theorem dX12_passes_10 : decode cX12_passes 10 = .ok (.iaload, 1) := by decide +kernel
theorem dX12_passes_11 : decode cX12_passes 11 = .ok (.if_icmp .ge 22, 3) := by decide +kernel
theorem dX12_passes_14 : decode cX12_passes 14 = .ok (.iload_n 1, 1) := by decide +kernel
theorem dX12_passes_15 : decode cX12_passes 15 = .ok (.aload_n 0, 1) := by decide +kernel
theorem dX12_passes_16 : decode cX12_passes 16 = .ok (.iload_n 2, 1) := by decide +kernel
theorem dX12_passes_17 : decode cX12_passes 17 = .ok (.aload_n 0, 1) := by decide +kernel
theorem dX12_passes_18 : decode cX12_passes 18 = .ok (.iload_n 2, 1) := by decide +kernel
theorem dX12_passes_19 : decode cX12_passes 19 = .ok (.invokevirtual 346, 3) := by decide +kernel
theorem dX12_passes_22 : decode cX12_passes 22 = .ok (.invokevirtual 349, 3) := by decide +kernel
theorem dX12_passes_25 : decode cX12_passes 25 = .ok (.iadd, 1) := by decide +kernel
theorem dX12_passes_26 : decode cX12_passes 26 = .ok (.istore_n 1, 1) := by decide +kernel
theorem dX12_passes_27 : decode cX12_passes 27 = .ok (.iinc 2 1, 3) := by decide +kernel
theorem dX12_passes_30 : decode cX12_passes 30 = .ok (.goto (-26), 3) := by decide +kernel
theorem dX12_passes_33 : decode cX12_passes 33 = .ok (.aload_n 0, 1) := by decide +kernel
theorem dX12_passes_34 : decode cX12_passes 34 = .ok (.getfield 39, 3) := by decide +kernel
theorem dX12_passes_37 : decode cX12_passes 37 = .ok (.bipush 10, 2) := by decide +kernel
theorem dX12_passes_39 : decode cX12_passes 39 = .ok (.iaload, 1) := by decide +kernel
theorem dX12_passes_40 : decode cX12_passes 40 = .ok (.aload_n 0, 1) := by decide +kernel
theorem dX12_passes_41 : decode cX12_passes 41 = .ok (.getfield 39, 3) := by decide +kernel
theorem dX12_passes_44 : decode cX12_passes 44 = .ok (.iconst 1, 1) := by decide +kernel
theorem dX12_passes_45 : decode cX12_passes 45 = .ok (.iaload, 1) := by decide +kernel
theorem dX12_passes_46 : decode cX12_passes 46 = .ok (.irem, 1) := by decide +kernel
theorem dX12_passes_47 : decode cX12_passes 47 = .ok (.aload_n 0, 1) := by decide +kernel
theorem dX12_passes_48 : decode cX12_passes 48 = .ok (.getfield 39, 3) := by decide +kernel
theorem dX12_passes_51 : decode cX12_passes 51 = .ok (.iconst 1, 1) := by decide +kernel
theorem dX12_passes_52 : decode cX12_passes 52 = .ok (.iaload, 1) := by decide +kernel
theorem dX12_passes_53 : decode cX12_passes 53 = .ok (.iconst 1, 1) := by decide +kernel
theorem dX12_passes_54 : decode cX12_passes 54 = .ok (.isub, 1) := by decide +kernel
theorem dX12_passes_55 : decode cX12_passes 55 = .ok (.if_icmp .ne 7, 3) := by decide +kernel
theorem dX12_passes_58 : decode cX12_passes 58 = .ok (.aload_n 0, 1) := by decide +kernel
theorem dX12_passes_59 : decode cX12_passes 59 = .ok (.invokevirtual 352, 3) := by decide +kernel
theorem dX12_passes_62 : decode cX12_passes 62 = .ok (.aload_n 0, 1) := by decide +kernel
theorem dX12_passes_63 : decode cX12_passes 63 = .ok (.iconst 0, 1) := by decide +kernel
theorem dX12_passes_64 : decode cX12_passes 64 = .ok (.putfield 335, 3) := by decide +kernel
theorem dX12_passes_67 : decode cX12_passes 67 = .ok (.aload_n 0, 1) := by decide +kernel
theorem dX12_passes_68 : decode cX12_passes 68 = .ok (.getfield 39, 3) := by decide +kernel
theorem dX12_passes_71 : decode cX12_passes 71 = .ok (.bipush 10, 2) := by decide +kernel
theorem dX12_passes_73 : decode cX12_passes 73 = .ok (.dup2, 1) := by decide +kernel
theorem dX12_passes_74 : decode cX12_passes 74 = .ok (.iaload, 1) := by decide +kernel
theorem dX12_passes_75 : decode cX12_passes 75 = .ok (.iconst 1, 1) := by decide +kernel
theorem dX12_passes_76 : decode cX12_passes 76 = .ok (.iadd, 1) := by decide +kernel
theorem dX12_passes_77 : decode cX12_passes 77 = .ok (.iastore, 1) := by decide +kernel
theorem dX12_passes_78 : decode cX12_passes 78 = .ok (.iload_n 1, 1) := by decide +kernel
theorem dX12_passes_79 : decode cX12_passes 79 = .ok (.ireturn, 1) := by decide +kernel
abbrev Mm_passes : rx_M := (RX12, yX12_passes, cX12_passes, 3, (some .int), 7)
theorem km_passes : rKv Mm_passes 0 := ⟨tb_in (i := 25) (j := 29) rfl rfl, tb_in (i := 25) (j := 30) rfl rfl, tb_in (i := 17) (j := 21) rfl rfl, tb_in (i := 25) (j := 27) rfl rfl, ⟨by decide, by decide, by decide +kernel⟩, by decide⟩
def m_passes_l4 (z_sign : Nat → Int32) (z_clause : Nat → Int32) (z_clauses : Nat → Int32) (z_force : Int32) (z_absent : Int32) (z_isRaining : Int32) : Nat → Int32 → Int32 → (Nat → Int64) → Int32 → (Nat → Int64) → (Nat → Int32) → Option (Int32 × (Nat → Int64) × Int32 × (Nat → Int64) × (Nat → Int32) × Int32)
  | 0, _, _, _, _, _, _ => none
  | n + 1, x1, x2, z_stack, z_top, z_word, z_said => rq (inb (4 : Int32) 156) ((if (z_said (4 : Int32).toNatClampNeg) ≤ x2 then rq (inb (10 : Int32) 156) (rq (inb (1 : Int32) 156) (rq (decide (¬ (z_said (1 : Int32).toNatClampNeg) = 0)) (rq (inb (1 : Int32) 156) ((if ((z_said (10 : Int32).toNatClampNeg) - (z_said (10 : Int32).toNatClampNeg) / (z_said (1 : Int32).toNatClampNeg) * (z_said (1 : Int32).toNatClampNeg)) = ((z_said (1 : Int32).toNatClampNeg) - (1 : Int32)) then (m_handsOn z_said).bind (fun q10 => rq (inb (10 : Int32) 156) (rq (inb (10 : Int32) 156) (lt (upd q10 (10 : Int32).toNatClampNeg ((q10 (10 : Int32).toNatClampNeg) + (1 : Int32))) (fun u12 => some (x1, z_stack, z_top, z_word, u12, (0 : Int32)))))) else rq (inb (10 : Int32) 156) (rq (inb (10 : Int32) 156) (lt (upd z_said (10 : Int32).toNatClampNeg ((z_said (10 : Int32).toNatClampNeg) + (1 : Int32))) (fun u9 => some (x1, z_stack, z_top, z_word, u9, (0 : Int32)))))))))) else (m_choice x2 z_sign z_clause z_clauses z_stack z_top z_word z_said z_force z_absent z_isRaining).bind (fun q13 => (m_buys x2 q13.1 z_said).bind (fun q14 => lt (x1 + q14.1) (fun y15 => m_passes_l4 z_sign z_clause z_clauses z_force z_absent z_isRaining n y15 (x2 + (1 : Int32)) q13.2.1 q13.2.2.1 q13.2.2.2 q14.2)))))
set_option maxRecDepth 20000 in
theorem cm_passes_l4 {q : Int32 × (Nat → Int64) × Int32 × (Nat → Int64) × (Nat → Int32) × Int32}   : ∀ (n : Nat) (x1 : Int32) (x2 : Int32) (z_stack : Nat → Int64) (z_top : Int32) (z_word : Nat → Int64) (z_said : Nat → Int32), m_passes_l4 z_sign z_clause z_clauses z_force z_absent z_isRaining n x1 x2 z_stack z_top z_word z_said = some q → rW l D Z (ty7 K) Mm_passes 4 [(0, .ref (ad 0)), (1, .int x1), (2, .int x2)] [] (wM K ad z_tape z_taped z_rules z_sign z_length z_clause z_clauses z_read z_next z_wrong z_number z_text z_made z_deep z_lines z_open z_opened z_stack z_top z_word z_said z_force z_x z_absent z_isRaining z_wasSaid z_undone z_kept z_order z_bestOrder z_hasBy z_wealthThen z_isFit z_tillThen z_drawX z_images z_imageForce z_imageX z_isMade) (wM K ad z_tape z_taped z_rules z_sign z_length z_clause z_clauses z_read z_next z_wrong z_number z_text z_made z_deep z_lines z_open z_opened q.2.1 q.2.2.1 q.2.2.2.1 q.2.2.2.2.1 z_force z_x z_absent q.2.2.2.2.2 z_wasSaid z_undone z_kept z_order z_bestOrder z_hasBy z_wealthThen z_isFit z_tillThen z_drawX z_images z_imageForce z_imageX z_isMade) (some (.int q.1)) := by
  intro n
  induction n with
  | zero => intro x1 x2 z_stack z_top z_word z_said h; unfold m_passes_l4 at h; cases h
  | succ n ih =>
    intro x1 x2 z_stack z_top z_word z_said h
    unfold m_passes_l4 at h
    refine r_iload_n 2 dX12_passes_4 rfl ?_
    refine r_aload_n 0 dX12_passes_5 rfl ?_
    refine gM_said rfl dX12_passes_6 ?_
    refine r_iconst (x := (4 : Int32)) dX12_passes_9 (by decide) ?_
    obtain ⟨h1, h⟩ := rq_some h
    refine lM_said (inb_in h1) dX12_passes_10 ?_
    refine r_icmp_ge 33 dX12_passes_11 (by decide) (fun c2 => ?_) (fun c2 => ?_)
    · replace h := it_pos c2 h
      refine r_aload_n 0 dX12_passes_33 rfl ?_
      refine gM_said rfl dX12_passes_34 ?_
      refine r_bipush (x := (10 : Int32)) dX12_passes_37 (by decide) ?_
      obtain ⟨h3, h⟩ := rq_some h
      refine lM_said (inb_in h3) dX12_passes_39 ?_
      refine r_aload_n 0 dX12_passes_40 rfl ?_
      refine gM_said rfl dX12_passes_41 ?_
      refine r_iconst (x := (1 : Int32)) dX12_passes_44 (by decide) ?_
      obtain ⟨h4, h⟩ := rq_some h
      refine lM_said (inb_in h4) dX12_passes_45 ?_
      obtain ⟨h5, h⟩ := rq_some h
      refine r_irem dX12_passes_46 (of_decide_eq_true h5) ?_
      refine r_aload_n 0 dX12_passes_47 rfl ?_
      refine gM_said rfl dX12_passes_48 ?_
      refine r_iconst (x := (1 : Int32)) dX12_passes_51 (by decide) ?_
      obtain ⟨h6, h⟩ := rq_some h
      refine lM_said (inb_in h6) dX12_passes_52 ?_
      refine r_iconst (x := (1 : Int32)) dX12_passes_53 (by decide) ?_
      refine r_isub dX12_passes_54 ?_
      refine r_icmp_ne 62 dX12_passes_55 (by decide) (fun c7 => ?_) (fun c7 => ?_)
      · replace h := it_neg c7 h
        refine r_aload_n 0 dX12_passes_62 rfl ?_
        refine r_iconst (x := (0 : Int32)) dX12_passes_63 (by decide) ?_
        refine pM_isRaining rfl rfl rfl dX12_passes_64 ?_
        refine r_aload_n 0 dX12_passes_67 rfl ?_
        refine gM_said rfl dX12_passes_68 ?_
        refine r_bipush (x := (10 : Int32)) dX12_passes_71 (by decide) ?_
        refine r_dup2 dX12_passes_73 rfl rfl ?_
        obtain ⟨h8, h⟩ := rq_some h
        refine lM_said (inb_in h8) dX12_passes_74 ?_
        refine r_iconst (x := (1 : Int32)) dX12_passes_75 (by decide) ?_
        refine r_iadd dX12_passes_76 ?_
        obtain ⟨h9, h⟩ := rq_some h
        obtain ⟨u9, e9, h⟩ := lt_some h
        refine sM_said e9 (inb_in h9) dX12_passes_77 ?_
        refine r_iload_n 1 dX12_passes_78 rfl ?_
        have hq := Option.some.inj h
        subst hq
        exact r_iret rfl dX12_passes_79
      · replace h := it_pos c7 h
        refine r_aload_n 0 dX12_passes_58 rfl ?_
        obtain ⟨q10, h10, h⟩ := bd_some h
        refine cvM (st := []) (cm_handsOn h10) rfl rfl (Nat.le_of_ble_eq_true rfl) km_handsOn (tb_in (i := 25) (j := 24) rfl rfl) (by decide) rfl dX12_passes_59 ?_
        refine r_aload_n 0 dX12_passes_62 rfl ?_
        refine r_iconst (x := (0 : Int32)) dX12_passes_63 (by decide) ?_
        refine pM_isRaining rfl rfl rfl dX12_passes_64 ?_
        refine r_aload_n 0 dX12_passes_67 rfl ?_
        refine gM_said rfl dX12_passes_68 ?_
        refine r_bipush (x := (10 : Int32)) dX12_passes_71 (by decide) ?_
        refine r_dup2 dX12_passes_73 rfl rfl ?_
        obtain ⟨h11, h⟩ := rq_some h
        refine lM_said (inb_in h11) dX12_passes_74 ?_
        refine r_iconst (x := (1 : Int32)) dX12_passes_75 (by decide) ?_
        refine r_iadd dX12_passes_76 ?_
        obtain ⟨h12, h⟩ := rq_some h
        obtain ⟨u12, e12, h⟩ := lt_some h
        refine sM_said e12 (inb_in h12) dX12_passes_77 ?_
        refine r_iload_n 1 dX12_passes_78 rfl ?_
        have hq := Option.some.inj h
        subst hq
        exact r_iret rfl dX12_passes_79
    · replace h := it_neg c2 h
      refine r_iload_n 1 dX12_passes_14 rfl ?_
      refine r_aload_n 0 dX12_passes_15 rfl ?_
      refine r_iload_n 2 dX12_passes_16 rfl ?_
      refine r_aload_n 0 dX12_passes_17 rfl ?_
      refine r_iload_n 2 dX12_passes_18 rfl ?_
      obtain ⟨q13, h13, h⟩ := bd_some h
      refine cvM (st := [.int x2, .ref (ad 0), .int x1]) (cm_choice h13) rfl rfl (Nat.le_of_ble_eq_true rfl) km_choice (tb_in (i := 25) (j := 18) rfl rfl) (by decide) rfl dX12_passes_19 ?_
      obtain ⟨q14, h14, h⟩ := bd_some h
      refine cvM (st := [.int x1]) (cm_buys h14) rfl rfl (Nat.le_of_ble_eq_true rfl) km_buys (tb_in (i := 25) (j := 21) rfl rfl) (by decide) rfl dX12_passes_22 ?_
      refine r_iadd dX12_passes_25 ?_
      obtain ⟨y15, e15, h⟩ := lt_some h
      refine r_top e15 ?_
      refine r_istore_n (lv' := [(1, .int y15), (0, .ref (ad 0)), (2, .int x2)]) dX12_passes_26 (by decide) rfl ?_
      refine r_iinc (y := (x2 + (1 : Int32))) (lv' := [(2, .int (x2 + (1 : Int32))), (1, .int y15), (0, .ref (ad 0))]) 2 dX12_passes_27 rfl rfl (by decide) rfl ?_
      refine r_goto 4 dX12_passes_30 (by decide) ?_
      refine r_sub (lv' := [(0, .ref (ad 0)), (1, .int y15), (2, .int (x2 + (1 : Int32)))]) [2, 1, 0] rfl ?_
      exact ih _ _ _ _ _ _ h
def m_passes (z_sign : Nat → Int32) (z_clause : Nat → Int32) (z_clauses : Nat → Int32) (z_stack : Nat → Int64) (z_top : Int32) (z_word : Nat → Int64) (z_said : Nat → Int32) (z_force : Int32) (z_absent : Int32) (z_isRaining : Int32) : Option (Int32 × (Nat → Int64) × Int32 × (Nat → Int64) × (Nat → Int32) × Int32) := m_passes_l4 z_sign z_clause z_clauses z_force z_absent z_isRaining FU (0 : Int32) (0 : Int32) z_stack z_top z_word z_said
set_option maxRecDepth 20000 in
theorem cm_passes {q : Int32 × (Nat → Int64) × Int32 × (Nat → Int64) × (Nat → Int32) × Int32}  (h : m_passes z_sign z_clause z_clauses z_stack z_top z_word z_said z_force z_absent z_isRaining = some q) : rMet l D Z (ty7 K) Mm_passes [.ref (ad 0)] (wM K ad z_tape z_taped z_rules z_sign z_length z_clause z_clauses z_read z_next z_wrong z_number z_text z_made z_deep z_lines z_open z_opened z_stack z_top z_word z_said z_force z_x z_absent z_isRaining z_wasSaid z_undone z_kept z_order z_bestOrder z_hasBy z_wealthThen z_isFit z_tillThen z_drawX z_images z_imageForce z_imageX z_isMade) (wM K ad z_tape z_taped z_rules z_sign z_length z_clause z_clauses z_read z_next z_wrong z_number z_text z_made z_deep z_lines z_open z_opened q.2.1 q.2.2.1 q.2.2.2.1 q.2.2.2.2.1 z_force z_x z_absent q.2.2.2.2.2 z_wasSaid z_undone z_kept z_order z_bestOrder z_hasBy z_wealthThen z_isFit z_tillThen z_drawX z_images z_imageForce z_imageX z_isMade) (some (.int q.1)) := by
  refine rMet.of (by decide) rfl (Nat.le_of_ble_eq_true rfl) ?_
  refine r_sub (lv' := [(0, .ref (ad 0))]) [0] rfl ?_
  unfold m_passes at h
  refine r_iconst (x := (0 : Int32)) dX12_passes_0 (by decide) ?_
  refine r_istore_n (lv' := [(1, .int (0 : Int32)), (0, .ref (ad 0))]) dX12_passes_1 (by decide) rfl ?_
  refine r_iconst (x := (0 : Int32)) dX12_passes_2 (by decide) ?_
  refine r_istore_n (lv' := [(2, .int (0 : Int32)), (1, .int (0 : Int32)), (0, .ref (ad 0))]) dX12_passes_3 (by decide) rfl ?_
  refine r_sub (lv' := [(0, .ref (ad 0)), (1, .int (0 : Int32)), (2, .int (0 : Int32))]) [2, 1, 0] rfl ?_
  exact cm_passes_l4  FU _ _ _ _ _ _ h
theorem dX12_passesAll_0 : decode cX12_passesAll 0 = .ok (.iconst 0, 1) := by decide +kernel
theorem dX12_passesAll_1 : decode cX12_passesAll 1 = .ok (.istore_n 2, 1) := by decide +kernel
theorem dX12_passesAll_2 : decode cX12_passesAll 2 = .ok (.iconst 0, 1) := by decide +kernel
theorem dX12_passesAll_3 : decode cX12_passesAll 3 = .ok (.istore_n 3, 1) := by decide +kernel
theorem dX12_passesAll_4 : decode cX12_passesAll 4 = .ok (.iload_n 3, 1) := by decide +kernel
theorem dX12_passesAll_5 : decode cX12_passesAll 5 = .ok (.iload_n 1, 1) := by decide +kernel
theorem dX12_passesAll_6 : decode cX12_passesAll 6 = .ok (.if_icmp .ge 16, 3) := by decide +kernel
theorem dX12_passesAll_9 : decode cX12_passesAll 9 = .ok (.iload_n 2, 1) := by decide +kernel
theorem dX12_passesAll_10 : decode cX12_passesAll 10 = .ok (.aload_n 0, 1) := by decide +kernel
theorem dX12_passesAll_11 : decode cX12_passesAll 11 = .ok (.invokevirtual 355, 3) := by decide +kernel
theorem dX12_passesAll_14 : decode cX12_passesAll 14 = .ok (.iadd, 1) := by decide +kernel
theorem dX12_passesAll_15 : decode cX12_passesAll 15 = .ok (.istore_n 2, 1) := by decide +kernel
theorem dX12_passesAll_16 : decode cX12_passesAll 16 = .ok (.iinc 3 1, 3) := by decide +kernel
theorem dX12_passesAll_19 : decode cX12_passesAll 19 = .ok (.goto (-15), 3) := by decide +kernel
theorem dX12_passesAll_22 : decode cX12_passesAll 22 = .ok (.iload_n 2, 1) := by decide +kernel
theorem dX12_passesAll_23 : decode cX12_passesAll 23 = .ok (.ireturn, 1) := by decide +kernel
abbrev Mm_passesAll : rx_M := (RX12, yX12_passesAll, cX12_passesAll, 4, (some .int), 8)
theorem km_passesAll : rKv Mm_passesAll 1 := ⟨tb_in (i := 26) (j := 30) rfl rfl, tb_in (i := 26) (j := 31) rfl rfl, tb_in (i := 17) (j := 21) rfl rfl, tb_in (i := 25) (j := 31) rfl rfl, ⟨by decide, by decide, by decide +kernel⟩, by decide⟩
def m_passesAll_l4 (z_sign : Nat → Int32) (z_clause : Nat → Int32) (z_clauses : Nat → Int32) (z_force : Int32) (z_absent : Int32) (x1 : Int32) : Nat → Int32 → Int32 → (Nat → Int64) → Int32 → (Nat → Int64) → (Nat → Int32) → Int32 → Option (Int32 × (Nat → Int64) × Int32 × (Nat → Int64) × (Nat → Int32) × Int32)
  | 0, _, _, _, _, _, _, _ => none
  | n + 1, x2, x3, z_stack, z_top, z_word, z_said, z_isRaining => (if x1 ≤ x3 then some (x2, z_stack, z_top, z_word, z_said, z_isRaining) else (m_passes z_sign z_clause z_clauses z_stack z_top z_word z_said z_force z_absent z_isRaining).bind (fun q2 => lt (x2 + q2.1) (fun y3 => m_passesAll_l4 z_sign z_clause z_clauses z_force z_absent x1 n y3 (x3 + (1 : Int32)) q2.2.1 q2.2.2.1 q2.2.2.2.1 q2.2.2.2.2.1 q2.2.2.2.2.2)))
set_option maxRecDepth 20000 in
theorem cm_passesAll_l4 {q : Int32 × (Nat → Int64) × Int32 × (Nat → Int64) × (Nat → Int32) × Int32} {x1 : Int32}  : ∀ (n : Nat) (x2 : Int32) (x3 : Int32) (z_stack : Nat → Int64) (z_top : Int32) (z_word : Nat → Int64) (z_said : Nat → Int32) (z_isRaining : Int32), m_passesAll_l4 z_sign z_clause z_clauses z_force z_absent x1 n x2 x3 z_stack z_top z_word z_said z_isRaining = some q → rW l D Z (ty7 K) Mm_passesAll 4 [(0, .ref (ad 0)), (1, .int x1), (2, .int x2), (3, .int x3)] [] (wM K ad z_tape z_taped z_rules z_sign z_length z_clause z_clauses z_read z_next z_wrong z_number z_text z_made z_deep z_lines z_open z_opened z_stack z_top z_word z_said z_force z_x z_absent z_isRaining z_wasSaid z_undone z_kept z_order z_bestOrder z_hasBy z_wealthThen z_isFit z_tillThen z_drawX z_images z_imageForce z_imageX z_isMade) (wM K ad z_tape z_taped z_rules z_sign z_length z_clause z_clauses z_read z_next z_wrong z_number z_text z_made z_deep z_lines z_open z_opened q.2.1 q.2.2.1 q.2.2.2.1 q.2.2.2.2.1 z_force z_x z_absent q.2.2.2.2.2 z_wasSaid z_undone z_kept z_order z_bestOrder z_hasBy z_wealthThen z_isFit z_tillThen z_drawX z_images z_imageForce z_imageX z_isMade) (some (.int q.1)) := by
  intro n
  induction n with
  | zero => intro x2 x3 z_stack z_top z_word z_said z_isRaining h; unfold m_passesAll_l4 at h; cases h
  | succ n ih =>
    intro x2 x3 z_stack z_top z_word z_said z_isRaining h
    unfold m_passesAll_l4 at h
    refine r_iload_n 3 dX12_passesAll_4 rfl ?_
    refine r_iload_n 1 dX12_passesAll_5 rfl ?_
    refine r_icmp_ge 22 dX12_passesAll_6 (by decide) (fun c1 => ?_) (fun c1 => ?_)
    · replace h := it_pos c1 h
      refine r_iload_n 2 dX12_passesAll_22 rfl ?_
      have hq := Option.some.inj h
      subst hq
      exact r_iret rfl dX12_passesAll_23
    · replace h := it_neg c1 h
      refine r_iload_n 2 dX12_passesAll_9 rfl ?_
      refine r_aload_n 0 dX12_passesAll_10 rfl ?_
      obtain ⟨q2, h2, h⟩ := bd_some h
      refine cvM (st := [.int x2]) (cm_passes h2) rfl rfl (Nat.le_of_ble_eq_true rfl) km_passes (tb_in (i := 25) (j := 28) rfl rfl) (by decide) rfl dX12_passesAll_11 ?_
      refine r_iadd dX12_passesAll_14 ?_
      obtain ⟨y3, e3, h⟩ := lt_some h
      refine r_top e3 ?_
      refine r_istore_n (lv' := [(2, .int y3), (0, .ref (ad 0)), (1, .int x1), (3, .int x3)]) dX12_passesAll_15 (by decide) rfl ?_
      refine r_iinc (y := (x3 + (1 : Int32))) (lv' := [(3, .int (x3 + (1 : Int32))), (2, .int y3), (0, .ref (ad 0)), (1, .int x1)]) 3 dX12_passesAll_16 rfl rfl (by decide) rfl ?_
      refine r_goto 4 dX12_passesAll_19 (by decide) ?_
      refine r_sub (lv' := [(0, .ref (ad 0)), (1, .int x1), (2, .int y3), (3, .int (x3 + (1 : Int32)))]) [2, 3, 1, 0] rfl ?_
      exact ih _ _ _ _ _ _ _ h
def m_passesAll (x1 : Int32) (z_sign : Nat → Int32) (z_clause : Nat → Int32) (z_clauses : Nat → Int32) (z_stack : Nat → Int64) (z_top : Int32) (z_word : Nat → Int64) (z_said : Nat → Int32) (z_force : Int32) (z_absent : Int32) (z_isRaining : Int32) : Option (Int32 × (Nat → Int64) × Int32 × (Nat → Int64) × (Nat → Int32) × Int32) := m_passesAll_l4 z_sign z_clause z_clauses z_force z_absent x1 FU (0 : Int32) (0 : Int32) z_stack z_top z_word z_said z_isRaining
set_option maxRecDepth 20000 in
theorem cm_passesAll {q : Int32 × (Nat → Int64) × Int32 × (Nat → Int64) × (Nat → Int32) × Int32} {x1 : Int32} (h : m_passesAll x1 z_sign z_clause z_clauses z_stack z_top z_word z_said z_force z_absent z_isRaining = some q) : rMet l D Z (ty7 K) Mm_passesAll [.ref (ad 0), .int x1] (wM K ad z_tape z_taped z_rules z_sign z_length z_clause z_clauses z_read z_next z_wrong z_number z_text z_made z_deep z_lines z_open z_opened z_stack z_top z_word z_said z_force z_x z_absent z_isRaining z_wasSaid z_undone z_kept z_order z_bestOrder z_hasBy z_wealthThen z_isFit z_tillThen z_drawX z_images z_imageForce z_imageX z_isMade) (wM K ad z_tape z_taped z_rules z_sign z_length z_clause z_clauses z_read z_next z_wrong z_number z_text z_made z_deep z_lines z_open z_opened q.2.1 q.2.2.1 q.2.2.2.1 q.2.2.2.2.1 z_force z_x z_absent q.2.2.2.2.2 z_wasSaid z_undone z_kept z_order z_bestOrder z_hasBy z_wealthThen z_isFit z_tillThen z_drawX z_images z_imageForce z_imageX z_isMade) (some (.int q.1)) := by
  refine rMet.of (by decide) rfl (Nat.le_of_ble_eq_true rfl) ?_
  refine r_sub (lv' := [(0, .ref (ad 0)), (1, .int x1)]) [0, 1] rfl ?_
  unfold m_passesAll at h
  refine r_iconst (x := (0 : Int32)) dX12_passesAll_0 (by decide) ?_
  refine r_istore_n (lv' := [(2, .int (0 : Int32)), (0, .ref (ad 0)), (1, .int x1)]) dX12_passesAll_1 (by decide) rfl ?_
  refine r_iconst (x := (0 : Int32)) dX12_passesAll_2 (by decide) ?_
  refine r_istore_n (lv' := [(3, .int (0 : Int32)), (2, .int (0 : Int32)), (0, .ref (ad 0)), (1, .int x1)]) dX12_passesAll_3 (by decide) rfl ?_
  refine r_sub (lv' := [(0, .ref (ad 0)), (1, .int x1), (2, .int (0 : Int32)), (3, .int (0 : Int32))]) [2, 3, 1, 0] rfl ?_
  exact cm_passesAll_l4  FU _ _ _ _ _ _ _ h
theorem dX12_keepsAct_0 : decode cX12_keepsAct 0 = .ok (.aload_n 0, 1) := by decide +kernel
theorem dX12_keepsAct_1 : decode cX12_keepsAct 1 = .ok (.getfield 268, 3) := by decide +kernel
theorem dX12_keepsAct_4 : decode cX12_keepsAct 4 = .ok (.bipush 20, 2) := by decide +kernel
theorem dX12_keepsAct_6 : decode cX12_keepsAct 6 = .ok (.if_icmp .ne 44, 3) := by decide +kernel
theorem dX12_keepsAct_9 : decode cX12_keepsAct 9 = .ok (.bipush 79, 2) := by decide +kernel
theorem dX12_keepsAct_11 : decode cX12_keepsAct 11 = .ok (.istore_n 1, 1) := by decide +kernel
theorem dX12_keepsAct_12 : decode cX12_keepsAct 12 = .ok (.iload_n 1, 1) := by decide +kernel
theorem dX12_keepsAct_13 : decode cX12_keepsAct 13 = .ok (.sipush 1580, 3) := by decide +kernel
theorem dX12_keepsAct_16 : decode cX12_keepsAct 16 = .ok (.if_icmp .ge 24, 3) := by decide +kernel
theorem dX12_keepsAct_19 : decode cX12_keepsAct 19 = .ok (.aload_n 0, 1) := by decide +kernel
theorem dX12_keepsAct_20 : decode cX12_keepsAct 20 = .ok (.getfield 49, 3) := by decide +kernel
theorem dX12_keepsAct_23 : decode cX12_keepsAct 23 = .ok (.iload_n 1, 1) := by decide +kernel
theorem dX12_keepsAct_24 : decode cX12_keepsAct 24 = .ok (.bipush 79, 2) := by decide +kernel
theorem dX12_keepsAct_26 : decode cX12_keepsAct 26 = .ok (.isub, 1) := by decide +kernel
theorem dX12_keepsAct_27 : decode cX12_keepsAct 27 = .ok (.aload_n 0, 1) := by decide +kernel
theorem dX12_keepsAct_28 : decode cX12_keepsAct 28 = .ok (.getfield 49, 3) := by decide +kernel
theorem dX12_keepsAct_31 : decode cX12_keepsAct 31 = .ok (.iload_n 1, 1) := by decide +kernel
theorem dX12_keepsAct_32 : decode cX12_keepsAct 32 = .ok (.iaload, 1) := by decide +kernel
theorem dX12_keepsAct_33 : decode cX12_keepsAct 33 = .ok (.iastore, 1) := by decide +kernel
theorem dX12_keepsAct_34 : decode cX12_keepsAct 34 = .ok (.iinc 1 1, 3) := by decide +kernel
theorem dX12_keepsAct_37 : decode cX12_keepsAct 37 = .ok (.goto (-25), 3) := by decide +kernel
theorem dX12_keepsAct_40 : decode cX12_keepsAct 40 = .ok (.aload_n 0, 1) := by decide +kernel
theorem dX12_keepsAct_41 : decode cX12_keepsAct 41 = .ok (.dup, 1) := by decide +kernel
theorem dX12_keepsAct_42 : decode cX12_keepsAct 42 = .ok (.getfield 268, 3) := by decide +kernel
theorem dX12_keepsAct_45 : decode cX12_keepsAct 45 = .ok (.iconst 1, 1) := by decide +kernel
theorem dX12_keepsAct_46 : decode cX12_keepsAct 46 = .ok (.isub, 1) := by decide +kernel
theorem dX12_keepsAct_47 : decode cX12_keepsAct 47 = .ok (.putfield 268, 3) := by decide +kernel
theorem dX12_keepsAct_50 : decode cX12_keepsAct 50 = .ok (.iconst 0, 1) := by decide +kernel
theorem dX12_keepsAct_51 : decode cX12_keepsAct 51 = .ok (.istore_n 1, 1) := by decide +kernel
theorem dX12_keepsAct_52 : decode cX12_keepsAct 52 = .ok (.iload_n 1, 1) := by decide +kernel
theorem dX12_keepsAct_53 : decode cX12_keepsAct 53 = .ok (.bipush 79, 2) := by decide +kernel
theorem dX12_keepsAct_55 : decode cX12_keepsAct 55 = .ok (.if_icmp .ge 32, 3) := by decide +kernel
theorem dX12_keepsAct_58 : decode cX12_keepsAct 58 = .ok (.aload_n 0, 1) := by decide +kernel
theorem dX12_keepsAct_59 : decode cX12_keepsAct 59 = .ok (.getfield 49, 3) := by decide +kernel
theorem dX12_keepsAct_62 : decode cX12_keepsAct 62 = .ok (.bipush 79, 2) := by decide +kernel
theorem dX12_keepsAct_64 : decode cX12_keepsAct 64 = .ok (.aload_n 0, 1) := by decide +kernel
theorem dX12_keepsAct_65 : decode cX12_keepsAct 65 = .ok (.getfield 268, 3) := by decide +kernel
theorem dX12_keepsAct_68 : decode cX12_keepsAct 68 = .ok (.imul, 1) := by decide +kernel
theorem dX12_keepsAct_69 : decode cX12_keepsAct 69 = .ok (.iload_n 1, 1) := by decide +kernel
theorem dX12_keepsAct_70 : decode cX12_keepsAct 70 = .ok (.iadd, 1) := by decide +kernel
theorem dX12_keepsAct_71 : decode cX12_keepsAct 71 = .ok (.aload_n 0, 1) := by decide +kernel
theorem dX12_keepsAct_72 : decode cX12_keepsAct 72 = .ok (.getfield 39, 3) := by decide +kernel
theorem dX12_keepsAct_75 : decode cX12_keepsAct 75 = .ok (.bipush 10, 2) := by decide +kernel
theorem dX12_keepsAct_77 : decode cX12_keepsAct 77 = .ok (.iload_n 1, 1) := by decide +kernel
theorem dX12_keepsAct_78 : decode cX12_keepsAct 78 = .ok (.iadd, 1) := by decide +kernel
theorem dX12_keepsAct_79 : decode cX12_keepsAct 79 = .ok (.iaload, 1) := by decide +kernel
theorem dX12_keepsAct_80 : decode cX12_keepsAct 80 = .ok (.iastore, 1) := by decide +kernel
theorem dX12_keepsAct_81 : decode cX12_keepsAct 81 = .ok (.iinc 1 1, 3) := by decide +kernel
theorem dX12_keepsAct_84 : decode cX12_keepsAct 84 = .ok (.goto (-32), 3) := by decide +kernel
theorem dX12_keepsAct_87 : decode cX12_keepsAct 87 = .ok (.aload_n 0, 1) := by decide +kernel
theorem dX12_keepsAct_88 : decode cX12_keepsAct 88 = .ok (.dup, 1) := by decide +kernel
theorem dX12_keepsAct_89 : decode cX12_keepsAct 89 = .ok (.getfield 268, 3) := by decide +kernel
theorem dX12_keepsAct_92 : decode cX12_keepsAct 92 = .ok (.iconst 1, 1) := by decide +kernel
theorem dX12_keepsAct_93 : decode cX12_keepsAct 93 = .ok (.iadd, 1) := by decide +kernel
theorem dX12_keepsAct_94 : decode cX12_keepsAct 94 = .ok (.putfield 268, 3) := by decide +kernel
theorem dX12_keepsAct_97 : decode cX12_keepsAct 97 = .ok (.return_, 1) := by decide +kernel
abbrev Mm_keepsAct : rx_M := (RX12, yX12_keepsAct, cX12_keepsAct, 2, none, 1)
theorem km_keepsAct : rKv Mm_keepsAct 0 := ⟨tb_in (i := 26) (j := 6) rfl rfl, tb_in (i := 26) (j := 7) rfl rfl, tb_in (i := 17) (j := 21) rfl rfl, tb_in (i := 26) (j := 0) rfl rfl, ⟨by decide, by decide, by decide +kernel⟩, by decide⟩
def m_keepsAct_l52 (z_said : Nat → Int32) (z_undone : Int32) : Nat → Int32 → (Nat → Int32) → Option ((Nat → Int32) × Int32)
  | 0, _, _ => none
  | n + 1, x1, z_wasSaid => (if (79 : Int32) ≤ x1 then lt (z_undone + (1 : Int32)) (fun y3 => some (z_wasSaid, y3)) else rq (inb ((10 : Int32) + x1) 156) (rq (inb (((79 : Int32) * z_undone) + x1) 1580) (lt (upd z_wasSaid (((79 : Int32) * z_undone) + x1).toNatClampNeg (z_said ((10 : Int32) + x1).toNatClampNeg)) (fun u5 => m_keepsAct_l52 z_said z_undone n (x1 + (1 : Int32)) u5))))
set_option maxRecDepth 20000 in
theorem cm_keepsAct_l52 {q : (Nat → Int32) × Int32}   : ∀ (n : Nat) (x1 : Int32) (z_wasSaid : Nat → Int32), m_keepsAct_l52 z_said z_undone n x1 z_wasSaid = some q → rW l D Z (ty7 K) Mm_keepsAct 52 [(0, .ref (ad 0)), (1, .int x1)] [] (wM K ad z_tape z_taped z_rules z_sign z_length z_clause z_clauses z_read z_next z_wrong z_number z_text z_made z_deep z_lines z_open z_opened z_stack z_top z_word z_said z_force z_x z_absent z_isRaining z_wasSaid z_undone z_kept z_order z_bestOrder z_hasBy z_wealthThen z_isFit z_tillThen z_drawX z_images z_imageForce z_imageX z_isMade) (wM K ad z_tape z_taped z_rules z_sign z_length z_clause z_clauses z_read z_next z_wrong z_number z_text z_made z_deep z_lines z_open z_opened z_stack z_top z_word z_said z_force z_x z_absent z_isRaining q.1 q.2 z_kept z_order z_bestOrder z_hasBy z_wealthThen z_isFit z_tillThen z_drawX z_images z_imageForce z_imageX z_isMade) none := by
  intro n
  induction n with
  | zero => intro x1 z_wasSaid h; unfold m_keepsAct_l52 at h; cases h
  | succ n ih =>
    intro x1 z_wasSaid h
    unfold m_keepsAct_l52 at h
    refine r_iload_n 1 dX12_keepsAct_52 rfl ?_
    refine r_bipush (x := (79 : Int32)) dX12_keepsAct_53 (by decide) ?_
    refine r_icmp_ge 87 dX12_keepsAct_55 (by decide) (fun c2 => ?_) (fun c2 => ?_)
    · replace h := it_pos c2 h
      refine r_aload_n 0 dX12_keepsAct_87 rfl ?_
      refine r_dup dX12_keepsAct_88 rfl ?_
      refine gM_undone rfl dX12_keepsAct_89 ?_
      refine r_iconst (x := (1 : Int32)) dX12_keepsAct_92 (by decide) ?_
      refine r_iadd dX12_keepsAct_93 ?_
      obtain ⟨y3, e3, h⟩ := lt_some h
      refine r_top e3 ?_
      refine pM_undone rfl dX12_keepsAct_94 ?_
      have hq := Option.some.inj h
      subst hq
      exact r_vret rfl dX12_keepsAct_97
    · replace h := it_neg c2 h
      refine r_aload_n 0 dX12_keepsAct_58 rfl ?_
      refine gM_wasSaid rfl dX12_keepsAct_59 ?_
      refine r_bipush (x := (79 : Int32)) dX12_keepsAct_62 (by decide) ?_
      refine r_aload_n 0 dX12_keepsAct_64 rfl ?_
      refine gM_undone rfl dX12_keepsAct_65 ?_
      refine r_imul dX12_keepsAct_68 ?_
      refine r_iload_n 1 dX12_keepsAct_69 rfl ?_
      refine r_iadd dX12_keepsAct_70 ?_
      refine r_aload_n 0 dX12_keepsAct_71 rfl ?_
      refine gM_said rfl dX12_keepsAct_72 ?_
      refine r_bipush (x := (10 : Int32)) dX12_keepsAct_75 (by decide) ?_
      refine r_iload_n 1 dX12_keepsAct_77 rfl ?_
      refine r_iadd dX12_keepsAct_78 ?_
      obtain ⟨h4, h⟩ := rq_some h
      refine lM_said (inb_in h4) dX12_keepsAct_79 ?_
      obtain ⟨h5, h⟩ := rq_some h
      obtain ⟨u5, e5, h⟩ := lt_some h
      refine sM_wasSaid e5 (inb_in h5) dX12_keepsAct_80 ?_
      refine r_iinc (y := (x1 + (1 : Int32))) (lv' := [(1, .int (x1 + (1 : Int32))), (0, .ref (ad 0))]) 1 dX12_keepsAct_81 rfl rfl (by decide) rfl ?_
      refine r_goto 52 dX12_keepsAct_84 (by decide) ?_
      refine r_sub (lv' := [(0, .ref (ad 0)), (1, .int (x1 + (1 : Int32)))]) [1, 0] rfl ?_
      exact ih _ _ h
def m_keepsAct_l12 (z_said : Nat → Int32) (z_undone : Int32) : Nat → Int32 → (Nat → Int32) → Option ((Nat → Int32) × Int32)
  | 0, _, _ => none
  | n + 1, x1, z_wasSaid => (if (1580 : Int32) ≤ x1 then lt (z_undone - (1 : Int32)) (fun y7 => m_keepsAct_l52 z_said y7 FU (0 : Int32) z_wasSaid) else rq (inb x1 1580) (rq (inb (x1 - (79 : Int32)) 1580) (lt (upd z_wasSaid (x1 - (79 : Int32)).toNatClampNeg (z_wasSaid x1.toNatClampNeg)) (fun u9 => m_keepsAct_l12 z_said z_undone n (x1 + (1 : Int32)) u9))))
set_option maxRecDepth 20000 in
theorem cm_keepsAct_l12 {q : (Nat → Int32) × Int32}   : ∀ (n : Nat) (x1 : Int32) (z_wasSaid : Nat → Int32), m_keepsAct_l12 z_said z_undone n x1 z_wasSaid = some q → rW l D Z (ty7 K) Mm_keepsAct 12 [(0, .ref (ad 0)), (1, .int x1)] [] (wM K ad z_tape z_taped z_rules z_sign z_length z_clause z_clauses z_read z_next z_wrong z_number z_text z_made z_deep z_lines z_open z_opened z_stack z_top z_word z_said z_force z_x z_absent z_isRaining z_wasSaid z_undone z_kept z_order z_bestOrder z_hasBy z_wealthThen z_isFit z_tillThen z_drawX z_images z_imageForce z_imageX z_isMade) (wM K ad z_tape z_taped z_rules z_sign z_length z_clause z_clauses z_read z_next z_wrong z_number z_text z_made z_deep z_lines z_open z_opened z_stack z_top z_word z_said z_force z_x z_absent z_isRaining q.1 q.2 z_kept z_order z_bestOrder z_hasBy z_wealthThen z_isFit z_tillThen z_drawX z_images z_imageForce z_imageX z_isMade) none := by
  intro n
  induction n with
  | zero => intro x1 z_wasSaid h; unfold m_keepsAct_l12 at h; cases h
  | succ n ih =>
    intro x1 z_wasSaid h
    unfold m_keepsAct_l12 at h
    refine r_iload_n 1 dX12_keepsAct_12 rfl ?_
    refine r_sipush (x := (1580 : Int32)) dX12_keepsAct_13 (by decide) ?_
    refine r_icmp_ge 40 dX12_keepsAct_16 (by decide) (fun c6 => ?_) (fun c6 => ?_)
    · replace h := it_pos c6 h
      refine r_aload_n 0 dX12_keepsAct_40 rfl ?_
      refine r_dup dX12_keepsAct_41 rfl ?_
      refine gM_undone rfl dX12_keepsAct_42 ?_
      refine r_iconst (x := (1 : Int32)) dX12_keepsAct_45 (by decide) ?_
      refine r_isub dX12_keepsAct_46 ?_
      obtain ⟨y7, e7, h⟩ := lt_some h
      refine r_top e7 ?_
      refine pM_undone rfl dX12_keepsAct_47 ?_
      refine r_iconst (x := (0 : Int32)) dX12_keepsAct_50 (by decide) ?_
      refine r_istore_n (lv' := [(1, .int (0 : Int32)), (0, .ref (ad 0))]) dX12_keepsAct_51 (by decide) rfl ?_
      refine r_sub (lv' := [(0, .ref (ad 0)), (1, .int (0 : Int32))]) [1, 0] rfl ?_
      exact cm_keepsAct_l52  FU _ _ h
    · replace h := it_neg c6 h
      refine r_aload_n 0 dX12_keepsAct_19 rfl ?_
      refine gM_wasSaid rfl dX12_keepsAct_20 ?_
      refine r_iload_n 1 dX12_keepsAct_23 rfl ?_
      refine r_bipush (x := (79 : Int32)) dX12_keepsAct_24 (by decide) ?_
      refine r_isub dX12_keepsAct_26 ?_
      refine r_aload_n 0 dX12_keepsAct_27 rfl ?_
      refine gM_wasSaid rfl dX12_keepsAct_28 ?_
      refine r_iload_n 1 dX12_keepsAct_31 rfl ?_
      obtain ⟨h8, h⟩ := rq_some h
      refine lM_wasSaid (inb_in h8) dX12_keepsAct_32 ?_
      obtain ⟨h9, h⟩ := rq_some h
      obtain ⟨u9, e9, h⟩ := lt_some h
      refine sM_wasSaid e9 (inb_in h9) dX12_keepsAct_33 ?_
      refine r_iinc (y := (x1 + (1 : Int32))) (lv' := [(1, .int (x1 + (1 : Int32))), (0, .ref (ad 0))]) 1 dX12_keepsAct_34 rfl rfl (by decide) rfl ?_
      refine r_goto 12 dX12_keepsAct_37 (by decide) ?_
      refine r_sub (lv' := [(0, .ref (ad 0)), (1, .int (x1 + (1 : Int32)))]) [1, 0] rfl ?_
      exact ih _ _ h
def m_keepsAct (z_said : Nat → Int32) (z_wasSaid : Nat → Int32) (z_undone : Int32) : Option ((Nat → Int32) × Int32) := (if z_undone = (20 : Int32) then m_keepsAct_l12 z_said z_undone FU (79 : Int32) z_wasSaid else m_keepsAct_l52 z_said z_undone FU (0 : Int32) z_wasSaid)
set_option maxRecDepth 20000 in
theorem cm_keepsAct {q : (Nat → Int32) × Int32}  (h : m_keepsAct z_said z_wasSaid z_undone = some q) : rMet l D Z (ty7 K) Mm_keepsAct [.ref (ad 0)] (wM K ad z_tape z_taped z_rules z_sign z_length z_clause z_clauses z_read z_next z_wrong z_number z_text z_made z_deep z_lines z_open z_opened z_stack z_top z_word z_said z_force z_x z_absent z_isRaining z_wasSaid z_undone z_kept z_order z_bestOrder z_hasBy z_wealthThen z_isFit z_tillThen z_drawX z_images z_imageForce z_imageX z_isMade) (wM K ad z_tape z_taped z_rules z_sign z_length z_clause z_clauses z_read z_next z_wrong z_number z_text z_made z_deep z_lines z_open z_opened z_stack z_top z_word z_said z_force z_x z_absent z_isRaining q.1 q.2 z_kept z_order z_bestOrder z_hasBy z_wealthThen z_isFit z_tillThen z_drawX z_images z_imageForce z_imageX z_isMade) none := by
  refine rMet.of (by decide) rfl (Nat.le_of_ble_eq_true rfl) ?_
  refine r_sub (lv' := [(0, .ref (ad 0))]) [0] rfl ?_
  unfold m_keepsAct at h
  refine r_aload_n 0 dX12_keepsAct_0 rfl ?_
  refine gM_undone rfl dX12_keepsAct_1 ?_
  refine r_bipush (x := (20 : Int32)) dX12_keepsAct_4 (by decide) ?_
  refine r_icmp_ne 50 dX12_keepsAct_6 (by decide) (fun c1 => ?_) (fun c1 => ?_)
  · replace h := it_neg c1 h
    refine r_iconst (x := (0 : Int32)) dX12_keepsAct_50 (by decide) ?_
    refine r_istore_n (lv' := [(1, .int (0 : Int32)), (0, .ref (ad 0))]) dX12_keepsAct_51 (by decide) rfl ?_
    refine r_sub (lv' := [(0, .ref (ad 0)), (1, .int (0 : Int32))]) [1, 0] rfl ?_
    exact cm_keepsAct_l52  FU _ _ h
  · replace h := it_pos c1 h
    refine r_bipush (x := (79 : Int32)) dX12_keepsAct_9 (by decide) ?_
    refine r_istore_n (lv' := [(1, .int (79 : Int32)), (0, .ref (ad 0))]) dX12_keepsAct_11 (by decide) rfl ?_
    refine r_sub (lv' := [(0, .ref (ad 0)), (1, .int (79 : Int32))]) [1, 0] rfl ?_
    exact cm_keepsAct_l12  FU _ _ h
theorem dX12_undo_0 : decode cX12_undo 0 = .ok (.aload_n 0, 1) := by decide +kernel
theorem dX12_undo_1 : decode cX12_undo 1 = .ok (.getfield 268, 3) := by decide +kernel
theorem dX12_undo_4 : decode cX12_undo 4 = .ok (.ifCond .ne 5, 3) := by decide +kernel
theorem dX12_undo_7 : decode cX12_undo 7 = .ok (.iconst (-1), 1) := by decide +kernel
theorem dX12_undo_8 : decode cX12_undo 8 = .ok (.ireturn, 1) := by decide +kernel
theorem dX12_undo_9 : decode cX12_undo 9 = .ok (.aload_n 0, 1) := by decide +kernel
theorem dX12_undo_10 : decode cX12_undo 10 = .ok (.dup, 1) := by decide +kernel
theorem dX12_undo_11 : decode cX12_undo 11 = .ok (.getfield 268, 3) := by decide +kernel
theorem dX12_undo_14 : decode cX12_undo 14 = .ok (.iconst 1, 1) := by decide +kernel
theorem dX12_undo_15 : decode cX12_undo 15 = .ok (.isub, 1) := by decide +kernel
theorem dX12_undo_16 : decode cX12_undo 16 = .ok (.putfield 268, 3) := by decide +kernel
theorem dX12_undo_19 : decode cX12_undo 19 = .ok (.iconst 0, 1) := by decide +kernel
theorem dX12_undo_20 : decode cX12_undo 20 = .ok (.istore_n 1, 1) := by decide +kernel
theorem dX12_undo_21 : decode cX12_undo 21 = .ok (.iload_n 1, 1) := by decide +kernel
theorem dX12_undo_22 : decode cX12_undo 22 = .ok (.bipush 79, 2) := by decide +kernel
theorem dX12_undo_24 : decode cX12_undo 24 = .ok (.if_icmp .ge 32, 3) := by decide +kernel
theorem dX12_undo_27 : decode cX12_undo 27 = .ok (.aload_n 0, 1) := by decide +kernel
theorem dX12_undo_28 : decode cX12_undo 28 = .ok (.getfield 39, 3) := by decide +kernel
theorem dX12_undo_31 : decode cX12_undo 31 = .ok (.bipush 10, 2) := by decide +kernel
theorem dX12_undo_33 : decode cX12_undo 33 = .ok (.iload_n 1, 1) := by decide +kernel
theorem dX12_undo_34 : decode cX12_undo 34 = .ok (.iadd, 1) := by decide +kernel
theorem dX12_undo_35 : decode cX12_undo 35 = .ok (.aload_n 0, 1) := by decide +kernel
theorem dX12_undo_36 : decode cX12_undo 36 = .ok (.getfield 49, 3) := by decide +kernel
theorem dX12_undo_39 : decode cX12_undo 39 = .ok (.bipush 79, 2) := by decide +kernel
theorem dX12_undo_41 : decode cX12_undo 41 = .ok (.aload_n 0, 1) := by decide +kernel
theorem dX12_undo_42 : decode cX12_undo 42 = .ok (.getfield 268, 3) := by decide +kernel
theorem dX12_undo_45 : decode cX12_undo 45 = .ok (.imul, 1) := by decide +kernel
theorem dX12_undo_46 : decode cX12_undo 46 = .ok (.iload_n 1, 1) := by decide +kernel
theorem dX12_undo_47 : decode cX12_undo 47 = .ok (.iadd, 1) := by decide +kernel
theorem dX12_undo_48 : decode cX12_undo 48 = .ok (.iaload, 1) := by decide +kernel
theorem dX12_undo_49 : decode cX12_undo 49 = .ok (.iastore, 1) := by decide +kernel
theorem dX12_undo_50 : decode cX12_undo 50 = .ok (.iinc 1 1, 3) := by decide +kernel
theorem dX12_undo_53 : decode cX12_undo 53 = .ok (.goto (-32), 3) := by decide +kernel
theorem dX12_undo_56 : decode cX12_undo 56 = .ok (.aload_n 0, 1) := by decide +kernel
theorem dX12_undo_57 : decode cX12_undo 57 = .ok (.getfield 268, 3) := by decide +kernel
theorem dX12_undo_60 : decode cX12_undo 60 = .ok (.ireturn, 1) := by decide +kernel
abbrev Mm_undo : rx_M := (RX12, yX12_undo, cX12_undo, 2, (some .int), 1)
theorem km_undo : rKv Mm_undo 0 := ⟨tb_in (i := 33) (j := 2) rfl rfl, tb_in (i := 33) (j := 3) rfl rfl, tb_in (i := 17) (j := 21) rfl rfl, tb_in (i := 26) (j := 1) rfl rfl, ⟨by decide, by decide, by decide +kernel⟩, by decide⟩
def m_undo_l21 (z_wasSaid : Nat → Int32) (z_undone : Int32) : Nat → Int32 → (Nat → Int32) → Option (Int32 × (Nat → Int32) × Int32)
  | 0, _, _ => none
  | n + 1, x1, z_said => (if (79 : Int32) ≤ x1 then some (z_undone, z_said, z_undone) else rq (inb (((79 : Int32) * z_undone) + x1) 1580) (rq (inb ((10 : Int32) + x1) 156) (lt (upd z_said ((10 : Int32) + x1).toNatClampNeg (z_wasSaid (((79 : Int32) * z_undone) + x1).toNatClampNeg)) (fun u5 => m_undo_l21 z_wasSaid z_undone n (x1 + (1 : Int32)) u5))))
set_option maxRecDepth 20000 in
theorem cm_undo_l21 {q : Int32 × (Nat → Int32) × Int32}   : ∀ (n : Nat) (x1 : Int32) (z_said : Nat → Int32), m_undo_l21 z_wasSaid z_undone n x1 z_said = some q → rW l D Z (ty7 K) Mm_undo 21 [(0, .ref (ad 0)), (1, .int x1)] [] (wM K ad z_tape z_taped z_rules z_sign z_length z_clause z_clauses z_read z_next z_wrong z_number z_text z_made z_deep z_lines z_open z_opened z_stack z_top z_word z_said z_force z_x z_absent z_isRaining z_wasSaid z_undone z_kept z_order z_bestOrder z_hasBy z_wealthThen z_isFit z_tillThen z_drawX z_images z_imageForce z_imageX z_isMade) (wM K ad z_tape z_taped z_rules z_sign z_length z_clause z_clauses z_read z_next z_wrong z_number z_text z_made z_deep z_lines z_open z_opened z_stack z_top z_word q.2.1 z_force z_x z_absent z_isRaining z_wasSaid q.2.2 z_kept z_order z_bestOrder z_hasBy z_wealthThen z_isFit z_tillThen z_drawX z_images z_imageForce z_imageX z_isMade) (some (.int q.1)) := by
  intro n
  induction n with
  | zero => intro x1 z_said h; unfold m_undo_l21 at h; cases h
  | succ n ih =>
    intro x1 z_said h
    unfold m_undo_l21 at h
    refine r_iload_n 1 dX12_undo_21 rfl ?_
    refine r_bipush (x := (79 : Int32)) dX12_undo_22 (by decide) ?_
    refine r_icmp_ge 56 dX12_undo_24 (by decide) (fun c3 => ?_) (fun c3 => ?_)
    · replace h := it_pos c3 h
      refine r_aload_n 0 dX12_undo_56 rfl ?_
      refine gM_undone rfl dX12_undo_57 ?_
      have hq := Option.some.inj h
      subst hq
      exact r_iret rfl dX12_undo_60
    · replace h := it_neg c3 h
      refine r_aload_n 0 dX12_undo_27 rfl ?_
      refine gM_said rfl dX12_undo_28 ?_
      refine r_bipush (x := (10 : Int32)) dX12_undo_31 (by decide) ?_
      refine r_iload_n 1 dX12_undo_33 rfl ?_
      refine r_iadd dX12_undo_34 ?_
      refine r_aload_n 0 dX12_undo_35 rfl ?_
      refine gM_wasSaid rfl dX12_undo_36 ?_
      refine r_bipush (x := (79 : Int32)) dX12_undo_39 (by decide) ?_
      refine r_aload_n 0 dX12_undo_41 rfl ?_
      refine gM_undone rfl dX12_undo_42 ?_
      refine r_imul dX12_undo_45 ?_
      refine r_iload_n 1 dX12_undo_46 rfl ?_
      refine r_iadd dX12_undo_47 ?_
      obtain ⟨h4, h⟩ := rq_some h
      refine lM_wasSaid (inb_in h4) dX12_undo_48 ?_
      obtain ⟨h5, h⟩ := rq_some h
      obtain ⟨u5, e5, h⟩ := lt_some h
      refine sM_said e5 (inb_in h5) dX12_undo_49 ?_
      refine r_iinc (y := (x1 + (1 : Int32))) (lv' := [(1, .int (x1 + (1 : Int32))), (0, .ref (ad 0))]) 1 dX12_undo_50 rfl rfl (by decide) rfl ?_
      refine r_goto 21 dX12_undo_53 (by decide) ?_
      refine r_sub (lv' := [(0, .ref (ad 0)), (1, .int (x1 + (1 : Int32)))]) [1, 0] rfl ?_
      exact ih _ _ h
def m_undo (z_said : Nat → Int32) (z_wasSaid : Nat → Int32) (z_undone : Int32) : Option (Int32 × (Nat → Int32) × Int32) := (if z_undone = 0 then some ((-1 : Int32), z_said, z_undone) else lt (z_undone - (1 : Int32)) (fun y2 => m_undo_l21 z_wasSaid y2 FU (0 : Int32) z_said))
set_option maxRecDepth 20000 in
theorem cm_undo {q : Int32 × (Nat → Int32) × Int32}  (h : m_undo z_said z_wasSaid z_undone = some q) : rMet l D Z (ty7 K) Mm_undo [.ref (ad 0)] (wM K ad z_tape z_taped z_rules z_sign z_length z_clause z_clauses z_read z_next z_wrong z_number z_text z_made z_deep z_lines z_open z_opened z_stack z_top z_word z_said z_force z_x z_absent z_isRaining z_wasSaid z_undone z_kept z_order z_bestOrder z_hasBy z_wealthThen z_isFit z_tillThen z_drawX z_images z_imageForce z_imageX z_isMade) (wM K ad z_tape z_taped z_rules z_sign z_length z_clause z_clauses z_read z_next z_wrong z_number z_text z_made z_deep z_lines z_open z_opened z_stack z_top z_word q.2.1 z_force z_x z_absent z_isRaining z_wasSaid q.2.2 z_kept z_order z_bestOrder z_hasBy z_wealthThen z_isFit z_tillThen z_drawX z_images z_imageForce z_imageX z_isMade) (some (.int q.1)) := by
  refine rMet.of (by decide) rfl (Nat.le_of_ble_eq_true rfl) ?_
  refine r_sub (lv' := [(0, .ref (ad 0))]) [0] rfl ?_
  unfold m_undo at h
  refine r_aload_n 0 dX12_undo_0 rfl ?_
  refine gM_undone rfl dX12_undo_1 ?_
  refine r_if_ne 9 dX12_undo_4 (by decide) (fun c1 => ?_) (fun c1 => ?_)
  · replace h := it_neg c1 h
    refine r_aload_n 0 dX12_undo_9 rfl ?_
    refine r_dup dX12_undo_10 rfl ?_
    refine gM_undone rfl dX12_undo_11 ?_
    refine r_iconst (x := (1 : Int32)) dX12_undo_14 (by decide) ?_
    refine r_isub dX12_undo_15 ?_
    obtain ⟨y2, e2, h⟩ := lt_some h
    refine r_top e2 ?_
    refine pM_undone rfl dX12_undo_16 ?_
    refine r_iconst (x := (0 : Int32)) dX12_undo_19 (by decide) ?_
    refine r_istore_n (lv' := [(1, .int (0 : Int32)), (0, .ref (ad 0))]) dX12_undo_20 (by decide) rfl ?_
    refine r_sub (lv' := [(0, .ref (ad 0)), (1, .int (0 : Int32))]) [1, 0] rfl ?_
    exact cm_undo_l21  FU _ _ h
  · replace h := it_pos c1 h
    refine r_iconst (x := (-1 : Int32)) dX12_undo_7 (by decide) ?_
    have hq := Option.some.inj h
    subst hq
    exact r_iret rfl dX12_undo_8
theorem dX12_minute_0 : decode cX12_minute 0 = .ok (.aload_n 0, 1) := by decide +kernel
theorem dX12_minute_1 : decode cX12_minute 1 = .ok (.invokevirtual 358, 3) := by decide +kernel
theorem dX12_minute_4 : decode cX12_minute 4 = .ok (.ifCond .eq 16, 3) := by decide +kernel
theorem dX12_minute_7 : decode cX12_minute 7 = .ok (.aload_n 0, 1) := by decide +kernel
theorem dX12_minute_8 : decode cX12_minute 8 = .ok (.getfield 39, 3) := by decide +kernel
theorem dX12_minute_11 : decode cX12_minute 11 = .ok (.bipush 10, 2) := by decide +kernel
theorem dX12_minute_13 : decode cX12_minute 13 = .ok (.iaload, 1) := by decide +kernel
theorem dX12_minute_14 : decode cX12_minute 14 = .ok (.sipush 999, 3) := by decide +kernel
theorem dX12_minute_17 : decode cX12_minute 17 = .ok (.if_icmp .ne 5, 3) := by decide +kernel
theorem dX12_minute_20 : decode cX12_minute 20 = .ok (.iconst (-1), 1) := by decide +kernel
theorem dX12_minute_21 : decode cX12_minute 21 = .ok (.ireturn, 1) := by decide +kernel
theorem dX12_minute_22 : decode cX12_minute 22 = .ok (.aload_n 0, 1) := by decide +kernel
theorem dX12_minute_23 : decode cX12_minute 23 = .ok (.invokevirtual 361, 3) := by decide +kernel
theorem dX12_minute_26 : decode cX12_minute 26 = .ok (.aload_n 0, 1) := by decide +kernel
theorem dX12_minute_27 : decode cX12_minute 27 = .ok (.invokevirtual 355, 3) := by decide +kernel
theorem dX12_minute_30 : decode cX12_minute 30 = .ok (.ireturn, 1) := by decide +kernel
abbrev Mm_minute : rx_M := (RX12, yX12_minute, cX12_minute, 1, (some .int), 8)
theorem km_minute : rKv Mm_minute 0 := ⟨tb_in (i := 32) (j := 4) rfl rfl, tb_in (i := 32) (j := 5) rfl rfl, tb_in (i := 17) (j := 21) rfl rfl, tb_in (i := 26) (j := 8) rfl rfl, ⟨by decide, by decide, by decide +kernel⟩, by decide⟩
def m_minute (z_sign : Nat → Int32) (z_clause : Nat → Int32) (z_clauses : Nat → Int32) (z_stack : Nat → Int64) (z_top : Int32) (z_word : Nat → Int64) (z_said : Nat → Int32) (z_force : Int32) (z_absent : Int32) (z_isRaining : Int32) (z_wasSaid : Nat → Int32) (z_undone : Int32) : Option (Int32 × (Nat → Int64) × Int32 × (Nat → Int64) × (Nat → Int32) × Int32 × (Nat → Int32) × Int32) := (m_isFair z_said).bind (fun q1 => (if q1 = 0 then some ((-1 : Int32), z_stack, z_top, z_word, z_said, z_isRaining, z_wasSaid, z_undone) else rq (inb (10 : Int32) 156) ((if (z_said (10 : Int32).toNatClampNeg) = (999 : Int32) then some ((-1 : Int32), z_stack, z_top, z_word, z_said, z_isRaining, z_wasSaid, z_undone) else (m_keepsAct z_said z_wasSaid z_undone).bind (fun q5 => (m_passes z_sign z_clause z_clauses z_stack z_top z_word z_said z_force z_absent z_isRaining).bind (fun q6 => some (q6.1, q6.2.1, q6.2.2.1, q6.2.2.2.1, q6.2.2.2.2.1, q6.2.2.2.2.2, q5.1, q5.2)))))))
set_option maxRecDepth 20000 in
theorem cm_minute {q : Int32 × (Nat → Int64) × Int32 × (Nat → Int64) × (Nat → Int32) × Int32 × (Nat → Int32) × Int32}  (h : m_minute z_sign z_clause z_clauses z_stack z_top z_word z_said z_force z_absent z_isRaining z_wasSaid z_undone = some q) : rMet l D Z (ty7 K) Mm_minute [.ref (ad 0)] (wM K ad z_tape z_taped z_rules z_sign z_length z_clause z_clauses z_read z_next z_wrong z_number z_text z_made z_deep z_lines z_open z_opened z_stack z_top z_word z_said z_force z_x z_absent z_isRaining z_wasSaid z_undone z_kept z_order z_bestOrder z_hasBy z_wealthThen z_isFit z_tillThen z_drawX z_images z_imageForce z_imageX z_isMade) (wM K ad z_tape z_taped z_rules z_sign z_length z_clause z_clauses z_read z_next z_wrong z_number z_text z_made z_deep z_lines z_open z_opened q.2.1 q.2.2.1 q.2.2.2.1 q.2.2.2.2.1 z_force z_x z_absent q.2.2.2.2.2.1 q.2.2.2.2.2.2.1 q.2.2.2.2.2.2.2 z_kept z_order z_bestOrder z_hasBy z_wealthThen z_isFit z_tillThen z_drawX z_images z_imageForce z_imageX z_isMade) (some (.int q.1)) := by
  refine rMet.of (by decide) rfl (Nat.le_of_ble_eq_true rfl) ?_
  refine r_sub (lv' := [(0, .ref (ad 0))]) [0] rfl ?_
  unfold m_minute at h
  refine r_aload_n 0 dX12_minute_0 rfl ?_
  obtain ⟨q1, h1, h⟩ := bd_some h
  refine cvM (st := []) (cm_isFair h1) rfl rfl (Nat.le_of_ble_eq_true rfl) km_isFair (tb_in (i := 26) (j := 2) rfl rfl) (by decide) rfl dX12_minute_1 ?_
  refine r_if_eq 20 dX12_minute_4 (by decide) (fun c2 => ?_) (fun c2 => ?_)
  · replace h := it_pos c2 h
    refine r_iconst (x := (-1 : Int32)) dX12_minute_20 (by decide) ?_
    have hq := Option.some.inj h
    subst hq
    exact r_iret rfl dX12_minute_21
  · replace h := it_neg c2 h
    refine r_aload_n 0 dX12_minute_7 rfl ?_
    refine gM_said rfl dX12_minute_8 ?_
    refine r_bipush (x := (10 : Int32)) dX12_minute_11 (by decide) ?_
    obtain ⟨h3, h⟩ := rq_some h
    refine lM_said (inb_in h3) dX12_minute_13 ?_
    refine r_sipush (x := (999 : Int32)) dX12_minute_14 (by decide) ?_
    refine r_icmp_ne 22 dX12_minute_17 (by decide) (fun c4 => ?_) (fun c4 => ?_)
    · replace h := it_neg c4 h
      refine r_aload_n 0 dX12_minute_22 rfl ?_
      obtain ⟨q5, h5, h⟩ := bd_some h
      refine cvM (st := []) (cm_keepsAct h5) rfl rfl (Nat.le_of_ble_eq_true rfl) km_keepsAct (tb_in (i := 26) (j := 5) rfl rfl) (by decide) rfl dX12_minute_23 ?_
      refine r_aload_n 0 dX12_minute_26 rfl ?_
      obtain ⟨q6, h6, h⟩ := bd_some h
      refine cvM (st := []) (cm_passes h6) rfl rfl (Nat.le_of_ble_eq_true rfl) km_passes (tb_in (i := 25) (j := 28) rfl rfl) (by decide) rfl dX12_minute_27 ?_
      have hq := Option.some.inj h
      subst hq
      exact r_iret rfl dX12_minute_30
    · replace h := it_pos c4 h
      refine r_iconst (x := (-1 : Int32)) dX12_minute_20 (by decide) ?_
      have hq := Option.some.inj h
      subst hq
      exact r_iret rfl dX12_minute_21
theorem dX12_areTwo_0 : decode cX12_areTwo 0 = .ok (.aload_n 0, 1) := by decide +kernel
theorem dX12_areTwo_1 : decode cX12_areTwo 1 = .ok (.iload_n 1, 1) := by decide +kernel
theorem dX12_areTwo_2 : decode cX12_areTwo 2 = .ok (.invokevirtual 311, 3) := by decide +kernel
theorem dX12_areTwo_5 : decode cX12_areTwo 5 = .ok (.ifCond .eq 20, 3) := by decide +kernel
theorem dX12_areTwo_8 : decode cX12_areTwo 8 = .ok (.aload_n 0, 1) := by decide +kernel
theorem dX12_areTwo_9 : decode cX12_areTwo 9 = .ok (.iload_n 2, 1) := by decide +kernel
theorem dX12_areTwo_10 : decode cX12_areTwo 10 = .ok (.invokevirtual 311, 3) := by decide +kernel
theorem dX12_areTwo_13 : decode cX12_areTwo 13 = .ok (.ifCond .eq 12, 3) := by decide +kernel
theorem dX12_areTwo_16 : decode cX12_areTwo 16 = .ok (.iload_n 1, 1) := by decide +kernel
theorem dX12_areTwo_17 : decode cX12_areTwo 17 = .ok (.iload_n 2, 1) := by decide +kernel
theorem dX12_areTwo_18 : decode cX12_areTwo 18 = .ok (.if_icmp .eq 7, 3) := by decide +kernel
theorem dX12_areTwo_21 : decode cX12_areTwo 21 = .ok (.iconst 1, 1) := by decide +kernel
theorem dX12_areTwo_22 : decode cX12_areTwo 22 = .ok (.goto 4, 3) := by decide +kernel
theorem dX12_areTwo_25 : decode cX12_areTwo 25 = .ok (.iconst 0, 1) := by decide +kernel
theorem dX12_areTwo_26 : decode cX12_areTwo 26 = .ok (.ireturn, 1) := by decide +kernel
abbrev Mm_areTwo : rx_M := (RX12, yX12_areTwo, cX12_areTwo, 3, (some .boolean), 2)
theorem km_areTwo : rKv Mm_areTwo 2 := ⟨tb_in (i := 26) (j := 13) rfl rfl, tb_in (i := 26) (j := 14) rfl rfl, tb_in (i := 17) (j := 21) rfl rfl, tb_in (i := 26) (j := 9) rfl rfl, ⟨by decide, by decide, by decide +kernel⟩, by decide⟩
def m_areTwo (x1 : Int32) (x2 : Int32) (z_said : Nat → Int32) : Option (Int32) := (m_isStall x1 z_said).bind (fun q1 => (if q1 = 0 then some ((0 : Int32)) else (m_isStall x2 z_said).bind (fun q3 => (if q3 = 0 then some ((0 : Int32)) else (if x1 = x2 then some ((0 : Int32)) else some ((1 : Int32)))))))
set_option maxRecDepth 20000 in
theorem cm_areTwo {q : Int32} {x1 : Int32} {x2 : Int32} (h : m_areTwo x1 x2 z_said = some q) : rMet l D Z (ty7 K) Mm_areTwo [.ref (ad 0), .int x1, .int x2] (wM K ad z_tape z_taped z_rules z_sign z_length z_clause z_clauses z_read z_next z_wrong z_number z_text z_made z_deep z_lines z_open z_opened z_stack z_top z_word z_said z_force z_x z_absent z_isRaining z_wasSaid z_undone z_kept z_order z_bestOrder z_hasBy z_wealthThen z_isFit z_tillThen z_drawX z_images z_imageForce z_imageX z_isMade) (wM K ad z_tape z_taped z_rules z_sign z_length z_clause z_clauses z_read z_next z_wrong z_number z_text z_made z_deep z_lines z_open z_opened z_stack z_top z_word z_said z_force z_x z_absent z_isRaining z_wasSaid z_undone z_kept z_order z_bestOrder z_hasBy z_wealthThen z_isFit z_tillThen z_drawX z_images z_imageForce z_imageX z_isMade) (some (.int q)) := by
  refine rMet.of (by decide) rfl (Nat.le_of_ble_eq_true rfl) ?_
  refine r_sub (lv' := [(0, .ref (ad 0)), (1, .int x1), (2, .int x2)]) [0, 1, 2] rfl ?_
  unfold m_areTwo at h
  refine r_aload_n 0 dX12_areTwo_0 rfl ?_
  refine r_iload_n 1 dX12_areTwo_1 rfl ?_
  obtain ⟨q1, h1, h⟩ := bd_some h
  refine cvM (st := []) (cm_isStall h1) rfl rfl (Nat.le_of_ble_eq_true rfl) km_isStall (tb_in (i := 24) (j := 15) rfl rfl) (by decide) rfl dX12_areTwo_2 ?_
  refine r_if_eq 25 dX12_areTwo_5 (by decide) (fun c2 => ?_) (fun c2 => ?_)
  · replace h := it_pos c2 h
    refine r_iconst (x := (0 : Int32)) dX12_areTwo_25 (by decide) ?_
    have hq := Option.some.inj h
    subst hq
    exact r_zret (ty := .boolean) rfl rfl dX12_areTwo_26
  · replace h := it_neg c2 h
    refine r_aload_n 0 dX12_areTwo_8 rfl ?_
    refine r_iload_n 2 dX12_areTwo_9 rfl ?_
    obtain ⟨q3, h3, h⟩ := bd_some h
    refine cvM (st := []) (cm_isStall h3) rfl rfl (Nat.le_of_ble_eq_true rfl) km_isStall (tb_in (i := 24) (j := 15) rfl rfl) (by decide) rfl dX12_areTwo_10 ?_
    refine r_if_eq 25 dX12_areTwo_13 (by decide) (fun c4 => ?_) (fun c4 => ?_)
    · replace h := it_pos c4 h
      refine r_iconst (x := (0 : Int32)) dX12_areTwo_25 (by decide) ?_
      have hq := Option.some.inj h
      subst hq
      exact r_zret (ty := .boolean) rfl rfl dX12_areTwo_26
    · replace h := it_neg c4 h
      refine r_iload_n 1 dX12_areTwo_16 rfl ?_
      refine r_iload_n 2 dX12_areTwo_17 rfl ?_
      refine r_icmp_eq 25 dX12_areTwo_18 (by decide) (fun c5 => ?_) (fun c5 => ?_)
      · replace h := it_pos c5 h
        refine r_iconst (x := (0 : Int32)) dX12_areTwo_25 (by decide) ?_
        have hq := Option.some.inj h
        subst hq
        exact r_zret (ty := .boolean) rfl rfl dX12_areTwo_26
      · replace h := it_neg c5 h
        refine r_iconst (x := (1 : Int32)) dX12_areTwo_21 (by decide) ?_
        refine r_goto 26 dX12_areTwo_22 (by decide) ?_
        have hq := Option.some.inj h
        subst hq
        exact r_zret (ty := .boolean) rfl rfl dX12_areTwo_26
theorem dX12_moves_0 : decode cX12_moves 0 = .ok (.aload_n 0, 1) := by decide +kernel
theorem dX12_moves_1 : decode cX12_moves 1 = .ok (.iload_n 1, 1) := by decide +kernel
theorem dX12_moves_2 : decode cX12_moves 2 = .ok (.invokevirtual 286, 3) := by decide +kernel
theorem dX12_moves_5 : decode cX12_moves 5 = .ok (.istore_n 3, 1) := by decide +kernel
theorem dX12_moves_6 : decode cX12_moves 6 = .ok (.aload_n 0, 1) := by decide +kernel
theorem dX12_moves_7 : decode cX12_moves 7 = .ok (.iload_n 2, 1) := by decide +kernel
theorem dX12_moves_8 : decode cX12_moves 8 = .ok (.invokevirtual 286, 3) := by decide +kernel
theorem dX12_moves_11 : decode cX12_moves 11 = .ok (.istore 4, 2) := by decide +kernel
theorem dX12_moves_13 : decode cX12_moves 13 = .ok (.aload_n 0, 1) := by decide +kernel
theorem dX12_moves_14 : decode cX12_moves 14 = .ok (.getfield 39, 3) := by decide +kernel
theorem dX12_moves_17 : decode cX12_moves 17 = .ok (.bipush 35, 2) := by decide +kernel
theorem dX12_moves_19 : decode cX12_moves 19 = .ok (.iload_n 3, 1) := by decide +kernel
theorem dX12_moves_20 : decode cX12_moves 20 = .ok (.iadd, 1) := by decide +kernel
theorem dX12_moves_21 : decode cX12_moves 21 = .ok (.iload_n 2, 1) := by decide +kernel
theorem dX12_moves_22 : decode cX12_moves 22 = .ok (.iastore, 1) := by decide +kernel
theorem dX12_moves_23 : decode cX12_moves 23 = .ok (.aload_n 0, 1) := by decide +kernel
theorem dX12_moves_24 : decode cX12_moves 24 = .ok (.getfield 39, 3) := by decide +kernel
theorem dX12_moves_27 : decode cX12_moves 27 = .ok (.bipush 35, 2) := by decide +kernel
theorem dX12_moves_29 : decode cX12_moves 29 = .ok (.iload 4, 2) := by decide +kernel
theorem dX12_moves_31 : decode cX12_moves 31 = .ok (.iadd, 1) := by decide +kernel
theorem dX12_moves_32 : decode cX12_moves 32 = .ok (.iload_n 1, 1) := by decide +kernel
theorem dX12_moves_33 : decode cX12_moves 33 = .ok (.iastore, 1) := by decide +kernel
theorem dX12_moves_34 : decode cX12_moves 34 = .ok (.return_, 1) := by decide +kernel
abbrev Mm_moves : rx_M := (RX12, yX12_moves, cX12_moves, 5, none, 2)
theorem km_moves : rKv Mm_moves 2 := ⟨tb_in (i := 26) (j := 16) rfl rfl, tb_in (i := 26) (j := 17) rfl rfl, tb_in (i := 17) (j := 21) rfl rfl, tb_in (i := 26) (j := 10) rfl rfl, ⟨by decide, by decide, by decide +kernel⟩, by decide⟩
def m_moves (x1 : Int32) (x2 : Int32) (z_said : Nat → Int32) : Option ((Nat → Int32)) := (m_placeOf x1 z_said).bind (fun q1 => (m_placeOf x2 z_said).bind (fun q2 => rq (inb ((35 : Int32) + q1) 156) (lt (upd z_said ((35 : Int32) + q1).toNatClampNeg x2) (fun u3 => rq (inb ((35 : Int32) + q2) 156) (lt (upd u3 ((35 : Int32) + q2).toNatClampNeg x1) (fun u4 => some (u4)))))))
set_option maxRecDepth 20000 in
theorem cm_moves {q : (Nat → Int32)} {x1 : Int32} {x2 : Int32} (h : m_moves x1 x2 z_said = some q) : rMet l D Z (ty7 K) Mm_moves [.ref (ad 0), .int x1, .int x2] (wM K ad z_tape z_taped z_rules z_sign z_length z_clause z_clauses z_read z_next z_wrong z_number z_text z_made z_deep z_lines z_open z_opened z_stack z_top z_word z_said z_force z_x z_absent z_isRaining z_wasSaid z_undone z_kept z_order z_bestOrder z_hasBy z_wealthThen z_isFit z_tillThen z_drawX z_images z_imageForce z_imageX z_isMade) (wM K ad z_tape z_taped z_rules z_sign z_length z_clause z_clauses z_read z_next z_wrong z_number z_text z_made z_deep z_lines z_open z_opened z_stack z_top z_word q z_force z_x z_absent z_isRaining z_wasSaid z_undone z_kept z_order z_bestOrder z_hasBy z_wealthThen z_isFit z_tillThen z_drawX z_images z_imageForce z_imageX z_isMade) none := by
  refine rMet.of (by decide) rfl (Nat.le_of_ble_eq_true rfl) ?_
  refine r_sub (lv' := [(0, .ref (ad 0)), (1, .int x1), (2, .int x2)]) [0, 1, 2] rfl ?_
  unfold m_moves at h
  refine r_aload_n 0 dX12_moves_0 rfl ?_
  refine r_iload_n 1 dX12_moves_1 rfl ?_
  obtain ⟨q1, h1, h⟩ := bd_some h
  refine cvM (st := []) (cm_placeOf h1) rfl rfl (Nat.le_of_ble_eq_true rfl) km_placeOf (tb_in (i := 23) (j := 18) rfl rfl) (by decide) rfl dX12_moves_2 ?_
  refine r_istore_n (lv' := [(3, .int q1), (0, .ref (ad 0)), (1, .int x1), (2, .int x2)]) dX12_moves_5 (by decide) rfl ?_
  refine r_aload_n 1 dX12_moves_6 rfl ?_
  refine r_iload_n 3 dX12_moves_7 rfl ?_
  obtain ⟨q2, h2, h⟩ := bd_some h
  refine cvM (st := []) (cm_placeOf h2) rfl rfl (Nat.le_of_ble_eq_true rfl) km_placeOf (tb_in (i := 23) (j := 18) rfl rfl) (by decide) rfl dX12_moves_8 ?_
  refine r_istore (lv' := [(4, .int q2), (3, .int q1), (0, .ref (ad 0)), (1, .int x1), (2, .int x2)]) dX12_moves_11 (by decide) rfl ?_
  refine r_aload_n 2 dX12_moves_13 rfl ?_
  refine gM_said rfl dX12_moves_14 ?_
  refine r_bipush (x := (35 : Int32)) dX12_moves_17 (by decide) ?_
  refine r_iload_n 1 dX12_moves_19 rfl ?_
  refine r_iadd dX12_moves_20 ?_
  refine r_iload_n 4 dX12_moves_21 rfl ?_
  obtain ⟨h3, h⟩ := rq_some h
  obtain ⟨u3, e3, h⟩ := lt_some h
  refine sM_said e3 (inb_in h3) dX12_moves_22 ?_
  refine r_aload_n 2 dX12_moves_23 rfl ?_
  refine gM_said rfl dX12_moves_24 ?_
  refine r_bipush (x := (35 : Int32)) dX12_moves_27 (by decide) ?_
  refine r_iload 0 dX12_moves_29 rfl ?_
  refine r_iadd dX12_moves_31 ?_
  refine r_iload_n 3 dX12_moves_32 rfl ?_
  obtain ⟨h4, h⟩ := rq_some h
  obtain ⟨u4, e4, h⟩ := lt_some h
  refine sM_said e4 (inb_in h4) dX12_moves_33 ?_
  have hq := Option.some.inj h
  subst hq
  exact r_vret rfl dX12_moves_34
theorem dX12_move_0 : decode cX12_move 0 = .ok (.aload_n 0, 1) := by decide +kernel
theorem dX12_move_1 : decode cX12_move 1 = .ok (.iload_n 1, 1) := by decide +kernel
theorem dX12_move_2 : decode cX12_move 2 = .ok (.iload_n 2, 1) := by decide +kernel
theorem dX12_move_3 : decode cX12_move 3 = .ok (.invokevirtual 364, 3) := by decide +kernel
theorem dX12_move_6 : decode cX12_move 6 = .ok (.ifCond .ne 5, 3) := by decide +kernel
theorem dX12_move_9 : decode cX12_move 9 = .ok (.iconst (-1), 1) := by decide +kernel
theorem dX12_move_10 : decode cX12_move 10 = .ok (.ireturn, 1) := by decide +kernel
theorem dX12_move_11 : decode cX12_move 11 = .ok (.aload_n 0, 1) := by decide +kernel
theorem dX12_move_12 : decode cX12_move 12 = .ok (.invokevirtual 361, 3) := by decide +kernel
theorem dX12_move_15 : decode cX12_move 15 = .ok (.aload_n 0, 1) := by decide +kernel
theorem dX12_move_16 : decode cX12_move 16 = .ok (.iload_n 1, 1) := by decide +kernel
theorem dX12_move_17 : decode cX12_move 17 = .ok (.iload_n 2, 1) := by decide +kernel
theorem dX12_move_18 : decode cX12_move 18 = .ok (.invokevirtual 367, 3) := by decide +kernel
theorem dX12_move_21 : decode cX12_move 21 = .ok (.aload_n 0, 1) := by decide +kernel
theorem dX12_move_22 : decode cX12_move 22 = .ok (.iload_n 1, 1) := by decide +kernel
theorem dX12_move_23 : decode cX12_move 23 = .ok (.invokevirtual 286, 3) := by decide +kernel
theorem dX12_move_26 : decode cX12_move 26 = .ok (.ireturn, 1) := by decide +kernel
abbrev Mm_move : rx_M := (RX12, yX12_move, cX12_move, 3, (some .int), 3)
theorem km_move : rKv Mm_move 2 := ⟨tb_in (i := 32) (j := 10) rfl rfl, tb_in (i := 32) (j := 11) rfl rfl, tb_in (i := 17) (j := 21) rfl rfl, tb_in (i := 26) (j := 11) rfl rfl, ⟨by decide, by decide, by decide +kernel⟩, by decide⟩
def m_move (x1 : Int32) (x2 : Int32) (z_said : Nat → Int32) (z_wasSaid : Nat → Int32) (z_undone : Int32) : Option (Int32 × (Nat → Int32) × (Nat → Int32) × Int32) := (m_areTwo x1 x2 z_said).bind (fun q1 => (if q1 = 0 then some ((-1 : Int32), z_said, z_wasSaid, z_undone) else (m_keepsAct z_said z_wasSaid z_undone).bind (fun q3 => (m_moves x1 x2 z_said).bind (fun q4 => (m_placeOf x1 q4).bind (fun q5 => some (q5, q4, q3.1, q3.2))))))
set_option maxRecDepth 20000 in
theorem cm_move {q : Int32 × (Nat → Int32) × (Nat → Int32) × Int32} {x1 : Int32} {x2 : Int32} (h : m_move x1 x2 z_said z_wasSaid z_undone = some q) : rMet l D Z (ty7 K) Mm_move [.ref (ad 0), .int x1, .int x2] (wM K ad z_tape z_taped z_rules z_sign z_length z_clause z_clauses z_read z_next z_wrong z_number z_text z_made z_deep z_lines z_open z_opened z_stack z_top z_word z_said z_force z_x z_absent z_isRaining z_wasSaid z_undone z_kept z_order z_bestOrder z_hasBy z_wealthThen z_isFit z_tillThen z_drawX z_images z_imageForce z_imageX z_isMade) (wM K ad z_tape z_taped z_rules z_sign z_length z_clause z_clauses z_read z_next z_wrong z_number z_text z_made z_deep z_lines z_open z_opened z_stack z_top z_word q.2.1 z_force z_x z_absent z_isRaining q.2.2.1 q.2.2.2 z_kept z_order z_bestOrder z_hasBy z_wealthThen z_isFit z_tillThen z_drawX z_images z_imageForce z_imageX z_isMade) (some (.int q.1)) := by
  refine rMet.of (by decide) rfl (Nat.le_of_ble_eq_true rfl) ?_
  refine r_sub (lv' := [(0, .ref (ad 0)), (1, .int x1), (2, .int x2)]) [0, 1, 2] rfl ?_
  unfold m_move at h
  refine r_aload_n 0 dX12_move_0 rfl ?_
  refine r_iload_n 1 dX12_move_1 rfl ?_
  refine r_iload_n 2 dX12_move_2 rfl ?_
  obtain ⟨q1, h1, h⟩ := bd_some h
  refine cvM (st := []) (cm_areTwo h1) rfl rfl (Nat.le_of_ble_eq_true rfl) km_areTwo (tb_in (i := 26) (j := 12) rfl rfl) (by decide) rfl dX12_move_3 ?_
  refine r_if_ne 11 dX12_move_6 (by decide) (fun c2 => ?_) (fun c2 => ?_)
  · replace h := it_neg c2 h
    refine r_aload_n 0 dX12_move_11 rfl ?_
    obtain ⟨q3, h3, h⟩ := bd_some h
    refine cvM (st := []) (cm_keepsAct h3) rfl rfl (Nat.le_of_ble_eq_true rfl) km_keepsAct (tb_in (i := 26) (j := 5) rfl rfl) (by decide) rfl dX12_move_12 ?_
    refine r_aload_n 0 dX12_move_15 rfl ?_
    refine r_iload_n 1 dX12_move_16 rfl ?_
    refine r_iload_n 2 dX12_move_17 rfl ?_
    obtain ⟨q4, h4, h⟩ := bd_some h
    refine cvM (st := []) (cm_moves h4) rfl rfl (Nat.le_of_ble_eq_true rfl) km_moves (tb_in (i := 26) (j := 15) rfl rfl) (by decide) rfl dX12_move_18 ?_
    refine r_aload_n 0 dX12_move_21 rfl ?_
    refine r_iload_n 1 dX12_move_22 rfl ?_
    obtain ⟨q5, h5, h⟩ := bd_some h
    refine cvM (st := []) (cm_placeOf h5) rfl rfl (Nat.le_of_ble_eq_true rfl) km_placeOf (tb_in (i := 23) (j := 18) rfl rfl) (by decide) rfl dX12_move_23 ?_
    have hq := Option.some.inj h
    subst hq
    exact r_iret rfl dX12_move_26
  · replace h := it_pos c2 h
    refine r_iconst (x := (-1 : Int32)) dX12_move_9 (by decide) ?_
    have hq := Option.some.inj h
    subst hq
    exact r_iret rfl dX12_move_10
theorem dX12_price_0 : decode cX12_price 0 = .ok (.aload_n 0, 1) := by decide +kernel
theorem dX12_price_1 : decode cX12_price 1 = .ok (.iload_n 1, 1) := by decide +kernel
theorem dX12_price_2 : decode cX12_price 2 = .ok (.invokevirtual 311, 3) := by decide +kernel
theorem dX12_price_5 : decode cX12_price 5 = .ok (.ifCond .eq 24, 3) := by decide +kernel
theorem dX12_price_8 : decode cX12_price 8 = .ok (.iload_n 2, 1) := by decide +kernel
theorem dX12_price_9 : decode cX12_price 9 = .ok (.i2l, 1) := by decide +kernel
theorem dX12_price_10 : decode cX12_price 10 = .ok (.lconst 1, 1) := by decide +kernel
theorem dX12_price_11 : decode cX12_price 11 = .ok (.ldc2_w 370, 3) := by decide +kernel
theorem dX12_price_14 : decode cX12_price 14 = .ok (.invokestatic 124, 3) := by decide +kernel
theorem dX12_price_17 : decode cX12_price 17 = .ok (.ifCond .eq 12, 3) := by decide +kernel
theorem dX12_price_20 : decode cX12_price 20 = .ok (.aload_n 0, 1) := by decide +kernel
theorem dX12_price_21 : decode cX12_price 21 = .ok (.iload_n 1, 1) := by decide +kernel
theorem dX12_price_22 : decode cX12_price 22 = .ok (.invokevirtual 305, 3) := by decide +kernel
theorem dX12_price_25 : decode cX12_price 25 = .ok (.iload_n 2, 1) := by decide +kernel
theorem dX12_price_26 : decode cX12_price 26 = .ok (.if_icmp .ne 5, 3) := by decide +kernel
theorem dX12_price_29 : decode cX12_price 29 = .ok (.iconst (-1), 1) := by decide +kernel
theorem dX12_price_30 : decode cX12_price 30 = .ok (.ireturn, 1) := by decide +kernel
theorem dX12_price_31 : decode cX12_price 31 = .ok (.aload_n 0, 1) := by decide +kernel
theorem dX12_price_32 : decode cX12_price 32 = .ok (.invokevirtual 361, 3) := by decide +kernel
theorem dX12_price_35 : decode cX12_price 35 = .ok (.aload_n 0, 1) := by decide +kernel
theorem dX12_price_36 : decode cX12_price 36 = .ok (.iload_n 1, 1) := by decide +kernel
theorem dX12_price_37 : decode cX12_price 37 = .ok (.invokevirtual 305, 3) := by decide +kernel
theorem dX12_price_40 : decode cX12_price 40 = .ok (.istore_n 3, 1) := by decide +kernel
theorem dX12_price_41 : decode cX12_price 41 = .ok (.aload_n 0, 1) := by decide +kernel
theorem dX12_price_42 : decode cX12_price 42 = .ok (.getfield 39, 3) := by decide +kernel
theorem dX12_price_45 : decode cX12_price 45 = .ok (.bipush 11, 2) := by decide +kernel
theorem dX12_price_47 : decode cX12_price 47 = .ok (.iconst 4, 1) := by decide +kernel
theorem dX12_price_48 : decode cX12_price 48 = .ok (.iload_n 1, 1) := by decide +kernel
theorem dX12_price_49 : decode cX12_price 49 = .ok (.imul, 1) := by decide +kernel
theorem dX12_price_50 : decode cX12_price 50 = .ok (.iadd, 1) := by decide +kernel
theorem dX12_price_51 : decode cX12_price 51 = .ok (.iconst 1, 1) := by decide +kernel
theorem dX12_price_52 : decode cX12_price 52 = .ok (.iadd, 1) := by decide +kernel
theorem dX12_price_53 : decode cX12_price 53 = .ok (.iload_n 2, 1) := by decide +kernel
theorem dX12_price_54 : decode cX12_price 54 = .ok (.iastore, 1) := by decide +kernel
theorem dX12_price_55 : decode cX12_price 55 = .ok (.iload_n 3, 1) := by decide +kernel
theorem dX12_price_56 : decode cX12_price 56 = .ok (.ireturn, 1) := by decide +kernel
abbrev Mm_price : rx_M := (RX12, yX12_price, cX12_price, 4, (some .int), 2)
theorem km_price : rKv Mm_price 2 := ⟨tb_in (i := 32) (j := 16) rfl rfl, tb_in (i := 32) (j := 17) rfl rfl, tb_in (i := 17) (j := 21) rfl rfl, tb_in (i := 26) (j := 18) rfl rfl, ⟨by decide, by decide, by decide +kernel⟩, by decide⟩
def m_price (x1 : Int32) (x2 : Int32) (z_said : Nat → Int32) (z_wasSaid : Nat → Int32) (z_undone : Int32) : Option (Int32 × (Nat → Int32) × (Nat → Int32) × Int32) := (m_isStall x1 z_said).bind (fun q1 => (if q1 = 0 then some ((-1 : Int32), z_said, z_wasSaid, z_undone) else (m_in (x2.toInt64) (1 : Int64) (40 : Int64)).bind (fun q3 => (if q3 = 0 then some ((-1 : Int32), z_said, z_wasSaid, z_undone) else (m_priceOf x1 z_said).bind (fun q5 => (if q5 = x2 then some ((-1 : Int32), z_said, z_wasSaid, z_undone) else (m_keepsAct z_said z_wasSaid z_undone).bind (fun q7 => (m_priceOf x1 z_said).bind (fun q8 => rq (inb (((11 : Int32) + ((4 : Int32) * x1)) + (1 : Int32)) 156) (lt (upd z_said (((11 : Int32) + ((4 : Int32) * x1)) + (1 : Int32)).toNatClampNeg x2) (fun u9 => some (q8, u9, q7.1, q7.2)))))))))))
set_option maxRecDepth 20000 in
theorem cm_price {q : Int32 × (Nat → Int32) × (Nat → Int32) × Int32} {x1 : Int32} {x2 : Int32} (h : m_price x1 x2 z_said z_wasSaid z_undone = some q) : rMet l D Z (ty7 K) Mm_price [.ref (ad 0), .int x1, .int x2] (wM K ad z_tape z_taped z_rules z_sign z_length z_clause z_clauses z_read z_next z_wrong z_number z_text z_made z_deep z_lines z_open z_opened z_stack z_top z_word z_said z_force z_x z_absent z_isRaining z_wasSaid z_undone z_kept z_order z_bestOrder z_hasBy z_wealthThen z_isFit z_tillThen z_drawX z_images z_imageForce z_imageX z_isMade) (wM K ad z_tape z_taped z_rules z_sign z_length z_clause z_clauses z_read z_next z_wrong z_number z_text z_made z_deep z_lines z_open z_opened z_stack z_top z_word q.2.1 z_force z_x z_absent z_isRaining q.2.2.1 q.2.2.2 z_kept z_order z_bestOrder z_hasBy z_wealthThen z_isFit z_tillThen z_drawX z_images z_imageForce z_imageX z_isMade) (some (.int q.1)) := by
  refine rMet.of (by decide) rfl (Nat.le_of_ble_eq_true rfl) ?_
  refine r_sub (lv' := [(0, .ref (ad 0)), (1, .int x1), (2, .int x2)]) [0, 1, 2] rfl ?_
  unfold m_price at h
  refine r_aload_n 0 dX12_price_0 rfl ?_
  refine r_iload_n 1 dX12_price_1 rfl ?_
  obtain ⟨q1, h1, h⟩ := bd_some h
  refine cvM (st := []) (cm_isStall h1) rfl rfl (Nat.le_of_ble_eq_true rfl) km_isStall (tb_in (i := 24) (j := 15) rfl rfl) (by decide) rfl dX12_price_2 ?_
  refine r_if_eq 29 dX12_price_5 (by decide) (fun c2 => ?_) (fun c2 => ?_)
  · replace h := it_pos c2 h
    refine r_iconst (x := (-1 : Int32)) dX12_price_29 (by decide) ?_
    have hq := Option.some.inj h
    subst hq
    exact r_iret rfl dX12_price_30
  · replace h := it_neg c2 h
    refine r_iload_n 2 dX12_price_8 rfl ?_
    refine r_i2l dX12_price_9 ?_
    refine r_lconst (x := (1 : Int64)) dX12_price_10 (by decide) ?_
    refine r_ldc2 (x := (40 : Int64)) (tb_in (i := 26) (j := 19) rfl rfl) dX12_price_11 ?_
    obtain ⟨q3, h3, h⟩ := bd_some h
    refine r_callS (st := []) (cm_in h3) rfl rfl (Nat.le_of_ble_eq_true rfl) km_in (tb_in (i := 18) (j := 20) rfl rfl) (by decide) dX12_price_14 ?_
    refine r_if_eq 29 dX12_price_17 (by decide) (fun c4 => ?_) (fun c4 => ?_)
    · replace h := it_pos c4 h
      refine r_iconst (x := (-1 : Int32)) dX12_price_29 (by decide) ?_
      have hq := Option.some.inj h
      subst hq
      exact r_iret rfl dX12_price_30
    · replace h := it_neg c4 h
      refine r_aload_n 0 dX12_price_20 rfl ?_
      refine r_iload_n 1 dX12_price_21 rfl ?_
      obtain ⟨q5, h5, h⟩ := bd_some h
      refine cvM (st := []) (cm_priceOf h5) rfl rfl (Nat.le_of_ble_eq_true rfl) km_priceOf (tb_in (i := 24) (j := 7) rfl rfl) (by decide) rfl dX12_price_22 ?_
      refine r_iload_n 2 dX12_price_25 rfl ?_
      refine r_icmp_ne 31 dX12_price_26 (by decide) (fun c6 => ?_) (fun c6 => ?_)
      · replace h := it_neg c6 h
        refine r_aload_n 0 dX12_price_31 rfl ?_
        obtain ⟨q7, h7, h⟩ := bd_some h
        refine cvM (st := []) (cm_keepsAct h7) rfl rfl (Nat.le_of_ble_eq_true rfl) km_keepsAct (tb_in (i := 26) (j := 5) rfl rfl) (by decide) rfl dX12_price_32 ?_
        refine r_aload_n 0 dX12_price_35 rfl ?_
        refine r_iload_n 1 dX12_price_36 rfl ?_
        obtain ⟨q8, h8, h⟩ := bd_some h
        refine cvM (st := []) (cm_priceOf h8) rfl rfl (Nat.le_of_ble_eq_true rfl) km_priceOf (tb_in (i := 24) (j := 7) rfl rfl) (by decide) rfl dX12_price_37 ?_
        refine r_istore_n (lv' := [(3, .int q8), (0, .ref (ad 0)), (1, .int x1), (2, .int x2)]) dX12_price_40 (by decide) rfl ?_
        refine r_aload_n 1 dX12_price_41 rfl ?_
        refine gM_said rfl dX12_price_42 ?_
        refine r_bipush (x := (11 : Int32)) dX12_price_45 (by decide) ?_
        refine r_iconst (x := (4 : Int32)) dX12_price_47 (by decide) ?_
        refine r_iload_n 2 dX12_price_48 rfl ?_
        refine r_imul dX12_price_49 ?_
        refine r_iadd dX12_price_50 ?_
        refine r_iconst (x := (1 : Int32)) dX12_price_51 (by decide) ?_
        refine r_iadd dX12_price_52 ?_
        refine r_iload_n 3 dX12_price_53 rfl ?_
        obtain ⟨h9, h⟩ := rq_some h
        obtain ⟨u9, e9, h⟩ := lt_some h
        refine sM_said e9 (inb_in h9) dX12_price_54 ?_
        refine r_iload_n 0 dX12_price_55 rfl ?_
        have hq := Option.some.inj h
        subst hq
        exact r_iret rfl dX12_price_56
      · replace h := it_pos c6 h
        refine r_iconst (x := (-1 : Int32)) dX12_price_29 (by decide) ?_
        have hq := Option.some.inj h
        subst hq
        exact r_iret rfl dX12_price_30
theorem dX12_grudge_0 : decode cX12_grudge 0 = .ok (.aload_n 0, 1) := by decide +kernel
theorem dX12_grudge_1 : decode cX12_grudge 1 = .ok (.iload_n 1, 1) := by decide +kernel
theorem dX12_grudge_2 : decode cX12_grudge 2 = .ok (.iload_n 2, 1) := by decide +kernel
theorem dX12_grudge_3 : decode cX12_grudge 3 = .ok (.invokevirtual 364, 3) := by decide +kernel
theorem dX12_grudge_6 : decode cX12_grudge 6 = .ok (.ifCond .ne 5, 3) := by decide +kernel
theorem dX12_grudge_9 : decode cX12_grudge 9 = .ok (.iconst (-1), 1) := by decide +kernel
theorem dX12_grudge_10 : decode cX12_grudge 10 = .ok (.ireturn, 1) := by decide +kernel
theorem dX12_grudge_11 : decode cX12_grudge 11 = .ok (.aload_n 0, 1) := by decide +kernel
theorem dX12_grudge_12 : decode cX12_grudge 12 = .ok (.invokevirtual 361, 3) := by decide +kernel
theorem dX12_grudge_15 : decode cX12_grudge 15 = .ok (.aload_n 0, 1) := by decide +kernel
theorem dX12_grudge_16 : decode cX12_grudge 16 = .ok (.getfield 39, 3) := by decide +kernel
theorem dX12_grudge_19 : decode cX12_grudge 19 = .ok (.bipush 41, 2) := by decide +kernel
theorem dX12_grudge_21 : decode cX12_grudge 21 = .ok (.iload_n 1, 1) := by decide +kernel
theorem dX12_grudge_22 : decode cX12_grudge 22 = .ok (.iadd, 1) := by decide +kernel
theorem dX12_grudge_23 : decode cX12_grudge 23 = .ok (.dup2, 1) := by decide +kernel
theorem dX12_grudge_24 : decode cX12_grudge 24 = .ok (.iaload, 1) := by decide +kernel
theorem dX12_grudge_25 : decode cX12_grudge 25 = .ok (.iconst 1, 1) := by decide +kernel
theorem dX12_grudge_26 : decode cX12_grudge 26 = .ok (.iload_n 2, 1) := by decide +kernel
theorem dX12_grudge_27 : decode cX12_grudge 27 = .ok (.ishl, 1) := by decide +kernel
theorem dX12_grudge_28 : decode cX12_grudge 28 = .ok (.ixor, 1) := by decide +kernel
theorem dX12_grudge_29 : decode cX12_grudge 29 = .ok (.iastore, 1) := by decide +kernel
theorem dX12_grudge_30 : decode cX12_grudge 30 = .ok (.aload_n 0, 1) := by decide +kernel
theorem dX12_grudge_31 : decode cX12_grudge 31 = .ok (.iload_n 1, 1) := by decide +kernel
theorem dX12_grudge_32 : decode cX12_grudge 32 = .ok (.iload_n 2, 1) := by decide +kernel
theorem dX12_grudge_33 : decode cX12_grudge 33 = .ok (.invokevirtual 299, 3) := by decide +kernel
theorem dX12_grudge_36 : decode cX12_grudge 36 = .ok (.ifCond .eq 7, 3) := by decide +kernel
theorem dX12_grudge_39 : decode cX12_grudge 39 = .ok (.iconst 1, 1) := by decide +kernel
theorem dX12_grudge_40 : decode cX12_grudge 40 = .ok (.goto 4, 3) := by decide +kernel
theorem dX12_grudge_43 : decode cX12_grudge 43 = .ok (.iconst 0, 1) := by decide +kernel
theorem dX12_grudge_44 : decode cX12_grudge 44 = .ok (.ireturn, 1) := by decide +kernel
abbrev Mm_grudge : rx_M := (RX12, yX12_grudge, cX12_grudge, 3, (some .int), 3)
theorem km_grudge : rKv Mm_grudge 2 := ⟨tb_in (i := 32) (j := 22) rfl rfl, tb_in (i := 32) (j := 23) rfl rfl, tb_in (i := 17) (j := 21) rfl rfl, tb_in (i := 26) (j := 20) rfl rfl, ⟨by decide, by decide, by decide +kernel⟩, by decide⟩
def m_grudge (x1 : Int32) (x2 : Int32) (z_said : Nat → Int32) (z_wasSaid : Nat → Int32) (z_undone : Int32) : Option (Int32 × (Nat → Int32) × (Nat → Int32) × Int32) := (m_areTwo x1 x2 z_said).bind (fun q1 => (if q1 = 0 then some ((-1 : Int32), z_said, z_wasSaid, z_undone) else (m_keepsAct z_said z_wasSaid z_undone).bind (fun q3 => lt ((41 : Int32) + x1) (fun y4 => rq (inb y4 156) (rq (inb y4 156) (lt (upd z_said y4.toNatClampNeg ((z_said y4.toNatClampNeg) ^^^ ((1 : Int32) <<< (x2 &&& 31)))) (fun u6 => (m_bears x1 x2 u6).bind (fun q7 => (if q7 = 0 then some ((0 : Int32), u6, q3.1, q3.2) else some ((1 : Int32), u6, q3.1, q3.2))))))))))
set_option maxRecDepth 20000 in
theorem cm_grudge {q : Int32 × (Nat → Int32) × (Nat → Int32) × Int32} {x1 : Int32} {x2 : Int32} (h : m_grudge x1 x2 z_said z_wasSaid z_undone = some q) : rMet l D Z (ty7 K) Mm_grudge [.ref (ad 0), .int x1, .int x2] (wM K ad z_tape z_taped z_rules z_sign z_length z_clause z_clauses z_read z_next z_wrong z_number z_text z_made z_deep z_lines z_open z_opened z_stack z_top z_word z_said z_force z_x z_absent z_isRaining z_wasSaid z_undone z_kept z_order z_bestOrder z_hasBy z_wealthThen z_isFit z_tillThen z_drawX z_images z_imageForce z_imageX z_isMade) (wM K ad z_tape z_taped z_rules z_sign z_length z_clause z_clauses z_read z_next z_wrong z_number z_text z_made z_deep z_lines z_open z_opened z_stack z_top z_word q.2.1 z_force z_x z_absent z_isRaining q.2.2.1 q.2.2.2 z_kept z_order z_bestOrder z_hasBy z_wealthThen z_isFit z_tillThen z_drawX z_images z_imageForce z_imageX z_isMade) (some (.int q.1)) := by
  refine rMet.of (by decide) rfl (Nat.le_of_ble_eq_true rfl) ?_
  refine r_sub (lv' := [(0, .ref (ad 0)), (1, .int x1), (2, .int x2)]) [0, 1, 2] rfl ?_
  unfold m_grudge at h
  refine r_aload_n 0 dX12_grudge_0 rfl ?_
  refine r_iload_n 1 dX12_grudge_1 rfl ?_
  refine r_iload_n 2 dX12_grudge_2 rfl ?_
  obtain ⟨q1, h1, h⟩ := bd_some h
  refine cvM (st := []) (cm_areTwo h1) rfl rfl (Nat.le_of_ble_eq_true rfl) km_areTwo (tb_in (i := 26) (j := 12) rfl rfl) (by decide) rfl dX12_grudge_3 ?_
  refine r_if_ne 11 dX12_grudge_6 (by decide) (fun c2 => ?_) (fun c2 => ?_)
  · replace h := it_neg c2 h
    refine r_aload_n 0 dX12_grudge_11 rfl ?_
    obtain ⟨q3, h3, h⟩ := bd_some h
    refine cvM (st := []) (cm_keepsAct h3) rfl rfl (Nat.le_of_ble_eq_true rfl) km_keepsAct (tb_in (i := 26) (j := 5) rfl rfl) (by decide) rfl dX12_grudge_12 ?_
    refine r_aload_n 0 dX12_grudge_15 rfl ?_
    refine gM_said rfl dX12_grudge_16 ?_
    refine r_bipush (x := (41 : Int32)) dX12_grudge_19 (by decide) ?_
    refine r_iload_n 1 dX12_grudge_21 rfl ?_
    refine r_iadd dX12_grudge_22 ?_
    obtain ⟨y4, e4, h⟩ := lt_some h
    refine r_top e4 ?_
    refine r_dup2 dX12_grudge_23 rfl rfl ?_
    obtain ⟨h5, h⟩ := rq_some h
    refine lM_said (inb_in h5) dX12_grudge_24 ?_
    refine r_iconst (x := (1 : Int32)) dX12_grudge_25 (by decide) ?_
    refine r_iload_n 2 dX12_grudge_26 rfl ?_
    refine r_ishl dX12_grudge_27 ?_
    refine r_ixor dX12_grudge_28 ?_
    obtain ⟨h6, h⟩ := rq_some h
    obtain ⟨u6, e6, h⟩ := lt_some h
    refine sM_said e6 (inb_in h6) dX12_grudge_29 ?_
    refine r_aload_n 0 dX12_grudge_30 rfl ?_
    refine r_iload_n 1 dX12_grudge_31 rfl ?_
    refine r_iload_n 2 dX12_grudge_32 rfl ?_
    obtain ⟨q7, h7, h⟩ := bd_some h
    refine cvM (st := []) (cm_bears h7) rfl rfl (Nat.le_of_ble_eq_true rfl) km_bears (tb_in (i := 24) (j := 0) rfl rfl) (by decide) rfl dX12_grudge_33 ?_
    refine r_if_eq 43 dX12_grudge_36 (by decide) (fun c8 => ?_) (fun c8 => ?_)
    · replace h := it_pos c8 h
      refine r_iconst (x := (0 : Int32)) dX12_grudge_43 (by decide) ?_
      have hq := Option.some.inj h
      subst hq
      exact r_iret rfl dX12_grudge_44
    · replace h := it_neg c8 h
      refine r_iconst (x := (1 : Int32)) dX12_grudge_39 (by decide) ?_
      refine r_goto 44 dX12_grudge_40 (by decide) ?_
      have hq := Option.some.inj h
      subst hq
      exact r_iret rfl dX12_grudge_44
  · replace h := it_pos c2 h
    refine r_iconst (x := (-1 : Int32)) dX12_grudge_9 (by decide) ?_
    have hq := Option.some.inj h
    subst hq
    exact r_iret rfl dX12_grudge_10
theorem dX12_earn_0 : decode cX12_earn 0 = .ok (.aload_n 0, 1) := by decide +kernel
theorem dX12_earn_1 : decode cX12_earn 1 = .ok (.iload_n 1, 1) := by decide +kernel
theorem dX12_earn_2 : decode cX12_earn 2 = .ok (.invokevirtual 317, 3) := by decide +kernel
theorem dX12_earn_5 : decode cX12_earn 5 = .ok (.ifCond .eq 15, 3) := by decide +kernel
theorem dX12_earn_8 : decode cX12_earn 8 = .ok (.iload_n 2, 1) := by decide +kernel
theorem dX12_earn_9 : decode cX12_earn 9 = .ok (.i2l, 1) := by decide +kernel
theorem dX12_earn_10 : decode cX12_earn 10 = .ok (.lconst 1, 1) := by decide +kernel
theorem dX12_earn_11 : decode cX12_earn 11 = .ok (.ldc2_w 372, 3) := by decide +kernel
theorem dX12_earn_14 : decode cX12_earn 14 = .ok (.invokestatic 124, 3) := by decide +kernel
theorem dX12_earn_17 : decode cX12_earn 17 = .ok (.ifCond .ne 5, 3) := by decide +kernel
theorem dX12_earn_20 : decode cX12_earn 20 = .ok (.iconst (-1), 1) := by decide +kernel
theorem dX12_earn_21 : decode cX12_earn 21 = .ok (.ireturn, 1) := by decide +kernel
theorem dX12_earn_22 : decode cX12_earn 22 = .ok (.aload_n 0, 1) := by decide +kernel
theorem dX12_earn_23 : decode cX12_earn 23 = .ok (.invokevirtual 361, 3) := by decide +kernel
theorem dX12_earn_26 : decode cX12_earn 26 = .ok (.aload_n 0, 1) := by decide +kernel
theorem dX12_earn_27 : decode cX12_earn 27 = .ok (.getfield 39, 3) := by decide +kernel
theorem dX12_earn_30 : decode cX12_earn 30 = .ok (.bipush 47, 2) := by decide +kernel
theorem dX12_earn_32 : decode cX12_earn 32 = .ok (.iload_n 1, 1) := by decide +kernel
theorem dX12_earn_33 : decode cX12_earn 33 = .ok (.iadd, 1) := by decide +kernel
theorem dX12_earn_34 : decode cX12_earn 34 = .ok (.iaload, 1) := by decide +kernel
theorem dX12_earn_35 : decode cX12_earn 35 = .ok (.iload_n 2, 1) := by decide +kernel
theorem dX12_earn_36 : decode cX12_earn 36 = .ok (.iadd, 1) := by decide +kernel
theorem dX12_earn_37 : decode cX12_earn 37 = .ok (.istore_n 3, 1) := by decide +kernel
theorem dX12_earn_38 : decode cX12_earn 38 = .ok (.aload_n 0, 1) := by decide +kernel
theorem dX12_earn_39 : decode cX12_earn 39 = .ok (.getfield 39, 3) := by decide +kernel
theorem dX12_earn_42 : decode cX12_earn 42 = .ok (.bipush 47, 2) := by decide +kernel
theorem dX12_earn_44 : decode cX12_earn 44 = .ok (.iload_n 1, 1) := by decide +kernel
theorem dX12_earn_45 : decode cX12_earn 45 = .ok (.iadd, 1) := by decide +kernel
theorem dX12_earn_46 : decode cX12_earn 46 = .ok (.iload_n 3, 1) := by decide +kernel
theorem dX12_earn_47 : decode cX12_earn 47 = .ok (.sipush 999, 3) := by decide +kernel
theorem dX12_earn_50 : decode cX12_earn 50 = .ok (.if_icmp .le 9, 3) := by decide +kernel
theorem dX12_earn_53 : decode cX12_earn 53 = .ok (.sipush 999, 3) := by decide +kernel
theorem dX12_earn_56 : decode cX12_earn 56 = .ok (.goto 4, 3) := by decide +kernel
theorem dX12_earn_59 : decode cX12_earn 59 = .ok (.iload_n 3, 1) := by decide +kernel
theorem dX12_earn_60 : decode cX12_earn 60 = .ok (.iastore, 1) := by decide +kernel
theorem dX12_earn_61 : decode cX12_earn 61 = .ok (.aload_n 0, 1) := by decide +kernel
theorem dX12_earn_62 : decode cX12_earn 62 = .ok (.getfield 39, 3) := by decide +kernel
theorem dX12_earn_65 : decode cX12_earn 65 = .ok (.bipush 47, 2) := by decide +kernel
theorem dX12_earn_67 : decode cX12_earn 67 = .ok (.iload_n 1, 1) := by decide +kernel
theorem dX12_earn_68 : decode cX12_earn 68 = .ok (.iadd, 1) := by decide +kernel
theorem dX12_earn_69 : decode cX12_earn 69 = .ok (.iaload, 1) := by decide +kernel
theorem dX12_earn_70 : decode cX12_earn 70 = .ok (.ireturn, 1) := by decide +kernel
abbrev Mm_earn : rx_M := (RX12, yX12_earn, cX12_earn, 4, (some .int), 2)
theorem km_earn : rKv Mm_earn 2 := ⟨tb_in (i := 32) (j := 28) rfl rfl, tb_in (i := 32) (j := 29) rfl rfl, tb_in (i := 17) (j := 21) rfl rfl, tb_in (i := 26) (j := 21) rfl rfl, ⟨by decide, by decide, by decide +kernel⟩, by decide⟩
def m_earn (x1 : Int32) (x2 : Int32) (z_said : Nat → Int32) (z_wasSaid : Nat → Int32) (z_undone : Int32) : Option (Int32 × (Nat → Int32) × (Nat → Int32) × Int32) := (m_isBuyer x1 z_said).bind (fun q1 => (if q1 = 0 then some ((-1 : Int32), z_said, z_wasSaid, z_undone) else (m_in (x2.toInt64) (1 : Int64) (99 : Int64)).bind (fun q3 => (if q3 = 0 then some ((-1 : Int32), z_said, z_wasSaid, z_undone) else (m_keepsAct z_said z_wasSaid z_undone).bind (fun q5 => rq (inb ((47 : Int32) + x1) 156) (lt ((z_said ((47 : Int32) + x1).toNatClampNeg) + x2) (fun y7 => (if y7 ≤ (999 : Int32) then rq (inb ((47 : Int32) + x1) 156) (lt (upd z_said ((47 : Int32) + x1).toNatClampNeg y7) (fun u9 => rq (inb ((47 : Int32) + x1) 156) (some ((u9 ((47 : Int32) + x1).toNatClampNeg), u9, q5.1, q5.2)))) else rq (inb ((47 : Int32) + x1) 156) (lt (upd z_said ((47 : Int32) + x1).toNatClampNeg (999 : Int32)) (fun u11 => rq (inb ((47 : Int32) + x1) 156) (some ((u11 ((47 : Int32) + x1).toNatClampNeg), u11, q5.1, q5.2))))))))))))
set_option maxRecDepth 20000 in
theorem cm_earn {q : Int32 × (Nat → Int32) × (Nat → Int32) × Int32} {x1 : Int32} {x2 : Int32} (h : m_earn x1 x2 z_said z_wasSaid z_undone = some q) : rMet l D Z (ty7 K) Mm_earn [.ref (ad 0), .int x1, .int x2] (wM K ad z_tape z_taped z_rules z_sign z_length z_clause z_clauses z_read z_next z_wrong z_number z_text z_made z_deep z_lines z_open z_opened z_stack z_top z_word z_said z_force z_x z_absent z_isRaining z_wasSaid z_undone z_kept z_order z_bestOrder z_hasBy z_wealthThen z_isFit z_tillThen z_drawX z_images z_imageForce z_imageX z_isMade) (wM K ad z_tape z_taped z_rules z_sign z_length z_clause z_clauses z_read z_next z_wrong z_number z_text z_made z_deep z_lines z_open z_opened z_stack z_top z_word q.2.1 z_force z_x z_absent z_isRaining q.2.2.1 q.2.2.2 z_kept z_order z_bestOrder z_hasBy z_wealthThen z_isFit z_tillThen z_drawX z_images z_imageForce z_imageX z_isMade) (some (.int q.1)) := by
  refine rMet.of (by decide) rfl (Nat.le_of_ble_eq_true rfl) ?_
  refine r_sub (lv' := [(0, .ref (ad 0)), (1, .int x1), (2, .int x2)]) [0, 1, 2] rfl ?_
  unfold m_earn at h
  refine r_aload_n 0 dX12_earn_0 rfl ?_
  refine r_iload_n 1 dX12_earn_1 rfl ?_
  obtain ⟨q1, h1, h⟩ := bd_some h
  refine cvM (st := []) (cm_isBuyer h1) rfl rfl (Nat.le_of_ble_eq_true rfl) km_isBuyer (tb_in (i := 24) (j := 24) rfl rfl) (by decide) rfl dX12_earn_2 ?_
  refine r_if_eq 20 dX12_earn_5 (by decide) (fun c2 => ?_) (fun c2 => ?_)
  · replace h := it_pos c2 h
    refine r_iconst (x := (-1 : Int32)) dX12_earn_20 (by decide) ?_
    have hq := Option.some.inj h
    subst hq
    exact r_iret rfl dX12_earn_21
  · replace h := it_neg c2 h
    refine r_iload_n 2 dX12_earn_8 rfl ?_
    refine r_i2l dX12_earn_9 ?_
    refine r_lconst (x := (1 : Int64)) dX12_earn_10 (by decide) ?_
    refine r_ldc2 (x := (99 : Int64)) (tb_in (i := 26) (j := 22) rfl rfl) dX12_earn_11 ?_
    obtain ⟨q3, h3, h⟩ := bd_some h
    refine r_callS (st := []) (cm_in h3) rfl rfl (Nat.le_of_ble_eq_true rfl) km_in (tb_in (i := 18) (j := 20) rfl rfl) (by decide) dX12_earn_14 ?_
    refine r_if_ne 22 dX12_earn_17 (by decide) (fun c4 => ?_) (fun c4 => ?_)
    · replace h := it_neg c4 h
      refine r_aload_n 0 dX12_earn_22 rfl ?_
      obtain ⟨q5, h5, h⟩ := bd_some h
      refine cvM (st := []) (cm_keepsAct h5) rfl rfl (Nat.le_of_ble_eq_true rfl) km_keepsAct (tb_in (i := 26) (j := 5) rfl rfl) (by decide) rfl dX12_earn_23 ?_
      refine r_aload_n 0 dX12_earn_26 rfl ?_
      refine gM_said rfl dX12_earn_27 ?_
      refine r_bipush (x := (47 : Int32)) dX12_earn_30 (by decide) ?_
      refine r_iload_n 1 dX12_earn_32 rfl ?_
      refine r_iadd dX12_earn_33 ?_
      obtain ⟨h6, h⟩ := rq_some h
      refine lM_said (inb_in h6) dX12_earn_34 ?_
      refine r_iload_n 2 dX12_earn_35 rfl ?_
      refine r_iadd dX12_earn_36 ?_
      obtain ⟨y7, e7, h⟩ := lt_some h
      refine r_top e7 ?_
      refine r_istore_n (lv' := [(3, .int y7), (0, .ref (ad 0)), (1, .int x1), (2, .int x2)]) dX12_earn_37 (by decide) rfl ?_
      refine r_aload_n 1 dX12_earn_38 rfl ?_
      refine gM_said rfl dX12_earn_39 ?_
      refine r_bipush (x := (47 : Int32)) dX12_earn_42 (by decide) ?_
      refine r_iload_n 2 dX12_earn_44 rfl ?_
      refine r_iadd dX12_earn_45 ?_
      refine r_iload_n 0 dX12_earn_46 rfl ?_
      refine r_sipush (x := (999 : Int32)) dX12_earn_47 (by decide) ?_
      refine r_icmp_le 59 dX12_earn_50 (by decide) (fun c8 => ?_) (fun c8 => ?_)
      · replace h := it_pos c8 h
        refine r_iload_n 0 dX12_earn_59 rfl ?_
        obtain ⟨h9, h⟩ := rq_some h
        obtain ⟨u9, e9, h⟩ := lt_some h
        refine sM_said e9 (inb_in h9) dX12_earn_60 ?_
        refine r_aload_n 1 dX12_earn_61 rfl ?_
        refine gM_said rfl dX12_earn_62 ?_
        refine r_bipush (x := (47 : Int32)) dX12_earn_65 (by decide) ?_
        refine r_iload_n 2 dX12_earn_67 rfl ?_
        refine r_iadd dX12_earn_68 ?_
        obtain ⟨h10, h⟩ := rq_some h
        refine lM_said (inb_in h10) dX12_earn_69 ?_
        have hq := Option.some.inj h
        subst hq
        exact r_iret rfl dX12_earn_70
      · replace h := it_neg c8 h
        refine r_sipush (x := (999 : Int32)) dX12_earn_53 (by decide) ?_
        refine r_goto 60 dX12_earn_56 (by decide) ?_
        obtain ⟨h11, h⟩ := rq_some h
        obtain ⟨u11, e11, h⟩ := lt_some h
        refine sM_said e11 (inb_in h11) dX12_earn_60 ?_
        refine r_aload_n 1 dX12_earn_61 rfl ?_
        refine gM_said rfl dX12_earn_62 ?_
        refine r_bipush (x := (47 : Int32)) dX12_earn_65 (by decide) ?_
        refine r_iload_n 2 dX12_earn_67 rfl ?_
        refine r_iadd dX12_earn_68 ?_
        obtain ⟨h12, h⟩ := rq_some h
        refine lM_said (inb_in h12) dX12_earn_69 ?_
        have hq := Option.some.inj h
        subst hq
        exact r_iret rfl dX12_earn_70
    · replace h := it_pos c4 h
      refine r_iconst (x := (-1 : Int32)) dX12_earn_20 (by decide) ?_
      have hq := Option.some.inj h
      subst hq
      exact r_iret rfl dX12_earn_21
theorem dX12_keeps_0 : decode cX12_keeps 0 = .ok (.iconst 0, 1) := by decide +kernel
theorem dX12_keeps_1 : decode cX12_keeps 1 = .ok (.istore_n 1, 1) := by decide +kernel
theorem dX12_keeps_2 : decode cX12_keeps 2 = .ok (.iload_n 1, 1) := by decide +kernel
theorem dX12_keeps_3 : decode cX12_keeps 3 = .ok (.bipush 79, 2) := by decide +kernel
theorem dX12_keeps_5 : decode cX12_keeps 5 = .ok (.if_icmp .ge 24, 3) := by decide +kernel
theorem dX12_keeps_8 : decode cX12_keeps 8 = .ok (.aload_n 0, 1) := by decide +kernel
theorem dX12_keeps_9 : decode cX12_keeps 9 = .ok (.getfield 52, 3) := by decide +kernel
theorem dX12_keeps_12 : decode cX12_keeps 12 = .ok (.iload_n 1, 1) := by decide +kernel
theorem dX12_keeps_13 : decode cX12_keeps 13 = .ok (.aload_n 0, 1) := by decide +kernel
theorem dX12_keeps_14 : decode cX12_keeps 14 = .ok (.getfield 39, 3) := by decide +kernel
theorem dX12_keeps_17 : decode cX12_keeps 17 = .ok (.bipush 10, 2) := by decide +kernel
theorem dX12_keeps_19 : decode cX12_keeps 19 = .ok (.iload_n 1, 1) := by decide +kernel
theorem dX12_keeps_20 : decode cX12_keeps 20 = .ok (.iadd, 1) := by decide +kernel
theorem dX12_keeps_21 : decode cX12_keeps 21 = .ok (.iaload, 1) := by decide +kernel
theorem dX12_keeps_22 : decode cX12_keeps 22 = .ok (.iastore, 1) := by decide +kernel
theorem dX12_keeps_23 : decode cX12_keeps 23 = .ok (.iinc 1 1, 3) := by decide +kernel
theorem dX12_keeps_26 : decode cX12_keeps 26 = .ok (.goto (-24), 3) := by decide +kernel
theorem dX12_keeps_29 : decode cX12_keeps 29 = .ok (.return_, 1) := by decide +kernel
abbrev Mm_keeps : rx_M := (RX12, yX12_keeps, cX12_keeps, 2, none, 1)
theorem km_keeps : rKv Mm_keeps 0 := ⟨tb_in (i := 26) (j := 27) rfl rfl, tb_in (i := 26) (j := 28) rfl rfl, tb_in (i := 17) (j := 21) rfl rfl, tb_in (i := 26) (j := 23) rfl rfl, ⟨by decide, by decide, by decide +kernel⟩, by decide⟩
def m_keeps_l2 (z_said : Nat → Int32) : Nat → Int32 → (Nat → Int32) → Option ((Nat → Int32))
  | 0, _, _ => none
  | n + 1, x1, z_kept => (if (79 : Int32) ≤ x1 then some (z_kept) else rq (inb ((10 : Int32) + x1) 156) (rq (inb x1 79) (lt (upd z_kept x1.toNatClampNeg (z_said ((10 : Int32) + x1).toNatClampNeg)) (fun u3 => m_keeps_l2 z_said n (x1 + (1 : Int32)) u3))))
set_option maxRecDepth 20000 in
theorem cm_keeps_l2 {q : (Nat → Int32)}   : ∀ (n : Nat) (x1 : Int32) (z_kept : Nat → Int32), m_keeps_l2 z_said n x1 z_kept = some q → rW l D Z (ty7 K) Mm_keeps 2 [(0, .ref (ad 0)), (1, .int x1)] [] (wM K ad z_tape z_taped z_rules z_sign z_length z_clause z_clauses z_read z_next z_wrong z_number z_text z_made z_deep z_lines z_open z_opened z_stack z_top z_word z_said z_force z_x z_absent z_isRaining z_wasSaid z_undone z_kept z_order z_bestOrder z_hasBy z_wealthThen z_isFit z_tillThen z_drawX z_images z_imageForce z_imageX z_isMade) (wM K ad z_tape z_taped z_rules z_sign z_length z_clause z_clauses z_read z_next z_wrong z_number z_text z_made z_deep z_lines z_open z_opened z_stack z_top z_word z_said z_force z_x z_absent z_isRaining z_wasSaid z_undone q z_order z_bestOrder z_hasBy z_wealthThen z_isFit z_tillThen z_drawX z_images z_imageForce z_imageX z_isMade) none := by
  intro n
  induction n with
  | zero => intro x1 z_kept h; unfold m_keeps_l2 at h; cases h
  | succ n ih =>
    intro x1 z_kept h
    unfold m_keeps_l2 at h
    refine r_iload_n 1 dX12_keeps_2 rfl ?_
    refine r_bipush (x := (79 : Int32)) dX12_keeps_3 (by decide) ?_
    refine r_icmp_ge 29 dX12_keeps_5 (by decide) (fun c1 => ?_) (fun c1 => ?_)
    · replace h := it_pos c1 h
      have hq := Option.some.inj h
      subst hq
      exact r_vret rfl dX12_keeps_29
    · replace h := it_neg c1 h
      refine r_aload_n 0 dX12_keeps_8 rfl ?_
      refine gM_kept rfl dX12_keeps_9 ?_
      refine r_iload_n 1 dX12_keeps_12 rfl ?_
      refine r_aload_n 0 dX12_keeps_13 rfl ?_
      refine gM_said rfl dX12_keeps_14 ?_
      refine r_bipush (x := (10 : Int32)) dX12_keeps_17 (by decide) ?_
      refine r_iload_n 1 dX12_keeps_19 rfl ?_
      refine r_iadd dX12_keeps_20 ?_
      obtain ⟨h2, h⟩ := rq_some h
      refine lM_said (inb_in h2) dX12_keeps_21 ?_
      obtain ⟨h3, h⟩ := rq_some h
      obtain ⟨u3, e3, h⟩ := lt_some h
      refine sM_kept e3 (inb_in h3) dX12_keeps_22 ?_
      refine r_iinc (y := (x1 + (1 : Int32))) (lv' := [(1, .int (x1 + (1 : Int32))), (0, .ref (ad 0))]) 1 dX12_keeps_23 rfl rfl (by decide) rfl ?_
      refine r_goto 2 dX12_keeps_26 (by decide) ?_
      refine r_sub (lv' := [(0, .ref (ad 0)), (1, .int (x1 + (1 : Int32)))]) [1, 0] rfl ?_
      exact ih _ _ h
def m_keeps (z_said : Nat → Int32) (z_kept : Nat → Int32) : Option ((Nat → Int32)) := m_keeps_l2 z_said FU (0 : Int32) z_kept
set_option maxRecDepth 20000 in
theorem cm_keeps {q : (Nat → Int32)}  (h : m_keeps z_said z_kept = some q) : rMet l D Z (ty7 K) Mm_keeps [.ref (ad 0)] (wM K ad z_tape z_taped z_rules z_sign z_length z_clause z_clauses z_read z_next z_wrong z_number z_text z_made z_deep z_lines z_open z_opened z_stack z_top z_word z_said z_force z_x z_absent z_isRaining z_wasSaid z_undone z_kept z_order z_bestOrder z_hasBy z_wealthThen z_isFit z_tillThen z_drawX z_images z_imageForce z_imageX z_isMade) (wM K ad z_tape z_taped z_rules z_sign z_length z_clause z_clauses z_read z_next z_wrong z_number z_text z_made z_deep z_lines z_open z_opened z_stack z_top z_word z_said z_force z_x z_absent z_isRaining z_wasSaid z_undone q z_order z_bestOrder z_hasBy z_wealthThen z_isFit z_tillThen z_drawX z_images z_imageForce z_imageX z_isMade) none := by
  refine rMet.of (by decide) rfl (Nat.le_of_ble_eq_true rfl) ?_
  refine r_sub (lv' := [(0, .ref (ad 0))]) [0] rfl ?_
  unfold m_keeps at h
  refine r_iconst (x := (0 : Int32)) dX12_keeps_0 (by decide) ?_
  refine r_istore_n (lv' := [(1, .int (0 : Int32)), (0, .ref (ad 0))]) dX12_keeps_1 (by decide) rfl ?_
  refine r_sub (lv' := [(0, .ref (ad 0)), (1, .int (0 : Int32))]) [1, 0] rfl ?_
  exact cm_keeps_l2  FU _ _ h
theorem dX12_laysBack_0 : decode cX12_laysBack 0 = .ok (.iconst 0, 1) := by decide +kernel
theorem dX12_laysBack_1 : decode cX12_laysBack 1 = .ok (.istore_n 1, 1) := by decide +kernel
theorem dX12_laysBack_2 : decode cX12_laysBack 2 = .ok (.iload_n 1, 1) := by decide +kernel
theorem dX12_laysBack_3 : decode cX12_laysBack 3 = .ok (.bipush 79, 2) := by decide +kernel
theorem dX12_laysBack_5 : decode cX12_laysBack 5 = .ok (.if_icmp .ge 24, 3) := by decide +kernel
theorem dX12_laysBack_8 : decode cX12_laysBack 8 = .ok (.aload_n 0, 1) := by decide +kernel
theorem dX12_laysBack_9 : decode cX12_laysBack 9 = .ok (.getfield 39, 3) := by decide +kernel
theorem dX12_laysBack_12 : decode cX12_laysBack 12 = .ok (.bipush 10, 2) := by decide +kernel
theorem dX12_laysBack_14 : decode cX12_laysBack 14 = .ok (.iload_n 1, 1) := by decide +kernel
theorem dX12_laysBack_15 : decode cX12_laysBack 15 = .ok (.iadd, 1) := by decide +kernel
theorem dX12_laysBack_16 : decode cX12_laysBack 16 = .ok (.aload_n 0, 1) := by decide +kernel
theorem dX12_laysBack_17 : decode cX12_laysBack 17 = .ok (.getfield 52, 3) := by decide +kernel
theorem dX12_laysBack_20 : decode cX12_laysBack 20 = .ok (.iload_n 1, 1) := by decide +kernel
theorem dX12_laysBack_21 : decode cX12_laysBack 21 = .ok (.iaload, 1) := by decide +kernel
theorem dX12_laysBack_22 : decode cX12_laysBack 22 = .ok (.iastore, 1) := by decide +kernel
theorem dX12_laysBack_23 : decode cX12_laysBack 23 = .ok (.iinc 1 1, 3) := by decide +kernel
theorem dX12_laysBack_26 : decode cX12_laysBack 26 = .ok (.goto (-24), 3) := by decide +kernel
theorem dX12_laysBack_29 : decode cX12_laysBack 29 = .ok (.return_, 1) := by decide +kernel
abbrev Mm_laysBack : rx_M := (RX12, yX12_laysBack, cX12_laysBack, 2, none, 1)
theorem km_laysBack : rKv Mm_laysBack 0 := ⟨tb_in (i := 27) (j := 4) rfl rfl, tb_in (i := 27) (j := 5) rfl rfl, tb_in (i := 17) (j := 21) rfl rfl, tb_in (i := 26) (j := 24) rfl rfl, ⟨by decide, by decide, by decide +kernel⟩, by decide⟩
def m_laysBack_l2 (z_kept : Nat → Int32) : Nat → Int32 → (Nat → Int32) → Option ((Nat → Int32))
  | 0, _, _ => none
  | n + 1, x1, z_said => (if (79 : Int32) ≤ x1 then some (z_said) else rq (inb x1 79) (rq (inb ((10 : Int32) + x1) 156) (lt (upd z_said ((10 : Int32) + x1).toNatClampNeg (z_kept x1.toNatClampNeg)) (fun u3 => m_laysBack_l2 z_kept n (x1 + (1 : Int32)) u3))))
set_option maxRecDepth 20000 in
theorem cm_laysBack_l2 {q : (Nat → Int32)}   : ∀ (n : Nat) (x1 : Int32) (z_said : Nat → Int32), m_laysBack_l2 z_kept n x1 z_said = some q → rW l D Z (ty7 K) Mm_laysBack 2 [(0, .ref (ad 0)), (1, .int x1)] [] (wM K ad z_tape z_taped z_rules z_sign z_length z_clause z_clauses z_read z_next z_wrong z_number z_text z_made z_deep z_lines z_open z_opened z_stack z_top z_word z_said z_force z_x z_absent z_isRaining z_wasSaid z_undone z_kept z_order z_bestOrder z_hasBy z_wealthThen z_isFit z_tillThen z_drawX z_images z_imageForce z_imageX z_isMade) (wM K ad z_tape z_taped z_rules z_sign z_length z_clause z_clauses z_read z_next z_wrong z_number z_text z_made z_deep z_lines z_open z_opened z_stack z_top z_word q z_force z_x z_absent z_isRaining z_wasSaid z_undone z_kept z_order z_bestOrder z_hasBy z_wealthThen z_isFit z_tillThen z_drawX z_images z_imageForce z_imageX z_isMade) none := by
  intro n
  induction n with
  | zero => intro x1 z_said h; unfold m_laysBack_l2 at h; cases h
  | succ n ih =>
    intro x1 z_said h
    unfold m_laysBack_l2 at h
    refine r_iload_n 1 dX12_laysBack_2 rfl ?_
    refine r_bipush (x := (79 : Int32)) dX12_laysBack_3 (by decide) ?_
    refine r_icmp_ge 29 dX12_laysBack_5 (by decide) (fun c1 => ?_) (fun c1 => ?_)
    · replace h := it_pos c1 h
      have hq := Option.some.inj h
      subst hq
      exact r_vret rfl dX12_laysBack_29
    · replace h := it_neg c1 h
      refine r_aload_n 0 dX12_laysBack_8 rfl ?_
      refine gM_said rfl dX12_laysBack_9 ?_
      refine r_bipush (x := (10 : Int32)) dX12_laysBack_12 (by decide) ?_
      refine r_iload_n 1 dX12_laysBack_14 rfl ?_
      refine r_iadd dX12_laysBack_15 ?_
      refine r_aload_n 0 dX12_laysBack_16 rfl ?_
      refine gM_kept rfl dX12_laysBack_17 ?_
      refine r_iload_n 1 dX12_laysBack_20 rfl ?_
      obtain ⟨h2, h⟩ := rq_some h
      refine lM_kept (inb_in h2) dX12_laysBack_21 ?_
      obtain ⟨h3, h⟩ := rq_some h
      obtain ⟨u3, e3, h⟩ := lt_some h
      refine sM_said e3 (inb_in h3) dX12_laysBack_22 ?_
      refine r_iinc (y := (x1 + (1 : Int32))) (lv' := [(1, .int (x1 + (1 : Int32))), (0, .ref (ad 0))]) 1 dX12_laysBack_23 rfl rfl (by decide) rfl ?_
      refine r_goto 2 dX12_laysBack_26 (by decide) ?_
      refine r_sub (lv' := [(0, .ref (ad 0)), (1, .int (x1 + (1 : Int32)))]) [1, 0] rfl ?_
      exact ih _ _ h
def m_laysBack (z_said : Nat → Int32) (z_kept : Nat → Int32) : Option ((Nat → Int32)) := m_laysBack_l2 z_kept FU (0 : Int32) z_said
set_option maxRecDepth 20000 in
theorem cm_laysBack {q : (Nat → Int32)}  (h : m_laysBack z_said z_kept = some q) : rMet l D Z (ty7 K) Mm_laysBack [.ref (ad 0)] (wM K ad z_tape z_taped z_rules z_sign z_length z_clause z_clauses z_read z_next z_wrong z_number z_text z_made z_deep z_lines z_open z_opened z_stack z_top z_word z_said z_force z_x z_absent z_isRaining z_wasSaid z_undone z_kept z_order z_bestOrder z_hasBy z_wealthThen z_isFit z_tillThen z_drawX z_images z_imageForce z_imageX z_isMade) (wM K ad z_tape z_taped z_rules z_sign z_length z_clause z_clauses z_read z_next z_wrong z_number z_text z_made z_deep z_lines z_open z_opened z_stack z_top z_word q z_force z_x z_absent z_isRaining z_wasSaid z_undone z_kept z_order z_bestOrder z_hasBy z_wealthThen z_isFit z_tillThen z_drawX z_images z_imageForce z_imageX z_isMade) none := by
  refine rMet.of (by decide) rfl (Nat.le_of_ble_eq_true rfl) ?_
  refine r_sub (lv' := [(0, .ref (ad 0))]) [0] rfl ?_
  unfold m_laysBack at h
  refine r_iconst (x := (0 : Int32)) dX12_laysBack_0 (by decide) ?_
  refine r_istore_n (lv' := [(1, .int (0 : Int32)), (0, .ref (ad 0))]) dX12_laysBack_1 (by decide) rfl ?_
  refine r_sub (lv' := [(0, .ref (ad 0)), (1, .int (0 : Int32))]) [1, 0] rfl ?_
  exact cm_laysBack_l2  FU _ _ h
theorem dX12_ahead_0 : decode cX12_ahead 0 = .ok (.aload_n 0, 1) := by decide +kernel
theorem dX12_ahead_1 : decode cX12_ahead 1 = .ok (.iload_n 1, 1) := by decide +kernel
theorem dX12_ahead_2 : decode cX12_ahead 2 = .ok (.invokevirtual 311, 3) := by decide +kernel
theorem dX12_ahead_5 : decode cX12_ahead 5 = .ok (.ifCond .eq 27, 3) := by decide +kernel
theorem dX12_ahead_8 : decode cX12_ahead 8 = .ok (.iload_n 2, 1) := by decide +kernel
theorem dX12_ahead_9 : decode cX12_ahead 9 = .ok (.i2l, 1) := by decide +kernel
theorem dX12_ahead_10 : decode cX12_ahead 10 = .ok (.lconst 0, 1) := by decide +kernel
theorem dX12_ahead_11 : decode cX12_ahead 11 = .ok (.ldc2_w 374, 3) := by decide +kernel
theorem dX12_ahead_14 : decode cX12_ahead 14 = .ok (.invokestatic 124, 3) := by decide +kernel
theorem dX12_ahead_17 : decode cX12_ahead 17 = .ok (.ifCond .eq 15, 3) := by decide +kernel
theorem dX12_ahead_20 : decode cX12_ahead 20 = .ok (.iload_n 3, 1) := by decide +kernel
theorem dX12_ahead_21 : decode cX12_ahead 21 = .ok (.i2l, 1) := by decide +kernel
theorem dX12_ahead_22 : decode cX12_ahead 22 = .ok (.lconst 0, 1) := by decide +kernel
theorem dX12_ahead_23 : decode cX12_ahead 23 = .ok (.ldc2_w 320, 3) := by decide +kernel
theorem dX12_ahead_26 : decode cX12_ahead 26 = .ok (.invokestatic 124, 3) := by decide +kernel
theorem dX12_ahead_29 : decode cX12_ahead 29 = .ok (.ifCond .ne 5, 3) := by decide +kernel
theorem dX12_ahead_32 : decode cX12_ahead 32 = .ok (.iconst (-1), 1) := by decide +kernel
theorem dX12_ahead_33 : decode cX12_ahead 33 = .ok (.ireturn, 1) := by decide +kernel
theorem dX12_ahead_34 : decode cX12_ahead 34 = .ok (.aload_n 0, 1) := by decide +kernel
theorem dX12_ahead_35 : decode cX12_ahead 35 = .ok (.invokevirtual 376, 3) := by decide +kernel
theorem dX12_ahead_38 : decode cX12_ahead 38 = .ok (.aload_n 0, 1) := by decide +kernel
theorem dX12_ahead_39 : decode cX12_ahead 39 = .ok (.iload_n 2, 1) := by decide +kernel
theorem dX12_ahead_40 : decode cX12_ahead 40 = .ok (.invokevirtual 379, 3) := by decide +kernel
theorem dX12_ahead_43 : decode cX12_ahead 43 = .ok (.pop, 1) := by decide +kernel
theorem dX12_ahead_44 : decode cX12_ahead 44 = .ok (.iload_n 3, 1) := by decide +kernel
theorem dX12_ahead_45 : decode cX12_ahead 45 = .ok (.ifCond .ne 11, 3) := by decide +kernel
theorem dX12_ahead_48 : decode cX12_ahead 48 = .ok (.aload_n 0, 1) := by decide +kernel
theorem dX12_ahead_49 : decode cX12_ahead 49 = .ok (.iload_n 1, 1) := by decide +kernel
theorem dX12_ahead_50 : decode cX12_ahead 50 = .ok (.invokevirtual 302, 3) := by decide +kernel
theorem dX12_ahead_53 : decode cX12_ahead 53 = .ok (.goto 21, 3) := by decide +kernel
theorem dX12_ahead_56 : decode cX12_ahead 56 = .ok (.iload_n 3, 1) := by decide +kernel
theorem dX12_ahead_57 : decode cX12_ahead 57 = .ok (.iconst 1, 1) := by decide +kernel
theorem dX12_ahead_58 : decode cX12_ahead 58 = .ok (.if_icmp .ne 11, 3) := by decide +kernel
theorem dX12_ahead_61 : decode cX12_ahead 61 = .ok (.aload_n 0, 1) := by decide +kernel
theorem dX12_ahead_62 : decode cX12_ahead 62 = .ok (.iload_n 1, 1) := by decide +kernel
theorem dX12_ahead_63 : decode cX12_ahead 63 = .ok (.invokevirtual 343, 3) := by decide +kernel
theorem dX12_ahead_66 : decode cX12_ahead 66 = .ok (.goto 8, 3) := by decide +kernel
theorem dX12_ahead_69 : decode cX12_ahead 69 = .ok (.aload_n 0, 1) := by decide +kernel
theorem dX12_ahead_70 : decode cX12_ahead 70 = .ok (.iload_n 1, 1) := by decide +kernel
theorem dX12_ahead_71 : decode cX12_ahead 71 = .ok (.invokevirtual 382, 3) := by decide +kernel
theorem dX12_ahead_74 : decode cX12_ahead 74 = .ok (.istore 4, 2) := by decide +kernel
theorem dX12_ahead_76 : decode cX12_ahead 76 = .ok (.aload_n 0, 1) := by decide +kernel
theorem dX12_ahead_77 : decode cX12_ahead 77 = .ok (.invokevirtual 385, 3) := by decide +kernel
theorem dX12_ahead_80 : decode cX12_ahead 80 = .ok (.iload 4, 2) := by decide +kernel
theorem dX12_ahead_82 : decode cX12_ahead 82 = .ok (.ireturn, 1) := by decide +kernel
abbrev Mm_ahead : rx_M := (RX12, yX12_ahead, cX12_ahead, 5, (some .int), 9)
theorem km_ahead : rKv Mm_ahead 3 := ⟨tb_in (i := 33) (j := 8) rfl rfl, tb_in (i := 33) (j := 9) rfl rfl, tb_in (i := 17) (j := 21) rfl rfl, tb_in (i := 27) (j := 6) rfl rfl, ⟨by decide, by decide, by decide +kernel⟩, by decide⟩
def m_ahead (x1 : Int32) (x2 : Int32) (x3 : Int32) (z_sign : Nat → Int32) (z_clause : Nat → Int32) (z_clauses : Nat → Int32) (z_stack : Nat → Int64) (z_top : Int32) (z_word : Nat → Int64) (z_said : Nat → Int32) (z_force : Int32) (z_absent : Int32) (z_isRaining : Int32) (z_kept : Nat → Int32) : Option (Int32 × (Nat → Int64) × Int32 × (Nat → Int64) × (Nat → Int32) × Int32 × (Nat → Int32)) := (m_isStall x1 z_said).bind (fun q1 => (if q1 = 0 then some ((-1 : Int32), z_stack, z_top, z_word, z_said, z_isRaining, z_kept) else (m_in (x2.toInt64) (0 : Int64) (100 : Int64)).bind (fun q3 => (if q3 = 0 then some ((-1 : Int32), z_stack, z_top, z_word, z_said, z_isRaining, z_kept) else (m_in (x3.toInt64) (0 : Int64) (2 : Int64)).bind (fun q5 => (if q5 = 0 then some ((-1 : Int32), z_stack, z_top, z_word, z_said, z_isRaining, z_kept) else (m_keeps z_said z_kept).bind (fun q7 => (m_passesAll x2 z_sign z_clause z_clauses z_stack z_top z_word z_said z_force z_absent z_isRaining).bind (fun q8 => (if x3 = 0 then (m_goodsOf x1 q8.2.2.2.2.1).bind (fun q15 => (m_laysBack q8.2.2.2.2.1 q7).bind (fun q16 => some (q15, q8.2.1, q8.2.2.1, q8.2.2.2.1, q16, q8.2.2.2.2.2, q7))) else (if x3 = (1 : Int32) then (m_tillOf x1 q8.2.2.2.2.1).bind (fun q13 => (m_laysBack q8.2.2.2.2.1 q7).bind (fun q14 => some (q13, q8.2.1, q8.2.2.1, q8.2.2.2.1, q14, q8.2.2.2.2.2, q7))) else (m_wealthOf x1 q8.2.2.2.2.1).bind (fun q11 => (m_laysBack q8.2.2.2.2.1 q7).bind (fun q12 => some (q11, q8.2.1, q8.2.2.1, q8.2.2.2.1, q12, q8.2.2.2.2.2, q7)))))))))))))
set_option maxRecDepth 20000 in
theorem cm_ahead {q : Int32 × (Nat → Int64) × Int32 × (Nat → Int64) × (Nat → Int32) × Int32 × (Nat → Int32)} {x1 : Int32} {x2 : Int32} {x3 : Int32} (h : m_ahead x1 x2 x3 z_sign z_clause z_clauses z_stack z_top z_word z_said z_force z_absent z_isRaining z_kept = some q) : rMet l D Z (ty7 K) Mm_ahead [.ref (ad 0), .int x1, .int x2, .int x3] (wM K ad z_tape z_taped z_rules z_sign z_length z_clause z_clauses z_read z_next z_wrong z_number z_text z_made z_deep z_lines z_open z_opened z_stack z_top z_word z_said z_force z_x z_absent z_isRaining z_wasSaid z_undone z_kept z_order z_bestOrder z_hasBy z_wealthThen z_isFit z_tillThen z_drawX z_images z_imageForce z_imageX z_isMade) (wM K ad z_tape z_taped z_rules z_sign z_length z_clause z_clauses z_read z_next z_wrong z_number z_text z_made z_deep z_lines z_open z_opened q.2.1 q.2.2.1 q.2.2.2.1 q.2.2.2.2.1 z_force z_x z_absent q.2.2.2.2.2.1 z_wasSaid z_undone q.2.2.2.2.2.2 z_order z_bestOrder z_hasBy z_wealthThen z_isFit z_tillThen z_drawX z_images z_imageForce z_imageX z_isMade) (some (.int q.1)) := by
  refine rMet.of (by decide) rfl (Nat.le_of_ble_eq_true rfl) ?_
  refine r_sub (lv' := [(0, .ref (ad 0)), (1, .int x1), (2, .int x2), (3, .int x3)]) [0, 1, 2, 3] rfl ?_
  unfold m_ahead at h
  refine r_aload_n 0 dX12_ahead_0 rfl ?_
  refine r_iload_n 1 dX12_ahead_1 rfl ?_
  obtain ⟨q1, h1, h⟩ := bd_some h
  refine cvM (st := []) (cm_isStall h1) rfl rfl (Nat.le_of_ble_eq_true rfl) km_isStall (tb_in (i := 24) (j := 15) rfl rfl) (by decide) rfl dX12_ahead_2 ?_
  refine r_if_eq 32 dX12_ahead_5 (by decide) (fun c2 => ?_) (fun c2 => ?_)
  · replace h := it_pos c2 h
    refine r_iconst (x := (-1 : Int32)) dX12_ahead_32 (by decide) ?_
    have hq := Option.some.inj h
    subst hq
    exact r_iret rfl dX12_ahead_33
  · replace h := it_neg c2 h
    refine r_iload_n 2 dX12_ahead_8 rfl ?_
    refine r_i2l dX12_ahead_9 ?_
    refine r_lconst (x := (0 : Int64)) dX12_ahead_10 (by decide) ?_
    refine r_ldc2 (x := (100 : Int64)) (tb_in (i := 26) (j := 25) rfl rfl) dX12_ahead_11 ?_
    obtain ⟨q3, h3, h⟩ := bd_some h
    refine r_callS (st := []) (cm_in h3) rfl rfl (Nat.le_of_ble_eq_true rfl) km_in (tb_in (i := 18) (j := 20) rfl rfl) (by decide) dX12_ahead_14 ?_
    refine r_if_eq 32 dX12_ahead_17 (by decide) (fun c4 => ?_) (fun c4 => ?_)
    · replace h := it_pos c4 h
      refine r_iconst (x := (-1 : Int32)) dX12_ahead_32 (by decide) ?_
      have hq := Option.some.inj h
      subst hq
      exact r_iret rfl dX12_ahead_33
    · replace h := it_neg c4 h
      refine r_iload_n 3 dX12_ahead_20 rfl ?_
      refine r_i2l dX12_ahead_21 ?_
      refine r_lconst (x := (0 : Int64)) dX12_ahead_22 (by decide) ?_
      refine r_ldc2 (x := (2 : Int64)) (tb_in (i := 24) (j := 23) rfl rfl) dX12_ahead_23 ?_
      obtain ⟨q5, h5, h⟩ := bd_some h
      refine r_callS (st := []) (cm_in h5) rfl rfl (Nat.le_of_ble_eq_true rfl) km_in (tb_in (i := 18) (j := 20) rfl rfl) (by decide) dX12_ahead_26 ?_
      refine r_if_ne 34 dX12_ahead_29 (by decide) (fun c6 => ?_) (fun c6 => ?_)
      · replace h := it_neg c6 h
        refine r_aload_n 0 dX12_ahead_34 rfl ?_
        obtain ⟨q7, h7, h⟩ := bd_some h
        refine cvM (st := []) (cm_keeps h7) rfl rfl (Nat.le_of_ble_eq_true rfl) km_keeps (tb_in (i := 26) (j := 26) rfl rfl) (by decide) rfl dX12_ahead_35 ?_
        refine r_aload_n 0 dX12_ahead_38 rfl ?_
        refine r_iload_n 2 dX12_ahead_39 rfl ?_
        obtain ⟨q8, h8, h⟩ := bd_some h
        refine cvM (st := []) (cm_passesAll h8) rfl rfl (Nat.le_of_ble_eq_true rfl) km_passesAll (tb_in (i := 26) (j := 29) rfl rfl) (by decide) rfl dX12_ahead_40 ?_
        refine r_pop dX12_ahead_43 rfl ?_
        refine r_iload_n 3 dX12_ahead_44 rfl ?_
        refine r_if_ne 56 dX12_ahead_45 (by decide) (fun c9 => ?_) (fun c9 => ?_)
        · replace h := it_neg c9 h
          refine r_iload_n 3 dX12_ahead_56 rfl ?_
          refine r_iconst (x := (1 : Int32)) dX12_ahead_57 (by decide) ?_
          refine r_icmp_ne 69 dX12_ahead_58 (by decide) (fun c10 => ?_) (fun c10 => ?_)
          · replace h := it_neg c10 h
            refine r_aload_n 0 dX12_ahead_69 rfl ?_
            refine r_iload_n 1 dX12_ahead_70 rfl ?_
            obtain ⟨q11, h11, h⟩ := bd_some h
            refine cvM (st := []) (cm_wealthOf h11) rfl rfl (Nat.le_of_ble_eq_true rfl) km_wealthOf (tb_in (i := 27) (j := 0) rfl rfl) (by decide) rfl dX12_ahead_71 ?_
            refine r_istore (lv' := [(4, .int q11), (0, .ref (ad 0)), (1, .int x1), (2, .int x2), (3, .int x3)]) dX12_ahead_74 (by decide) rfl ?_
            refine r_aload_n 1 dX12_ahead_76 rfl ?_
            obtain ⟨q12, h12, h⟩ := bd_some h
            refine cvM (st := []) (cm_laysBack h12) rfl rfl (Nat.le_of_ble_eq_true rfl) km_laysBack (tb_in (i := 27) (j := 3) rfl rfl) (by decide) rfl dX12_ahead_77 ?_
            refine r_iload 0 dX12_ahead_80 rfl ?_
            have hq := Option.some.inj h
            subst hq
            exact r_iret rfl dX12_ahead_82
          · replace h := it_pos c10 h
            refine r_aload_n 0 dX12_ahead_61 rfl ?_
            refine r_iload_n 1 dX12_ahead_62 rfl ?_
            obtain ⟨q13, h13, h⟩ := bd_some h
            refine cvM (st := []) (cm_tillOf h13) rfl rfl (Nat.le_of_ble_eq_true rfl) km_tillOf (tb_in (i := 25) (j := 15) rfl rfl) (by decide) rfl dX12_ahead_63 ?_
            refine r_goto 74 dX12_ahead_66 (by decide) ?_
            refine r_istore (lv' := [(4, .int q13), (0, .ref (ad 0)), (1, .int x1), (2, .int x2), (3, .int x3)]) dX12_ahead_74 (by decide) rfl ?_
            refine r_aload_n 1 dX12_ahead_76 rfl ?_
            obtain ⟨q14, h14, h⟩ := bd_some h
            refine cvM (st := []) (cm_laysBack h14) rfl rfl (Nat.le_of_ble_eq_true rfl) km_laysBack (tb_in (i := 27) (j := 3) rfl rfl) (by decide) rfl dX12_ahead_77 ?_
            refine r_iload 0 dX12_ahead_80 rfl ?_
            have hq := Option.some.inj h
            subst hq
            exact r_iret rfl dX12_ahead_82
        · replace h := it_pos c9 h
          refine r_aload_n 0 dX12_ahead_48 rfl ?_
          refine r_iload_n 1 dX12_ahead_49 rfl ?_
          obtain ⟨q15, h15, h⟩ := bd_some h
          refine cvM (st := []) (cm_goodsOf h15) rfl rfl (Nat.le_of_ble_eq_true rfl) km_goodsOf (tb_in (i := 24) (j := 4) rfl rfl) (by decide) rfl dX12_ahead_50 ?_
          refine r_goto 74 dX12_ahead_53 (by decide) ?_
          refine r_istore (lv' := [(4, .int q15), (0, .ref (ad 0)), (1, .int x1), (2, .int x2), (3, .int x3)]) dX12_ahead_74 (by decide) rfl ?_
          refine r_aload_n 1 dX12_ahead_76 rfl ?_
          obtain ⟨q16, h16, h⟩ := bd_some h
          refine cvM (st := []) (cm_laysBack h16) rfl rfl (Nat.le_of_ble_eq_true rfl) km_laysBack (tb_in (i := 27) (j := 3) rfl rfl) (by decide) rfl dX12_ahead_77 ?_
          refine r_iload 0 dX12_ahead_80 rfl ?_
          have hq := Option.some.inj h
          subst hq
          exact r_iret rfl dX12_ahead_82
      · replace h := it_pos c6 h
        refine r_iconst (x := (-1 : Int32)) dX12_ahead_32 (by decide) ?_
        have hq := Option.some.inj h
        subst hq
        exact r_iret rfl dX12_ahead_33
theorem dX12_out_0 : decode cX12_out 0 = .ok (.aload_n 0, 1) := by decide +kernel
theorem dX12_out_1 : decode cX12_out 1 = .ok (.iload_n 1, 1) := by decide +kernel
theorem dX12_out_2 : decode cX12_out 2 = .ok (.invokevirtual 311, 3) := by decide +kernel
theorem dX12_out_5 : decode cX12_out 5 = .ok (.ifCond .ne 5, 3) := by decide +kernel
theorem dX12_out_8 : decode cX12_out 8 = .ok (.iconst (-1), 1) := by decide +kernel
theorem dX12_out_9 : decode cX12_out 9 = .ok (.ireturn, 1) := by decide +kernel
theorem dX12_out_10 : decode cX12_out 10 = .ok (.bipush (-2), 2) := by decide +kernel
theorem dX12_out_12 : decode cX12_out 12 = .ok (.istore_n 2, 1) := by decide +kernel
theorem dX12_out_13 : decode cX12_out 13 = .ok (.aload_n 0, 1) := by decide +kernel
theorem dX12_out_14 : decode cX12_out 14 = .ok (.invokevirtual 376, 3) := by decide +kernel
theorem dX12_out_17 : decode cX12_out 17 = .ok (.iconst 0, 1) := by decide +kernel
theorem dX12_out_18 : decode cX12_out 18 = .ok (.istore_n 3, 1) := by decide +kernel
theorem dX12_out_19 : decode cX12_out 19 = .ok (.iload_n 3, 1) := by decide +kernel
theorem dX12_out_20 : decode cX12_out 20 = .ok (.sipush 200, 3) := by decide +kernel
theorem dX12_out_23 : decode cX12_out 23 = .ok (.if_icmp .ge 34, 3) := by decide +kernel
theorem dX12_out_26 : decode cX12_out 26 = .ok (.iload_n 2, 1) := by decide +kernel
theorem dX12_out_27 : decode cX12_out 27 = .ok (.ifCond .ge 30, 3) := by decide +kernel
theorem dX12_out_30 : decode cX12_out 30 = .ok (.aload_n 0, 1) := by decide +kernel
theorem dX12_out_31 : decode cX12_out 31 = .ok (.iload_n 1, 1) := by decide +kernel
theorem dX12_out_32 : decode cX12_out 32 = .ok (.invokevirtual 302, 3) := by decide +kernel
theorem dX12_out_35 : decode cX12_out 35 = .ok (.ifCond .ne 11, 3) := by decide +kernel
theorem dX12_out_38 : decode cX12_out 38 = .ok (.aload_n 0, 1) := by decide +kernel
theorem dX12_out_39 : decode cX12_out 39 = .ok (.getfield 39, 3) := by decide +kernel
theorem dX12_out_42 : decode cX12_out 42 = .ok (.bipush 10, 2) := by decide +kernel
theorem dX12_out_44 : decode cX12_out 44 = .ok (.iaload, 1) := by decide +kernel
theorem dX12_out_45 : decode cX12_out 45 = .ok (.istore_n 2, 1) := by decide +kernel
theorem dX12_out_46 : decode cX12_out 46 = .ok (.aload_n 0, 1) := by decide +kernel
theorem dX12_out_47 : decode cX12_out 47 = .ok (.invokevirtual 355, 3) := by decide +kernel
theorem dX12_out_50 : decode cX12_out 50 = .ok (.pop, 1) := by decide +kernel
theorem dX12_out_51 : decode cX12_out 51 = .ok (.iinc 3 1, 3) := by decide +kernel
theorem dX12_out_54 : decode cX12_out 54 = .ok (.goto (-35), 3) := by decide +kernel
theorem dX12_out_57 : decode cX12_out 57 = .ok (.aload_n 0, 1) := by decide +kernel
theorem dX12_out_58 : decode cX12_out 58 = .ok (.invokevirtual 385, 3) := by decide +kernel
theorem dX12_out_61 : decode cX12_out 61 = .ok (.iload_n 2, 1) := by decide +kernel
theorem dX12_out_62 : decode cX12_out 62 = .ok (.ireturn, 1) := by decide +kernel
abbrev Mm_out : rx_M := (RX12, yX12_out, cX12_out, 4, (some .int), 8)
theorem km_out : rKv Mm_out 1 := ⟨tb_in (i := 33) (j := 14) rfl rfl, tb_in (i := 33) (j := 15) rfl rfl, tb_in (i := 17) (j := 21) rfl rfl, tb_in (i := 27) (j := 7) rfl rfl, ⟨by decide, by decide, by decide +kernel⟩, by decide⟩
def m_out_l19 (z_sign : Nat → Int32) (z_clause : Nat → Int32) (z_clauses : Nat → Int32) (z_force : Int32) (z_absent : Int32) (z_kept : Nat → Int32) (x1 : Int32) : Nat → Int32 → Int32 → (Nat → Int64) → Int32 → (Nat → Int64) → (Nat → Int32) → Int32 → Option (Int32 × (Nat → Int64) × Int32 × (Nat → Int64) × (Nat → Int32) × Int32 × (Nat → Int32))
  | 0, _, _, _, _, _, _, _ => none
  | n + 1, x2, x3, z_stack, z_top, z_word, z_said, z_isRaining => (if (200 : Int32) ≤ x3 then (m_laysBack z_said z_kept).bind (fun q5 => some (x2, z_stack, z_top, z_word, q5, z_isRaining, z_kept)) else (if 0 ≤ x2 then (m_laysBack z_said z_kept).bind (fun q7 => some (x2, z_stack, z_top, z_word, q7, z_isRaining, z_kept)) else (m_goodsOf x1 z_said).bind (fun q8 => (if q8 = 0 then rq (inb (10 : Int32) 156) (lt (z_said (10 : Int32).toNatClampNeg) (fun y12 => (m_passes z_sign z_clause z_clauses z_stack z_top z_word z_said z_force z_absent z_isRaining).bind (fun q13 => m_out_l19 z_sign z_clause z_clauses z_force z_absent z_kept x1 n y12 (x3 + (1 : Int32)) q13.2.1 q13.2.2.1 q13.2.2.2.1 q13.2.2.2.2.1 q13.2.2.2.2.2))) else (m_passes z_sign z_clause z_clauses z_stack z_top z_word z_said z_force z_absent z_isRaining).bind (fun q10 => m_out_l19 z_sign z_clause z_clauses z_force z_absent z_kept x1 n x2 (x3 + (1 : Int32)) q10.2.1 q10.2.2.1 q10.2.2.2.1 q10.2.2.2.2.1 q10.2.2.2.2.2)))))
set_option maxRecDepth 20000 in
theorem cm_out_l19 {q : Int32 × (Nat → Int64) × Int32 × (Nat → Int64) × (Nat → Int32) × Int32 × (Nat → Int32)} {x1 : Int32}  : ∀ (n : Nat) (x2 : Int32) (x3 : Int32) (z_stack : Nat → Int64) (z_top : Int32) (z_word : Nat → Int64) (z_said : Nat → Int32) (z_isRaining : Int32), m_out_l19 z_sign z_clause z_clauses z_force z_absent z_kept x1 n x2 x3 z_stack z_top z_word z_said z_isRaining = some q → rW l D Z (ty7 K) Mm_out 19 [(0, .ref (ad 0)), (1, .int x1), (2, .int x2), (3, .int x3)] [] (wM K ad z_tape z_taped z_rules z_sign z_length z_clause z_clauses z_read z_next z_wrong z_number z_text z_made z_deep z_lines z_open z_opened z_stack z_top z_word z_said z_force z_x z_absent z_isRaining z_wasSaid z_undone z_kept z_order z_bestOrder z_hasBy z_wealthThen z_isFit z_tillThen z_drawX z_images z_imageForce z_imageX z_isMade) (wM K ad z_tape z_taped z_rules z_sign z_length z_clause z_clauses z_read z_next z_wrong z_number z_text z_made z_deep z_lines z_open z_opened q.2.1 q.2.2.1 q.2.2.2.1 q.2.2.2.2.1 z_force z_x z_absent q.2.2.2.2.2.1 z_wasSaid z_undone q.2.2.2.2.2.2 z_order z_bestOrder z_hasBy z_wealthThen z_isFit z_tillThen z_drawX z_images z_imageForce z_imageX z_isMade) (some (.int q.1)) := by
  intro n
  induction n with
  | zero => intro x2 x3 z_stack z_top z_word z_said z_isRaining h; unfold m_out_l19 at h; cases h
  | succ n ih =>
    intro x2 x3 z_stack z_top z_word z_said z_isRaining h
    unfold m_out_l19 at h
    refine r_iload_n 3 dX12_out_19 rfl ?_
    refine r_sipush (x := (200 : Int32)) dX12_out_20 (by decide) ?_
    refine r_icmp_ge 57 dX12_out_23 (by decide) (fun c4 => ?_) (fun c4 => ?_)
    · replace h := it_pos c4 h
      refine r_aload_n 0 dX12_out_57 rfl ?_
      obtain ⟨q5, h5, h⟩ := bd_some h
      refine cvM (st := []) (cm_laysBack h5) rfl rfl (Nat.le_of_ble_eq_true rfl) km_laysBack (tb_in (i := 27) (j := 3) rfl rfl) (by decide) rfl dX12_out_58 ?_
      refine r_iload_n 2 dX12_out_61 rfl ?_
      have hq := Option.some.inj h
      subst hq
      exact r_iret rfl dX12_out_62
    · replace h := it_neg c4 h
      refine r_iload_n 2 dX12_out_26 rfl ?_
      refine r_if_ge 57 dX12_out_27 (by decide) (fun c6 => ?_) (fun c6 => ?_)
      · replace h := it_pos c6 h
        refine r_aload_n 0 dX12_out_57 rfl ?_
        obtain ⟨q7, h7, h⟩ := bd_some h
        refine cvM (st := []) (cm_laysBack h7) rfl rfl (Nat.le_of_ble_eq_true rfl) km_laysBack (tb_in (i := 27) (j := 3) rfl rfl) (by decide) rfl dX12_out_58 ?_
        refine r_iload_n 2 dX12_out_61 rfl ?_
        have hq := Option.some.inj h
        subst hq
        exact r_iret rfl dX12_out_62
      · replace h := it_neg c6 h
        refine r_aload_n 0 dX12_out_30 rfl ?_
        refine r_iload_n 1 dX12_out_31 rfl ?_
        obtain ⟨q8, h8, h⟩ := bd_some h
        refine cvM (st := []) (cm_goodsOf h8) rfl rfl (Nat.le_of_ble_eq_true rfl) km_goodsOf (tb_in (i := 24) (j := 4) rfl rfl) (by decide) rfl dX12_out_32 ?_
        refine r_if_ne 46 dX12_out_35 (by decide) (fun c9 => ?_) (fun c9 => ?_)
        · replace h := it_neg c9 h
          refine r_aload_n 0 dX12_out_46 rfl ?_
          obtain ⟨q10, h10, h⟩ := bd_some h
          refine cvM (st := []) (cm_passes h10) rfl rfl (Nat.le_of_ble_eq_true rfl) km_passes (tb_in (i := 25) (j := 28) rfl rfl) (by decide) rfl dX12_out_47 ?_
          refine r_pop dX12_out_50 rfl ?_
          refine r_iinc (y := (x3 + (1 : Int32))) (lv' := [(3, .int (x3 + (1 : Int32))), (0, .ref (ad 0)), (1, .int x1), (2, .int x2)]) 3 dX12_out_51 rfl rfl (by decide) rfl ?_
          refine r_goto 19 dX12_out_54 (by decide) ?_
          refine r_sub (lv' := [(0, .ref (ad 0)), (1, .int x1), (2, .int x2), (3, .int (x3 + (1 : Int32)))]) [1, 2, 3, 0] rfl ?_
          exact ih _ _ _ _ _ _ _ h
        · replace h := it_pos c9 h
          refine r_aload_n 0 dX12_out_38 rfl ?_
          refine gM_said rfl dX12_out_39 ?_
          refine r_bipush (x := (10 : Int32)) dX12_out_42 (by decide) ?_
          obtain ⟨h11, h⟩ := rq_some h
          refine lM_said (inb_in h11) dX12_out_44 ?_
          obtain ⟨y12, e12, h⟩ := lt_some h
          refine r_top e12 ?_
          refine r_istore_n (lv' := [(2, .int y12), (0, .ref (ad 0)), (1, .int x1), (3, .int x3)]) dX12_out_45 (by decide) rfl ?_
          refine r_aload_n 1 dX12_out_46 rfl ?_
          obtain ⟨q13, h13, h⟩ := bd_some h
          refine cvM (st := []) (cm_passes h13) rfl rfl (Nat.le_of_ble_eq_true rfl) km_passes (tb_in (i := 25) (j := 28) rfl rfl) (by decide) rfl dX12_out_47 ?_
          refine r_pop dX12_out_50 rfl ?_
          refine r_iinc (y := (x3 + (1 : Int32))) (lv' := [(3, .int (x3 + (1 : Int32))), (2, .int y12), (0, .ref (ad 0)), (1, .int x1)]) 3 dX12_out_51 rfl rfl (by decide) rfl ?_
          refine r_goto 19 dX12_out_54 (by decide) ?_
          refine r_sub (lv' := [(0, .ref (ad 0)), (1, .int x1), (2, .int y12), (3, .int (x3 + (1 : Int32)))]) [2, 3, 1, 0] rfl ?_
          exact ih _ _ _ _ _ _ _ h
def m_out (x1 : Int32) (z_sign : Nat → Int32) (z_clause : Nat → Int32) (z_clauses : Nat → Int32) (z_stack : Nat → Int64) (z_top : Int32) (z_word : Nat → Int64) (z_said : Nat → Int32) (z_force : Int32) (z_absent : Int32) (z_isRaining : Int32) (z_kept : Nat → Int32) : Option (Int32 × (Nat → Int64) × Int32 × (Nat → Int64) × (Nat → Int32) × Int32 × (Nat → Int32)) := (m_isStall x1 z_said).bind (fun q1 => (if q1 = 0 then some ((-1 : Int32), z_stack, z_top, z_word, z_said, z_isRaining, z_kept) else (m_keeps z_said z_kept).bind (fun q3 => m_out_l19 z_sign z_clause z_clauses z_force z_absent q3 x1 FU (-2 : Int32) (0 : Int32) z_stack z_top z_word z_said z_isRaining)))
set_option maxRecDepth 20000 in
theorem cm_out {q : Int32 × (Nat → Int64) × Int32 × (Nat → Int64) × (Nat → Int32) × Int32 × (Nat → Int32)} {x1 : Int32} (h : m_out x1 z_sign z_clause z_clauses z_stack z_top z_word z_said z_force z_absent z_isRaining z_kept = some q) : rMet l D Z (ty7 K) Mm_out [.ref (ad 0), .int x1] (wM K ad z_tape z_taped z_rules z_sign z_length z_clause z_clauses z_read z_next z_wrong z_number z_text z_made z_deep z_lines z_open z_opened z_stack z_top z_word z_said z_force z_x z_absent z_isRaining z_wasSaid z_undone z_kept z_order z_bestOrder z_hasBy z_wealthThen z_isFit z_tillThen z_drawX z_images z_imageForce z_imageX z_isMade) (wM K ad z_tape z_taped z_rules z_sign z_length z_clause z_clauses z_read z_next z_wrong z_number z_text z_made z_deep z_lines z_open z_opened q.2.1 q.2.2.1 q.2.2.2.1 q.2.2.2.2.1 z_force z_x z_absent q.2.2.2.2.2.1 z_wasSaid z_undone q.2.2.2.2.2.2 z_order z_bestOrder z_hasBy z_wealthThen z_isFit z_tillThen z_drawX z_images z_imageForce z_imageX z_isMade) (some (.int q.1)) := by
  refine rMet.of (by decide) rfl (Nat.le_of_ble_eq_true rfl) ?_
  refine r_sub (lv' := [(0, .ref (ad 0)), (1, .int x1)]) [0, 1] rfl ?_
  unfold m_out at h
  refine r_aload_n 0 dX12_out_0 rfl ?_
  refine r_iload_n 1 dX12_out_1 rfl ?_
  obtain ⟨q1, h1, h⟩ := bd_some h
  refine cvM (st := []) (cm_isStall h1) rfl rfl (Nat.le_of_ble_eq_true rfl) km_isStall (tb_in (i := 24) (j := 15) rfl rfl) (by decide) rfl dX12_out_2 ?_
  refine r_if_ne 10 dX12_out_5 (by decide) (fun c2 => ?_) (fun c2 => ?_)
  · replace h := it_neg c2 h
    refine r_bipush (x := (-2 : Int32)) dX12_out_10 (by decide) ?_
    refine r_istore_n (lv' := [(2, .int (-2 : Int32)), (0, .ref (ad 0)), (1, .int x1)]) dX12_out_12 (by decide) rfl ?_
    refine r_aload_n 1 dX12_out_13 rfl ?_
    obtain ⟨q3, h3, h⟩ := bd_some h
    refine cvM (st := []) (cm_keeps h3) rfl rfl (Nat.le_of_ble_eq_true rfl) km_keeps (tb_in (i := 26) (j := 26) rfl rfl) (by decide) rfl dX12_out_14 ?_
    refine r_iconst (x := (0 : Int32)) dX12_out_17 (by decide) ?_
    refine r_istore_n (lv' := [(3, .int (0 : Int32)), (2, .int (-2 : Int32)), (0, .ref (ad 0)), (1, .int x1)]) dX12_out_18 (by decide) rfl ?_
    refine r_sub (lv' := [(0, .ref (ad 0)), (1, .int x1), (2, .int (-2 : Int32)), (3, .int (0 : Int32))]) [2, 3, 1, 0] rfl ?_
    exact cm_out_l19  FU _ _ _ _ _ _ _ h
  · replace h := it_pos c2 h
    refine r_iconst (x := (-1 : Int32)) dX12_out_8 (by decide) ?_
    have hq := Option.some.inj h
    subst hq
    exact r_iret rfl dX12_out_9
theorem dX12_takenIn_0 : decode cX12_takenIn 0 = .ok (.aload_n 0, 1) := by decide +kernel
theorem dX12_takenIn_1 : decode cX12_takenIn 1 = .ok (.iload_n 1, 1) := by decide +kernel
theorem dX12_takenIn_2 : decode cX12_takenIn 2 = .ok (.invokevirtual 379, 3) := by decide +kernel
theorem dX12_takenIn_5 : decode cX12_takenIn 5 = .ok (.istore_n 2, 1) := by decide +kernel
theorem dX12_takenIn_6 : decode cX12_takenIn 6 = .ok (.aload_n 0, 1) := by decide +kernel
theorem dX12_takenIn_7 : decode cX12_takenIn 7 = .ok (.invokevirtual 385, 3) := by decide +kernel
theorem dX12_takenIn_10 : decode cX12_takenIn 10 = .ok (.iload_n 2, 1) := by decide +kernel
theorem dX12_takenIn_11 : decode cX12_takenIn 11 = .ok (.ireturn, 1) := by decide +kernel
abbrev Mm_takenIn : rx_M := (RX12, yX12_takenIn, cX12_takenIn, 3, (some .int), 9)
theorem km_takenIn : rKv Mm_takenIn 1 := ⟨tb_in (i := 27) (j := 10) rfl rfl, tb_in (i := 27) (j := 11) rfl rfl, tb_in (i := 17) (j := 21) rfl rfl, tb_in (i := 27) (j := 8) rfl rfl, ⟨by decide, by decide, by decide +kernel⟩, by decide⟩
def m_takenIn (x1 : Int32) (z_sign : Nat → Int32) (z_clause : Nat → Int32) (z_clauses : Nat → Int32) (z_stack : Nat → Int64) (z_top : Int32) (z_word : Nat → Int64) (z_said : Nat → Int32) (z_force : Int32) (z_absent : Int32) (z_isRaining : Int32) (z_kept : Nat → Int32) : Option (Int32 × (Nat → Int64) × Int32 × (Nat → Int64) × (Nat → Int32) × Int32) := (m_passesAll x1 z_sign z_clause z_clauses z_stack z_top z_word z_said z_force z_absent z_isRaining).bind (fun q1 => (m_laysBack q1.2.2.2.2.1 z_kept).bind (fun q2 => some (q1.1, q1.2.1, q1.2.2.1, q1.2.2.2.1, q2, q1.2.2.2.2.2)))
set_option maxRecDepth 20000 in
theorem cm_takenIn {q : Int32 × (Nat → Int64) × Int32 × (Nat → Int64) × (Nat → Int32) × Int32} {x1 : Int32} (h : m_takenIn x1 z_sign z_clause z_clauses z_stack z_top z_word z_said z_force z_absent z_isRaining z_kept = some q) : rMet l D Z (ty7 K) Mm_takenIn [.ref (ad 0), .int x1] (wM K ad z_tape z_taped z_rules z_sign z_length z_clause z_clauses z_read z_next z_wrong z_number z_text z_made z_deep z_lines z_open z_opened z_stack z_top z_word z_said z_force z_x z_absent z_isRaining z_wasSaid z_undone z_kept z_order z_bestOrder z_hasBy z_wealthThen z_isFit z_tillThen z_drawX z_images z_imageForce z_imageX z_isMade) (wM K ad z_tape z_taped z_rules z_sign z_length z_clause z_clauses z_read z_next z_wrong z_number z_text z_made z_deep z_lines z_open z_opened q.2.1 q.2.2.1 q.2.2.2.1 q.2.2.2.2.1 z_force z_x z_absent q.2.2.2.2.2 z_wasSaid z_undone z_kept z_order z_bestOrder z_hasBy z_wealthThen z_isFit z_tillThen z_drawX z_images z_imageForce z_imageX z_isMade) (some (.int q.1)) := by
  refine rMet.of (by decide) rfl (Nat.le_of_ble_eq_true rfl) ?_
  refine r_sub (lv' := [(0, .ref (ad 0)), (1, .int x1)]) [0, 1] rfl ?_
  unfold m_takenIn at h
  refine r_aload_n 0 dX12_takenIn_0 rfl ?_
  refine r_iload_n 1 dX12_takenIn_1 rfl ?_
  obtain ⟨q1, h1, h⟩ := bd_some h
  refine cvM (st := []) (cm_passesAll h1) rfl rfl (Nat.le_of_ble_eq_true rfl) km_passesAll (tb_in (i := 26) (j := 29) rfl rfl) (by decide) rfl dX12_takenIn_2 ?_
  refine r_istore_n (lv' := [(2, .int q1.1), (0, .ref (ad 0)), (1, .int x1)]) dX12_takenIn_5 (by decide) rfl ?_
  refine r_aload_n 1 dX12_takenIn_6 rfl ?_
  obtain ⟨q2, h2, h⟩ := bd_some h
  refine cvM (st := []) (cm_laysBack h2) rfl rfl (Nat.le_of_ble_eq_true rfl) km_laysBack (tb_in (i := 27) (j := 3) rfl rfl) (by decide) rfl dX12_takenIn_7 ?_
  refine r_iload_n 0 dX12_takenIn_10 rfl ?_
  have hq := Option.some.inj h
  subst hq
  exact r_iret rfl dX12_takenIn_11
theorem dX12_taken_0 : decode cX12_taken 0 = .ok (.aload_n 0, 1) := by decide +kernel
theorem dX12_taken_1 : decode cX12_taken 1 = .ok (.invokevirtual 358, 3) := by decide +kernel
theorem dX12_taken_4 : decode cX12_taken 4 = .ok (.ifCond .eq 15, 3) := by decide +kernel
theorem dX12_taken_7 : decode cX12_taken 7 = .ok (.iload_n 1, 1) := by decide +kernel
theorem dX12_taken_8 : decode cX12_taken 8 = .ok (.i2l, 1) := by decide +kernel
theorem dX12_taken_9 : decode cX12_taken 9 = .ok (.lconst 0, 1) := by decide +kernel
theorem dX12_taken_10 : decode cX12_taken 10 = .ok (.ldc2_w 374, 3) := by decide +kernel
theorem dX12_taken_13 : decode cX12_taken 13 = .ok (.invokestatic 124, 3) := by decide +kernel
theorem dX12_taken_16 : decode cX12_taken 16 = .ok (.ifCond .ne 5, 3) := by decide +kernel
theorem dX12_taken_19 : decode cX12_taken 19 = .ok (.iconst (-1), 1) := by decide +kernel
theorem dX12_taken_20 : decode cX12_taken 20 = .ok (.ireturn, 1) := by decide +kernel
theorem dX12_taken_21 : decode cX12_taken 21 = .ok (.aload_n 0, 1) := by decide +kernel
theorem dX12_taken_22 : decode cX12_taken 22 = .ok (.invokevirtual 376, 3) := by decide +kernel
theorem dX12_taken_25 : decode cX12_taken 25 = .ok (.aload_n 0, 1) := by decide +kernel
theorem dX12_taken_26 : decode cX12_taken 26 = .ok (.iload_n 1, 1) := by decide +kernel
theorem dX12_taken_27 : decode cX12_taken 27 = .ok (.invokevirtual 388, 3) := by decide +kernel
theorem dX12_taken_30 : decode cX12_taken 30 = .ok (.ireturn, 1) := by decide +kernel
abbrev Mm_taken : rx_M := (RX12, yX12_taken, cX12_taken, 2, (some .int), 10)
theorem km_taken : rKv Mm_taken 1 := ⟨tb_in (i := 33) (j := 20) rfl rfl, tb_in (i := 33) (j := 21) rfl rfl, tb_in (i := 17) (j := 21) rfl rfl, tb_in (i := 27) (j := 12) rfl rfl, ⟨by decide, by decide, by decide +kernel⟩, by decide⟩
def m_taken (x1 : Int32) (z_sign : Nat → Int32) (z_clause : Nat → Int32) (z_clauses : Nat → Int32) (z_stack : Nat → Int64) (z_top : Int32) (z_word : Nat → Int64) (z_said : Nat → Int32) (z_force : Int32) (z_absent : Int32) (z_isRaining : Int32) (z_kept : Nat → Int32) : Option (Int32 × (Nat → Int64) × Int32 × (Nat → Int64) × (Nat → Int32) × Int32 × (Nat → Int32)) := (m_isFair z_said).bind (fun q1 => (if q1 = 0 then some ((-1 : Int32), z_stack, z_top, z_word, z_said, z_isRaining, z_kept) else (m_in (x1.toInt64) (0 : Int64) (100 : Int64)).bind (fun q3 => (if q3 = 0 then some ((-1 : Int32), z_stack, z_top, z_word, z_said, z_isRaining, z_kept) else (m_keeps z_said z_kept).bind (fun q5 => (m_takenIn x1 z_sign z_clause z_clauses z_stack z_top z_word z_said z_force z_absent z_isRaining q5).bind (fun q6 => some (q6.1, q6.2.1, q6.2.2.1, q6.2.2.2.1, q6.2.2.2.2.1, q6.2.2.2.2.2, q5)))))))
set_option maxRecDepth 20000 in
theorem cm_taken {q : Int32 × (Nat → Int64) × Int32 × (Nat → Int64) × (Nat → Int32) × Int32 × (Nat → Int32)} {x1 : Int32} (h : m_taken x1 z_sign z_clause z_clauses z_stack z_top z_word z_said z_force z_absent z_isRaining z_kept = some q) : rMet l D Z (ty7 K) Mm_taken [.ref (ad 0), .int x1] (wM K ad z_tape z_taped z_rules z_sign z_length z_clause z_clauses z_read z_next z_wrong z_number z_text z_made z_deep z_lines z_open z_opened z_stack z_top z_word z_said z_force z_x z_absent z_isRaining z_wasSaid z_undone z_kept z_order z_bestOrder z_hasBy z_wealthThen z_isFit z_tillThen z_drawX z_images z_imageForce z_imageX z_isMade) (wM K ad z_tape z_taped z_rules z_sign z_length z_clause z_clauses z_read z_next z_wrong z_number z_text z_made z_deep z_lines z_open z_opened q.2.1 q.2.2.1 q.2.2.2.1 q.2.2.2.2.1 z_force z_x z_absent q.2.2.2.2.2.1 z_wasSaid z_undone q.2.2.2.2.2.2 z_order z_bestOrder z_hasBy z_wealthThen z_isFit z_tillThen z_drawX z_images z_imageForce z_imageX z_isMade) (some (.int q.1)) := by
  refine rMet.of (by decide) rfl (Nat.le_of_ble_eq_true rfl) ?_
  refine r_sub (lv' := [(0, .ref (ad 0)), (1, .int x1)]) [0, 1] rfl ?_
  unfold m_taken at h
  refine r_aload_n 0 dX12_taken_0 rfl ?_
  obtain ⟨q1, h1, h⟩ := bd_some h
  refine cvM (st := []) (cm_isFair h1) rfl rfl (Nat.le_of_ble_eq_true rfl) km_isFair (tb_in (i := 26) (j := 2) rfl rfl) (by decide) rfl dX12_taken_1 ?_
  refine r_if_eq 19 dX12_taken_4 (by decide) (fun c2 => ?_) (fun c2 => ?_)
  · replace h := it_pos c2 h
    refine r_iconst (x := (-1 : Int32)) dX12_taken_19 (by decide) ?_
    have hq := Option.some.inj h
    subst hq
    exact r_iret rfl dX12_taken_20
  · replace h := it_neg c2 h
    refine r_iload_n 1 dX12_taken_7 rfl ?_
    refine r_i2l dX12_taken_8 ?_
    refine r_lconst (x := (0 : Int64)) dX12_taken_9 (by decide) ?_
    refine r_ldc2 (x := (100 : Int64)) (tb_in (i := 26) (j := 25) rfl rfl) dX12_taken_10 ?_
    obtain ⟨q3, h3, h⟩ := bd_some h
    refine r_callS (st := []) (cm_in h3) rfl rfl (Nat.le_of_ble_eq_true rfl) km_in (tb_in (i := 18) (j := 20) rfl rfl) (by decide) dX12_taken_13 ?_
    refine r_if_ne 21 dX12_taken_16 (by decide) (fun c4 => ?_) (fun c4 => ?_)
    · replace h := it_neg c4 h
      refine r_aload_n 0 dX12_taken_21 rfl ?_
      obtain ⟨q5, h5, h⟩ := bd_some h
      refine cvM (st := []) (cm_keeps h5) rfl rfl (Nat.le_of_ble_eq_true rfl) km_keeps (tb_in (i := 26) (j := 26) rfl rfl) (by decide) rfl dX12_taken_22 ?_
      refine r_aload_n 0 dX12_taken_25 rfl ?_
      refine r_iload_n 1 dX12_taken_26 rfl ?_
      obtain ⟨q6, h6, h⟩ := bd_some h
      refine cvM (st := []) (cm_takenIn h6) rfl rfl (Nat.le_of_ble_eq_true rfl) km_takenIn (tb_in (i := 27) (j := 9) rfl rfl) (by decide) rfl dX12_taken_27 ?_
      have hq := Option.some.inj h
      subst hq
      exact r_iret rfl dX12_taken_30
    · replace h := it_pos c4 h
      refine r_iconst (x := (-1 : Int32)) dX12_taken_19 (by decide) ?_
      have hq := Option.some.inj h
      subst hq
      exact r_iret rfl dX12_taken_20
theorem dX12_beginsOrder_0 : decode cX12_beginsOrder 0 = .ok (.iconst 0, 1) := by decide +kernel
theorem dX12_beginsOrder_1 : decode cX12_beginsOrder 1 = .ok (.istore_n 1, 1) := by decide +kernel
theorem dX12_beginsOrder_2 : decode cX12_beginsOrder 2 = .ok (.iload_n 1, 1) := by decide +kernel
theorem dX12_beginsOrder_3 : decode cX12_beginsOrder 3 = .ok (.bipush 6, 2) := by decide +kernel
theorem dX12_beginsOrder_5 : decode cX12_beginsOrder 5 = .ok (.if_icmp .ge 16, 3) := by decide +kernel
theorem dX12_beginsOrder_8 : decode cX12_beginsOrder 8 = .ok (.aload_n 0, 1) := by decide +kernel
theorem dX12_beginsOrder_9 : decode cX12_beginsOrder 9 = .ok (.getfield 55, 3) := by decide +kernel
theorem dX12_beginsOrder_12 : decode cX12_beginsOrder 12 = .ok (.iload_n 1, 1) := by decide +kernel
theorem dX12_beginsOrder_13 : decode cX12_beginsOrder 13 = .ok (.iload_n 1, 1) := by decide +kernel
theorem dX12_beginsOrder_14 : decode cX12_beginsOrder 14 = .ok (.iastore, 1) := by decide +kernel
theorem dX12_beginsOrder_15 : decode cX12_beginsOrder 15 = .ok (.iinc 1 1, 3) := by decide +kernel
theorem dX12_beginsOrder_18 : decode cX12_beginsOrder 18 = .ok (.goto (-16), 3) := by decide +kernel
theorem dX12_beginsOrder_21 : decode cX12_beginsOrder 21 = .ok (.return_, 1) := by decide +kernel
abbrev Mm_beginsOrder : rx_M := (RX12, yX12_beginsOrder, cX12_beginsOrder, 2, none, 1)
theorem km_beginsOrder : rKv Mm_beginsOrder 0 := ⟨tb_in (i := 27) (j := 24) rfl rfl, tb_in (i := 27) (j := 25) rfl rfl, tb_in (i := 17) (j := 21) rfl rfl, tb_in (i := 27) (j := 13) rfl rfl, ⟨by decide, by decide, by decide +kernel⟩, by decide⟩
def m_beginsOrder_l2  : Nat → Int32 → (Nat → Int32) → Option ((Nat → Int32))
  | 0, _, _ => none
  | n + 1, x1, z_order => (if (6 : Int32) ≤ x1 then some (z_order) else rq (inb x1 6) (lt (upd z_order x1.toNatClampNeg x1) (fun u2 => m_beginsOrder_l2 n (x1 + (1 : Int32)) u2)))
set_option maxRecDepth 20000 in
theorem cm_beginsOrder_l2 {q : (Nat → Int32)}   : ∀ (n : Nat) (x1 : Int32) (z_order : Nat → Int32), m_beginsOrder_l2 n x1 z_order = some q → rW l D Z (ty7 K) Mm_beginsOrder 2 [(0, .ref (ad 0)), (1, .int x1)] [] (wM K ad z_tape z_taped z_rules z_sign z_length z_clause z_clauses z_read z_next z_wrong z_number z_text z_made z_deep z_lines z_open z_opened z_stack z_top z_word z_said z_force z_x z_absent z_isRaining z_wasSaid z_undone z_kept z_order z_bestOrder z_hasBy z_wealthThen z_isFit z_tillThen z_drawX z_images z_imageForce z_imageX z_isMade) (wM K ad z_tape z_taped z_rules z_sign z_length z_clause z_clauses z_read z_next z_wrong z_number z_text z_made z_deep z_lines z_open z_opened z_stack z_top z_word z_said z_force z_x z_absent z_isRaining z_wasSaid z_undone z_kept q z_bestOrder z_hasBy z_wealthThen z_isFit z_tillThen z_drawX z_images z_imageForce z_imageX z_isMade) none := by
  intro n
  induction n with
  | zero => intro x1 z_order h; unfold m_beginsOrder_l2 at h; cases h
  | succ n ih =>
    intro x1 z_order h
    unfold m_beginsOrder_l2 at h
    refine r_iload_n 1 dX12_beginsOrder_2 rfl ?_
    refine r_bipush (x := (6 : Int32)) dX12_beginsOrder_3 (by decide) ?_
    refine r_icmp_ge 21 dX12_beginsOrder_5 (by decide) (fun c1 => ?_) (fun c1 => ?_)
    · replace h := it_pos c1 h
      have hq := Option.some.inj h
      subst hq
      exact r_vret rfl dX12_beginsOrder_21
    · replace h := it_neg c1 h
      refine r_aload_n 0 dX12_beginsOrder_8 rfl ?_
      refine gM_order rfl dX12_beginsOrder_9 ?_
      refine r_iload_n 1 dX12_beginsOrder_12 rfl ?_
      refine r_iload_n 1 dX12_beginsOrder_13 rfl ?_
      obtain ⟨h2, h⟩ := rq_some h
      obtain ⟨u2, e2, h⟩ := lt_some h
      refine sM_order e2 (inb_in h2) dX12_beginsOrder_14 ?_
      refine r_iinc (y := (x1 + (1 : Int32))) (lv' := [(1, .int (x1 + (1 : Int32))), (0, .ref (ad 0))]) 1 dX12_beginsOrder_15 rfl rfl (by decide) rfl ?_
      refine r_goto 2 dX12_beginsOrder_18 (by decide) ?_
      refine r_sub (lv' := [(0, .ref (ad 0)), (1, .int (x1 + (1 : Int32)))]) [1, 0] rfl ?_
      exact ih _ _ h
def m_beginsOrder (z_order : Nat → Int32) : Option ((Nat → Int32)) := m_beginsOrder_l2 FU (0 : Int32) z_order
set_option maxRecDepth 20000 in
theorem cm_beginsOrder {q : (Nat → Int32)}  (h : m_beginsOrder z_order = some q) : rMet l D Z (ty7 K) Mm_beginsOrder [.ref (ad 0)] (wM K ad z_tape z_taped z_rules z_sign z_length z_clause z_clauses z_read z_next z_wrong z_number z_text z_made z_deep z_lines z_open z_opened z_stack z_top z_word z_said z_force z_x z_absent z_isRaining z_wasSaid z_undone z_kept z_order z_bestOrder z_hasBy z_wealthThen z_isFit z_tillThen z_drawX z_images z_imageForce z_imageX z_isMade) (wM K ad z_tape z_taped z_rules z_sign z_length z_clause z_clauses z_read z_next z_wrong z_number z_text z_made z_deep z_lines z_open z_opened z_stack z_top z_word z_said z_force z_x z_absent z_isRaining z_wasSaid z_undone z_kept q z_bestOrder z_hasBy z_wealthThen z_isFit z_tillThen z_drawX z_images z_imageForce z_imageX z_isMade) none := by
  refine rMet.of (by decide) rfl (Nat.le_of_ble_eq_true rfl) ?_
  refine r_sub (lv' := [(0, .ref (ad 0))]) [0] rfl ?_
  unfold m_beginsOrder at h
  refine r_iconst (x := (0 : Int32)) dX12_beginsOrder_0 (by decide) ?_
  refine r_istore_n (lv' := [(1, .int (0 : Int32)), (0, .ref (ad 0))]) dX12_beginsOrder_1 (by decide) rfl ?_
  refine r_sub (lv' := [(0, .ref (ad 0)), (1, .int (0 : Int32))]) [1, 0] rfl ?_
  exact cm_beginsOrder_l2  FU _ _ h
theorem dX12_swapsOrder_0 : decode cX12_swapsOrder 0 = .ok (.aload_n 0, 1) := by decide +kernel
theorem dX12_swapsOrder_1 : decode cX12_swapsOrder 1 = .ok (.getfield 55, 3) := by decide +kernel
theorem dX12_swapsOrder_4 : decode cX12_swapsOrder 4 = .ok (.iload_n 1, 1) := by decide +kernel
theorem dX12_swapsOrder_5 : decode cX12_swapsOrder 5 = .ok (.iaload, 1) := by decide +kernel
theorem dX12_swapsOrder_6 : decode cX12_swapsOrder 6 = .ok (.istore_n 3, 1) := by decide +kernel
theorem dX12_swapsOrder_7 : decode cX12_swapsOrder 7 = .ok (.aload_n 0, 1) := by decide +kernel
theorem dX12_swapsOrder_8 : decode cX12_swapsOrder 8 = .ok (.getfield 55, 3) := by decide +kernel
theorem dX12_swapsOrder_11 : decode cX12_swapsOrder 11 = .ok (.iload_n 1, 1) := by decide +kernel
theorem dX12_swapsOrder_12 : decode cX12_swapsOrder 12 = .ok (.aload_n 0, 1) := by decide +kernel
theorem dX12_swapsOrder_13 : decode cX12_swapsOrder 13 = .ok (.getfield 55, 3) := by decide +kernel
theorem dX12_swapsOrder_16 : decode cX12_swapsOrder 16 = .ok (.iload_n 2, 1) := by decide +kernel
theorem dX12_swapsOrder_17 : decode cX12_swapsOrder 17 = .ok (.iaload, 1) := by decide +kernel
theorem dX12_swapsOrder_18 : decode cX12_swapsOrder 18 = .ok (.iastore, 1) := by decide +kernel
theorem dX12_swapsOrder_19 : decode cX12_swapsOrder 19 = .ok (.aload_n 0, 1) := by decide +kernel
theorem dX12_swapsOrder_20 : decode cX12_swapsOrder 20 = .ok (.getfield 55, 3) := by decide +kernel
theorem dX12_swapsOrder_23 : decode cX12_swapsOrder 23 = .ok (.iload_n 2, 1) := by decide +kernel
theorem dX12_swapsOrder_24 : decode cX12_swapsOrder 24 = .ok (.iload_n 3, 1) := by decide +kernel
theorem dX12_swapsOrder_25 : decode cX12_swapsOrder 25 = .ok (.iastore, 1) := by decide +kernel
theorem dX12_swapsOrder_26 : decode cX12_swapsOrder 26 = .ok (.return_, 1) := by decide +kernel
abbrev Mm_swapsOrder : rx_M := (RX12, yX12_swapsOrder, cX12_swapsOrder, 4, none, 1)
theorem km_swapsOrder : rKv Mm_swapsOrder 2 := ⟨tb_in (i := 27) (j := 17) rfl rfl, tb_in (i := 27) (j := 18) rfl rfl, tb_in (i := 17) (j := 21) rfl rfl, tb_in (i := 27) (j := 14) rfl rfl, ⟨by decide, by decide, by decide +kernel⟩, by decide⟩
def m_swapsOrder (x1 : Int32) (x2 : Int32) (z_order : Nat → Int32) : Option ((Nat → Int32)) := rq (inb x1 6) (lt (z_order x1.toNatClampNeg) (fun y2 => rq (inb x2 6) (rq (inb x1 6) (lt (upd z_order x1.toNatClampNeg (z_order x2.toNatClampNeg)) (fun u4 => rq (inb x2 6) (lt (upd u4 x2.toNatClampNeg y2) (fun u5 => some (u5))))))))
set_option maxRecDepth 20000 in
theorem cm_swapsOrder {q : (Nat → Int32)} {x1 : Int32} {x2 : Int32} (h : m_swapsOrder x1 x2 z_order = some q) : rMet l D Z (ty7 K) Mm_swapsOrder [.ref (ad 0), .int x1, .int x2] (wM K ad z_tape z_taped z_rules z_sign z_length z_clause z_clauses z_read z_next z_wrong z_number z_text z_made z_deep z_lines z_open z_opened z_stack z_top z_word z_said z_force z_x z_absent z_isRaining z_wasSaid z_undone z_kept z_order z_bestOrder z_hasBy z_wealthThen z_isFit z_tillThen z_drawX z_images z_imageForce z_imageX z_isMade) (wM K ad z_tape z_taped z_rules z_sign z_length z_clause z_clauses z_read z_next z_wrong z_number z_text z_made z_deep z_lines z_open z_opened z_stack z_top z_word z_said z_force z_x z_absent z_isRaining z_wasSaid z_undone z_kept q z_bestOrder z_hasBy z_wealthThen z_isFit z_tillThen z_drawX z_images z_imageForce z_imageX z_isMade) none := by
  refine rMet.of (by decide) rfl (Nat.le_of_ble_eq_true rfl) ?_
  refine r_sub (lv' := [(0, .ref (ad 0)), (1, .int x1), (2, .int x2)]) [0, 1, 2] rfl ?_
  unfold m_swapsOrder at h
  refine r_aload_n 0 dX12_swapsOrder_0 rfl ?_
  refine gM_order rfl dX12_swapsOrder_1 ?_
  refine r_iload_n 1 dX12_swapsOrder_4 rfl ?_
  obtain ⟨h1, h⟩ := rq_some h
  refine lM_order (inb_in h1) dX12_swapsOrder_5 ?_
  obtain ⟨y2, e2, h⟩ := lt_some h
  refine r_top e2 ?_
  refine r_istore_n (lv' := [(3, .int y2), (0, .ref (ad 0)), (1, .int x1), (2, .int x2)]) dX12_swapsOrder_6 (by decide) rfl ?_
  refine r_aload_n 1 dX12_swapsOrder_7 rfl ?_
  refine gM_order rfl dX12_swapsOrder_8 ?_
  refine r_iload_n 2 dX12_swapsOrder_11 rfl ?_
  refine r_aload_n 1 dX12_swapsOrder_12 rfl ?_
  refine gM_order rfl dX12_swapsOrder_13 ?_
  refine r_iload_n 3 dX12_swapsOrder_16 rfl ?_
  obtain ⟨h3, h⟩ := rq_some h
  refine lM_order (inb_in h3) dX12_swapsOrder_17 ?_
  obtain ⟨h4, h⟩ := rq_some h
  obtain ⟨u4, e4, h⟩ := lt_some h
  refine sM_order e4 (inb_in h4) dX12_swapsOrder_18 ?_
  refine r_aload_n 1 dX12_swapsOrder_19 rfl ?_
  refine gM_order rfl dX12_swapsOrder_20 ?_
  refine r_iload_n 3 dX12_swapsOrder_23 rfl ?_
  refine r_iload_n 0 dX12_swapsOrder_24 rfl ?_
  obtain ⟨h5, h⟩ := rq_some h
  obtain ⟨u5, e5, h⟩ := lt_some h
  refine sM_order e5 (inb_in h5) dX12_swapsOrder_25 ?_
  have hq := Option.some.inj h
  subst hq
  exact r_vret rfl dX12_swapsOrder_26
theorem dX12_nextOrder_0 : decode cX12_nextOrder 0 = .ok (.aload_n 0, 1) := by decide +kernel
theorem dX12_nextOrder_1 : decode cX12_nextOrder 1 = .ok (.getfield 39, 3) := by decide +kernel
theorem dX12_nextOrder_4 : decode cX12_nextOrder 4 = .ok (.iconst 3, 1) := by decide +kernel
theorem dX12_nextOrder_5 : decode cX12_nextOrder 5 = .ok (.iaload, 1) := by decide +kernel
theorem dX12_nextOrder_6 : decode cX12_nextOrder 6 = .ok (.iconst 2, 1) := by decide +kernel
theorem dX12_nextOrder_7 : decode cX12_nextOrder 7 = .ok (.isub, 1) := by decide +kernel
theorem dX12_nextOrder_8 : decode cX12_nextOrder 8 = .ok (.istore_n 1, 1) := by decide +kernel
theorem dX12_nextOrder_9 : decode cX12_nextOrder 9 = .ok (.iload_n 1, 1) := by decide +kernel
theorem dX12_nextOrder_10 : decode cX12_nextOrder 10 = .ok (.iconst 1, 1) := by decide +kernel
theorem dX12_nextOrder_11 : decode cX12_nextOrder 11 = .ok (.if_icmp .lt 26, 3) := by decide +kernel
theorem dX12_nextOrder_14 : decode cX12_nextOrder 14 = .ok (.aload_n 0, 1) := by decide +kernel
theorem dX12_nextOrder_15 : decode cX12_nextOrder 15 = .ok (.getfield 55, 3) := by decide +kernel
theorem dX12_nextOrder_18 : decode cX12_nextOrder 18 = .ok (.iload_n 1, 1) := by decide +kernel
theorem dX12_nextOrder_19 : decode cX12_nextOrder 19 = .ok (.iaload, 1) := by decide +kernel
theorem dX12_nextOrder_20 : decode cX12_nextOrder 20 = .ok (.aload_n 0, 1) := by decide +kernel
theorem dX12_nextOrder_21 : decode cX12_nextOrder 21 = .ok (.getfield 55, 3) := by decide +kernel
theorem dX12_nextOrder_24 : decode cX12_nextOrder 24 = .ok (.iload_n 1, 1) := by decide +kernel
theorem dX12_nextOrder_25 : decode cX12_nextOrder 25 = .ok (.iconst 1, 1) := by decide +kernel
theorem dX12_nextOrder_26 : decode cX12_nextOrder 26 = .ok (.iadd, 1) := by decide +kernel
theorem dX12_nextOrder_27 : decode cX12_nextOrder 27 = .ok (.iaload, 1) := by decide +kernel
theorem dX12_nextOrder_28 : decode cX12_nextOrder 28 = .ok (.if_icmp .le 9, 3) := by decide +kernel
theorem dX12_nextOrder_31 : decode cX12_nextOrder 31 = .ok (.iinc 1 (-1), 3) := by decide +kernel
theorem dX12_nextOrder_34 : decode cX12_nextOrder 34 = .ok (.goto (-25), 3) := by decide +kernel
theorem dX12_nextOrder_37 : decode cX12_nextOrder 37 = .ok (.iload_n 1, 1) := by decide +kernel
theorem dX12_nextOrder_38 : decode cX12_nextOrder 38 = .ok (.iconst 1, 1) := by decide +kernel
theorem dX12_nextOrder_39 : decode cX12_nextOrder 39 = .ok (.if_icmp .ge 5, 3) := by decide +kernel
theorem dX12_nextOrder_42 : decode cX12_nextOrder 42 = .ok (.iconst 0, 1) := by decide +kernel
theorem dX12_nextOrder_43 : decode cX12_nextOrder 43 = .ok (.ireturn, 1) := by decide +kernel
theorem dX12_nextOrder_44 : decode cX12_nextOrder 44 = .ok (.aload_n 0, 1) := by decide +kernel
theorem dX12_nextOrder_45 : decode cX12_nextOrder 45 = .ok (.getfield 39, 3) := by decide +kernel
theorem dX12_nextOrder_48 : decode cX12_nextOrder 48 = .ok (.iconst 3, 1) := by decide +kernel
theorem dX12_nextOrder_49 : decode cX12_nextOrder 49 = .ok (.iaload, 1) := by decide +kernel
theorem dX12_nextOrder_50 : decode cX12_nextOrder 50 = .ok (.iconst 1, 1) := by decide +kernel
theorem dX12_nextOrder_51 : decode cX12_nextOrder 51 = .ok (.isub, 1) := by decide +kernel
theorem dX12_nextOrder_52 : decode cX12_nextOrder 52 = .ok (.istore_n 2, 1) := by decide +kernel
theorem dX12_nextOrder_53 : decode cX12_nextOrder 53 = .ok (.aload_n 0, 1) := by decide +kernel
theorem dX12_nextOrder_54 : decode cX12_nextOrder 54 = .ok (.getfield 55, 3) := by decide +kernel
theorem dX12_nextOrder_57 : decode cX12_nextOrder 57 = .ok (.iload_n 2, 1) := by decide +kernel
theorem dX12_nextOrder_58 : decode cX12_nextOrder 58 = .ok (.iaload, 1) := by decide +kernel
theorem dX12_nextOrder_59 : decode cX12_nextOrder 59 = .ok (.aload_n 0, 1) := by decide +kernel
theorem dX12_nextOrder_60 : decode cX12_nextOrder 60 = .ok (.getfield 55, 3) := by decide +kernel
theorem dX12_nextOrder_63 : decode cX12_nextOrder 63 = .ok (.iload_n 1, 1) := by decide +kernel
theorem dX12_nextOrder_64 : decode cX12_nextOrder 64 = .ok (.iaload, 1) := by decide +kernel
theorem dX12_nextOrder_65 : decode cX12_nextOrder 65 = .ok (.if_icmp .ge 9, 3) := by decide +kernel
theorem dX12_nextOrder_68 : decode cX12_nextOrder 68 = .ok (.iinc 2 (-1), 3) := by decide +kernel
theorem dX12_nextOrder_71 : decode cX12_nextOrder 71 = .ok (.goto (-18), 3) := by decide +kernel
theorem dX12_nextOrder_74 : decode cX12_nextOrder 74 = .ok (.aload_n 0, 1) := by decide +kernel
theorem dX12_nextOrder_75 : decode cX12_nextOrder 75 = .ok (.iload_n 1, 1) := by decide +kernel
theorem dX12_nextOrder_76 : decode cX12_nextOrder 76 = .ok (.iload_n 2, 1) := by decide +kernel
theorem dX12_nextOrder_77 : decode cX12_nextOrder 77 = .ok (.invokevirtual 391, 3) := by decide +kernel
theorem dX12_nextOrder_80 : decode cX12_nextOrder 80 = .ok (.iload_n 1, 1) := by decide +kernel
theorem dX12_nextOrder_81 : decode cX12_nextOrder 81 = .ok (.iconst 1, 1) := by decide +kernel
theorem dX12_nextOrder_82 : decode cX12_nextOrder 82 = .ok (.iadd, 1) := by decide +kernel
theorem dX12_nextOrder_83 : decode cX12_nextOrder 83 = .ok (.istore_n 3, 1) := by decide +kernel
theorem dX12_nextOrder_84 : decode cX12_nextOrder 84 = .ok (.aload_n 0, 1) := by decide +kernel
theorem dX12_nextOrder_85 : decode cX12_nextOrder 85 = .ok (.getfield 39, 3) := by decide +kernel
theorem dX12_nextOrder_88 : decode cX12_nextOrder 88 = .ok (.iconst 3, 1) := by decide +kernel
theorem dX12_nextOrder_89 : decode cX12_nextOrder 89 = .ok (.iaload, 1) := by decide +kernel
theorem dX12_nextOrder_90 : decode cX12_nextOrder 90 = .ok (.iconst 1, 1) := by decide +kernel
theorem dX12_nextOrder_91 : decode cX12_nextOrder 91 = .ok (.isub, 1) := by decide +kernel
theorem dX12_nextOrder_92 : decode cX12_nextOrder 92 = .ok (.istore 4, 2) := by decide +kernel
theorem dX12_nextOrder_94 : decode cX12_nextOrder 94 = .ok (.iload_n 3, 1) := by decide +kernel
theorem dX12_nextOrder_95 : decode cX12_nextOrder 95 = .ok (.iload 4, 2) := by decide +kernel
theorem dX12_nextOrder_97 : decode cX12_nextOrder 97 = .ok (.if_icmp .ge 19, 3) := by decide +kernel
theorem dX12_nextOrder_100 : decode cX12_nextOrder 100 = .ok (.aload_n 0, 1) := by decide +kernel
theorem dX12_nextOrder_101 : decode cX12_nextOrder 101 = .ok (.iload_n 3, 1) := by decide +kernel
theorem dX12_nextOrder_102 : decode cX12_nextOrder 102 = .ok (.iload 4, 2) := by decide +kernel
theorem dX12_nextOrder_104 : decode cX12_nextOrder 104 = .ok (.invokevirtual 391, 3) := by decide +kernel
theorem dX12_nextOrder_107 : decode cX12_nextOrder 107 = .ok (.iinc 3 1, 3) := by decide +kernel
theorem dX12_nextOrder_110 : decode cX12_nextOrder 110 = .ok (.iinc 4 (-1), 3) := by decide +kernel
theorem dX12_nextOrder_113 : decode cX12_nextOrder 113 = .ok (.goto (-19), 3) := by decide +kernel
theorem dX12_nextOrder_116 : decode cX12_nextOrder 116 = .ok (.iconst 1, 1) := by decide +kernel
theorem dX12_nextOrder_117 : decode cX12_nextOrder 117 = .ok (.ireturn, 1) := by decide +kernel
abbrev Mm_nextOrder : rx_M := (RX12, yX12_nextOrder, cX12_nextOrder, 5, (some .boolean), 2)
theorem km_nextOrder : rKv Mm_nextOrder 0 := ⟨tb_in (i := 28) (j := 1) rfl rfl, tb_in (i := 28) (j := 2) rfl rfl, tb_in (i := 17) (j := 21) rfl rfl, tb_in (i := 27) (j := 15) rfl rfl, ⟨by decide, by decide, by decide +kernel⟩, by decide⟩
def m_nextOrder_l94 (z_said : Nat → Int32) : Nat → Int32 → Int32 → (Nat → Int32) → Option (Int32 × (Nat → Int32))
  | 0, _, _, _ => none
  | n + 1, x3, x4, z_order => (if x4 ≤ x3 then some ((1 : Int32), z_order) else (m_swapsOrder x3 x4 z_order).bind (fun q15 => m_nextOrder_l94 z_said n (x3 + (1 : Int32)) (x4 + (-1 : Int32)) q15))
set_option maxRecDepth 20000 in
theorem cm_nextOrder_l94 {q : Int32 × (Nat → Int32)}   : ∀ (n : Nat) (x3 : Int32) (x4 : Int32) (z_order : Nat → Int32), m_nextOrder_l94 z_said n x3 x4 z_order = some q → rW l D Z (ty7 K) Mm_nextOrder 94 [(0, .ref (ad 0)), (3, .int x3), (4, .int x4)] [] (wM K ad z_tape z_taped z_rules z_sign z_length z_clause z_clauses z_read z_next z_wrong z_number z_text z_made z_deep z_lines z_open z_opened z_stack z_top z_word z_said z_force z_x z_absent z_isRaining z_wasSaid z_undone z_kept z_order z_bestOrder z_hasBy z_wealthThen z_isFit z_tillThen z_drawX z_images z_imageForce z_imageX z_isMade) (wM K ad z_tape z_taped z_rules z_sign z_length z_clause z_clauses z_read z_next z_wrong z_number z_text z_made z_deep z_lines z_open z_opened z_stack z_top z_word z_said z_force z_x z_absent z_isRaining z_wasSaid z_undone z_kept q.2 z_bestOrder z_hasBy z_wealthThen z_isFit z_tillThen z_drawX z_images z_imageForce z_imageX z_isMade) (some (.int q.1)) := by
  intro n
  induction n with
  | zero => intro x3 x4 z_order h; unfold m_nextOrder_l94 at h; cases h
  | succ n ih =>
    intro x3 x4 z_order h
    unfold m_nextOrder_l94 at h
    refine r_iload_n 1 dX12_nextOrder_94 rfl ?_
    refine r_iload 2 dX12_nextOrder_95 rfl ?_
    refine r_icmp_ge 116 dX12_nextOrder_97 (by decide) (fun c14 => ?_) (fun c14 => ?_)
    · replace h := it_pos c14 h
      refine r_iconst (x := (1 : Int32)) dX12_nextOrder_116 (by decide) ?_
      have hq := Option.some.inj h
      subst hq
      exact r_zret (ty := .boolean) rfl rfl dX12_nextOrder_117
    · replace h := it_neg c14 h
      refine r_aload_n 0 dX12_nextOrder_100 rfl ?_
      refine r_iload_n 1 dX12_nextOrder_101 rfl ?_
      refine r_iload 2 dX12_nextOrder_102 rfl ?_
      obtain ⟨q15, h15, h⟩ := bd_some h
      refine cvM (st := []) (cm_swapsOrder h15) rfl rfl (Nat.le_of_ble_eq_true rfl) km_swapsOrder (tb_in (i := 27) (j := 16) rfl rfl) (by decide) rfl dX12_nextOrder_104 ?_
      refine r_iinc (y := (x3 + (1 : Int32))) (lv' := [(3, .int (x3 + (1 : Int32))), (0, .ref (ad 0)), (4, .int x4)]) 1 dX12_nextOrder_107 rfl rfl (by decide) rfl ?_
      refine r_iinc (y := (x4 + (-1 : Int32))) (lv' := [(4, .int (x4 + (-1 : Int32))), (3, .int (x3 + (1 : Int32))), (0, .ref (ad 0))]) 2 dX12_nextOrder_110 rfl rfl (by decide) rfl ?_
      refine r_goto 94 dX12_nextOrder_113 (by decide) ?_
      refine r_sub (lv' := [(0, .ref (ad 0)), (3, .int (x3 + (1 : Int32))), (4, .int (x4 + (-1 : Int32)))]) [2, 1, 0] rfl ?_
      exact ih _ _ _ h
def m_nextOrder_l53 (z_said : Nat → Int32) (z_order : Nat → Int32) (x1 : Int32) : Nat → Int32 → Option (Int32 × (Nat → Int32))
  | 0, _ => none
  | n + 1, x2 => rq (inb x2 6) (rq (inb x1 6) ((if (z_order x1.toNatClampNeg) ≤ (z_order x2.toNatClampNeg) then (m_swapsOrder x1 x2 z_order).bind (fun q10 => lt (x1 + (1 : Int32)) (fun y11 => rq (inb (3 : Int32) 156) (lt ((z_said (3 : Int32).toNatClampNeg) - (1 : Int32)) (fun y13 => m_nextOrder_l94 z_said FU y11 y13 q10)))) else m_nextOrder_l53 z_said z_order x1 n (x2 + (-1 : Int32)))))
set_option maxRecDepth 20000 in
theorem cm_nextOrder_l53 {q : Int32 × (Nat → Int32)} {x1 : Int32}  : ∀ (n : Nat) (x2 : Int32), m_nextOrder_l53 z_said z_order x1 n x2 = some q → rW l D Z (ty7 K) Mm_nextOrder 53 [(0, .ref (ad 0)), (1, .int x1), (2, .int x2)] [] (wM K ad z_tape z_taped z_rules z_sign z_length z_clause z_clauses z_read z_next z_wrong z_number z_text z_made z_deep z_lines z_open z_opened z_stack z_top z_word z_said z_force z_x z_absent z_isRaining z_wasSaid z_undone z_kept z_order z_bestOrder z_hasBy z_wealthThen z_isFit z_tillThen z_drawX z_images z_imageForce z_imageX z_isMade) (wM K ad z_tape z_taped z_rules z_sign z_length z_clause z_clauses z_read z_next z_wrong z_number z_text z_made z_deep z_lines z_open z_opened z_stack z_top z_word z_said z_force z_x z_absent z_isRaining z_wasSaid z_undone z_kept q.2 z_bestOrder z_hasBy z_wealthThen z_isFit z_tillThen z_drawX z_images z_imageForce z_imageX z_isMade) (some (.int q.1)) := by
  intro n
  induction n with
  | zero => intro x2 h; unfold m_nextOrder_l53 at h; cases h
  | succ n ih =>
    intro x2 h
    unfold m_nextOrder_l53 at h
    refine r_aload_n 0 dX12_nextOrder_53 rfl ?_
    refine gM_order rfl dX12_nextOrder_54 ?_
    refine r_iload_n 2 dX12_nextOrder_57 rfl ?_
    obtain ⟨h7, h⟩ := rq_some h
    refine lM_order (inb_in h7) dX12_nextOrder_58 ?_
    refine r_aload_n 0 dX12_nextOrder_59 rfl ?_
    refine gM_order rfl dX12_nextOrder_60 ?_
    refine r_iload_n 1 dX12_nextOrder_63 rfl ?_
    obtain ⟨h8, h⟩ := rq_some h
    refine lM_order (inb_in h8) dX12_nextOrder_64 ?_
    refine r_icmp_ge 74 dX12_nextOrder_65 (by decide) (fun c9 => ?_) (fun c9 => ?_)
    · replace h := it_pos c9 h
      refine r_aload_n 0 dX12_nextOrder_74 rfl ?_
      refine r_iload_n 1 dX12_nextOrder_75 rfl ?_
      refine r_iload_n 2 dX12_nextOrder_76 rfl ?_
      obtain ⟨q10, h10, h⟩ := bd_some h
      refine cvM (st := []) (cm_swapsOrder h10) rfl rfl (Nat.le_of_ble_eq_true rfl) km_swapsOrder (tb_in (i := 27) (j := 16) rfl rfl) (by decide) rfl dX12_nextOrder_77 ?_
      refine r_iload_n 1 dX12_nextOrder_80 rfl ?_
      refine r_iconst (x := (1 : Int32)) dX12_nextOrder_81 (by decide) ?_
      refine r_iadd dX12_nextOrder_82 ?_
      obtain ⟨y11, e11, h⟩ := lt_some h
      refine r_top e11 ?_
      refine r_istore_n (lv' := [(3, .int y11), (0, .ref (ad 0)), (1, .int x1), (2, .int x2)]) dX12_nextOrder_83 (by decide) rfl ?_
      refine r_aload_n 1 dX12_nextOrder_84 rfl ?_
      refine gM_said rfl dX12_nextOrder_85 ?_
      refine r_iconst (x := (3 : Int32)) dX12_nextOrder_88 (by decide) ?_
      obtain ⟨h12, h⟩ := rq_some h
      refine lM_said (inb_in h12) dX12_nextOrder_89 ?_
      refine r_iconst (x := (1 : Int32)) dX12_nextOrder_90 (by decide) ?_
      refine r_isub dX12_nextOrder_91 ?_
      obtain ⟨y13, e13, h⟩ := lt_some h
      refine r_top e13 ?_
      refine r_istore (lv' := [(4, .int y13), (3, .int y11), (0, .ref (ad 0)), (1, .int x1), (2, .int x2)]) dX12_nextOrder_92 (by decide) rfl ?_
      refine r_sub (lv' := [(0, .ref (ad 0)), (3, .int y11), (4, .int y13)]) [2, 1, 0] rfl ?_
      exact cm_nextOrder_l94  FU _ _ _ h
    · replace h := it_neg c9 h
      refine r_iinc (y := (x2 + (-1 : Int32))) (lv' := [(2, .int (x2 + (-1 : Int32))), (0, .ref (ad 0)), (1, .int x1)]) 2 dX12_nextOrder_68 rfl rfl (by decide) rfl ?_
      refine r_goto 53 dX12_nextOrder_71 (by decide) ?_
      refine r_sub (lv' := [(0, .ref (ad 0)), (1, .int x1), (2, .int (x2 + (-1 : Int32)))]) [1, 2, 0] rfl ?_
      exact ih _ h
def m_nextOrder_l9 (z_said : Nat → Int32) (z_order : Nat → Int32) : Nat → Int32 → Option (Int32 × (Nat → Int32))
  | 0, _ => none
  | n + 1, x1 => (if x1 < (1 : Int32) then (if (1 : Int32) ≤ x1 then rq (inb (3 : Int32) 156) (lt ((z_said (3 : Int32).toNatClampNeg) - (1 : Int32)) (fun y6 => m_nextOrder_l53 z_said z_order x1 FU y6)) else some ((0 : Int32), z_order)) else rq (inb x1 6) (rq (inb (x1 + (1 : Int32)) 6) ((if (z_order x1.toNatClampNeg) ≤ (z_order (x1 + (1 : Int32)).toNatClampNeg) then (if (1 : Int32) ≤ x1 then rq (inb (3 : Int32) 156) (lt ((z_said (3 : Int32).toNatClampNeg) - (1 : Int32)) (fun y21 => m_nextOrder_l53 z_said z_order x1 FU y21)) else some ((0 : Int32), z_order)) else m_nextOrder_l9 z_said z_order n (x1 + (-1 : Int32))))))
set_option maxRecDepth 20000 in
theorem cm_nextOrder_l9 {q : Int32 × (Nat → Int32)}   : ∀ (n : Nat) (x1 : Int32), m_nextOrder_l9 z_said z_order n x1 = some q → rW l D Z (ty7 K) Mm_nextOrder 9 [(0, .ref (ad 0)), (1, .int x1)] [] (wM K ad z_tape z_taped z_rules z_sign z_length z_clause z_clauses z_read z_next z_wrong z_number z_text z_made z_deep z_lines z_open z_opened z_stack z_top z_word z_said z_force z_x z_absent z_isRaining z_wasSaid z_undone z_kept z_order z_bestOrder z_hasBy z_wealthThen z_isFit z_tillThen z_drawX z_images z_imageForce z_imageX z_isMade) (wM K ad z_tape z_taped z_rules z_sign z_length z_clause z_clauses z_read z_next z_wrong z_number z_text z_made z_deep z_lines z_open z_opened z_stack z_top z_word z_said z_force z_x z_absent z_isRaining z_wasSaid z_undone z_kept q.2 z_bestOrder z_hasBy z_wealthThen z_isFit z_tillThen z_drawX z_images z_imageForce z_imageX z_isMade) (some (.int q.1)) := by
  intro n
  induction n with
  | zero => intro x1 h; unfold m_nextOrder_l9 at h; cases h
  | succ n ih =>
    intro x1 h
    unfold m_nextOrder_l9 at h
    refine r_iload_n 1 dX12_nextOrder_9 rfl ?_
    refine r_iconst (x := (1 : Int32)) dX12_nextOrder_10 (by decide) ?_
    refine r_icmp_lt 37 dX12_nextOrder_11 (by decide) (fun c3 => ?_) (fun c3 => ?_)
    · replace h := it_pos c3 h
      refine r_iload_n 1 dX12_nextOrder_37 rfl ?_
      refine r_iconst (x := (1 : Int32)) dX12_nextOrder_38 (by decide) ?_
      refine r_icmp_ge 44 dX12_nextOrder_39 (by decide) (fun c4 => ?_) (fun c4 => ?_)
      · replace h := it_pos c4 h
        refine r_aload_n 0 dX12_nextOrder_44 rfl ?_
        refine gM_said rfl dX12_nextOrder_45 ?_
        refine r_iconst (x := (3 : Int32)) dX12_nextOrder_48 (by decide) ?_
        obtain ⟨h5, h⟩ := rq_some h
        refine lM_said (inb_in h5) dX12_nextOrder_49 ?_
        refine r_iconst (x := (1 : Int32)) dX12_nextOrder_50 (by decide) ?_
        refine r_isub dX12_nextOrder_51 ?_
        obtain ⟨y6, e6, h⟩ := lt_some h
        refine r_top e6 ?_
        refine r_istore_n (lv' := [(2, .int y6), (0, .ref (ad 0)), (1, .int x1)]) dX12_nextOrder_52 (by decide) rfl ?_
        refine r_sub (lv' := [(0, .ref (ad 0)), (1, .int x1), (2, .int y6)]) [1, 2, 0] rfl ?_
        exact cm_nextOrder_l53  FU _ h
      · replace h := it_neg c4 h
        refine r_iconst (x := (0 : Int32)) dX12_nextOrder_42 (by decide) ?_
        have hq := Option.some.inj h
        subst hq
        exact r_zret (ty := .boolean) rfl rfl dX12_nextOrder_43
    · replace h := it_neg c3 h
      refine r_aload_n 0 dX12_nextOrder_14 rfl ?_
      refine gM_order rfl dX12_nextOrder_15 ?_
      refine r_iload_n 1 dX12_nextOrder_18 rfl ?_
      obtain ⟨h16, h⟩ := rq_some h
      refine lM_order (inb_in h16) dX12_nextOrder_19 ?_
      refine r_aload_n 0 dX12_nextOrder_20 rfl ?_
      refine gM_order rfl dX12_nextOrder_21 ?_
      refine r_iload_n 1 dX12_nextOrder_24 rfl ?_
      refine r_iconst (x := (1 : Int32)) dX12_nextOrder_25 (by decide) ?_
      refine r_iadd dX12_nextOrder_26 ?_
      obtain ⟨h17, h⟩ := rq_some h
      refine lM_order (inb_in h17) dX12_nextOrder_27 ?_
      refine r_icmp_le 37 dX12_nextOrder_28 (by decide) (fun c18 => ?_) (fun c18 => ?_)
      · replace h := it_pos c18 h
        refine r_iload_n 1 dX12_nextOrder_37 rfl ?_
        refine r_iconst (x := (1 : Int32)) dX12_nextOrder_38 (by decide) ?_
        refine r_icmp_ge 44 dX12_nextOrder_39 (by decide) (fun c19 => ?_) (fun c19 => ?_)
        · replace h := it_pos c19 h
          refine r_aload_n 0 dX12_nextOrder_44 rfl ?_
          refine gM_said rfl dX12_nextOrder_45 ?_
          refine r_iconst (x := (3 : Int32)) dX12_nextOrder_48 (by decide) ?_
          obtain ⟨h20, h⟩ := rq_some h
          refine lM_said (inb_in h20) dX12_nextOrder_49 ?_
          refine r_iconst (x := (1 : Int32)) dX12_nextOrder_50 (by decide) ?_
          refine r_isub dX12_nextOrder_51 ?_
          obtain ⟨y21, e21, h⟩ := lt_some h
          refine r_top e21 ?_
          refine r_istore_n (lv' := [(2, .int y21), (0, .ref (ad 0)), (1, .int x1)]) dX12_nextOrder_52 (by decide) rfl ?_
          refine r_sub (lv' := [(0, .ref (ad 0)), (1, .int x1), (2, .int y21)]) [1, 2, 0] rfl ?_
          exact cm_nextOrder_l53  FU _ h
        · replace h := it_neg c19 h
          refine r_iconst (x := (0 : Int32)) dX12_nextOrder_42 (by decide) ?_
          have hq := Option.some.inj h
          subst hq
          exact r_zret (ty := .boolean) rfl rfl dX12_nextOrder_43
      · replace h := it_neg c18 h
        refine r_iinc (y := (x1 + (-1 : Int32))) (lv' := [(1, .int (x1 + (-1 : Int32))), (0, .ref (ad 0))]) 1 dX12_nextOrder_31 rfl rfl (by decide) rfl ?_
        refine r_goto 9 dX12_nextOrder_34 (by decide) ?_
        refine r_sub (lv' := [(0, .ref (ad 0)), (1, .int (x1 + (-1 : Int32)))]) [1, 0] rfl ?_
        exact ih _ h
def m_nextOrder (z_said : Nat → Int32) (z_order : Nat → Int32) : Option (Int32 × (Nat → Int32)) := rq (inb (3 : Int32) 156) (lt ((z_said (3 : Int32).toNatClampNeg) - (2 : Int32)) (fun y2 => m_nextOrder_l9 z_said z_order FU y2))
set_option maxRecDepth 20000 in
theorem cm_nextOrder {q : Int32 × (Nat → Int32)}  (h : m_nextOrder z_said z_order = some q) : rMet l D Z (ty7 K) Mm_nextOrder [.ref (ad 0)] (wM K ad z_tape z_taped z_rules z_sign z_length z_clause z_clauses z_read z_next z_wrong z_number z_text z_made z_deep z_lines z_open z_opened z_stack z_top z_word z_said z_force z_x z_absent z_isRaining z_wasSaid z_undone z_kept z_order z_bestOrder z_hasBy z_wealthThen z_isFit z_tillThen z_drawX z_images z_imageForce z_imageX z_isMade) (wM K ad z_tape z_taped z_rules z_sign z_length z_clause z_clauses z_read z_next z_wrong z_number z_text z_made z_deep z_lines z_open z_opened z_stack z_top z_word z_said z_force z_x z_absent z_isRaining z_wasSaid z_undone z_kept q.2 z_bestOrder z_hasBy z_wealthThen z_isFit z_tillThen z_drawX z_images z_imageForce z_imageX z_isMade) (some (.int q.1)) := by
  refine rMet.of (by decide) rfl (Nat.le_of_ble_eq_true rfl) ?_
  refine r_sub (lv' := [(0, .ref (ad 0))]) [0] rfl ?_
  unfold m_nextOrder at h
  refine r_aload_n 0 dX12_nextOrder_0 rfl ?_
  refine gM_said rfl dX12_nextOrder_1 ?_
  refine r_iconst (x := (3 : Int32)) dX12_nextOrder_4 (by decide) ?_
  obtain ⟨h1, h⟩ := rq_some h
  refine lM_said (inb_in h1) dX12_nextOrder_5 ?_
  refine r_iconst (x := (2 : Int32)) dX12_nextOrder_6 (by decide) ?_
  refine r_isub dX12_nextOrder_7 ?_
  obtain ⟨y2, e2, h⟩ := lt_some h
  refine r_top e2 ?_
  refine r_istore_n (lv' := [(1, .int y2), (0, .ref (ad 0))]) dX12_nextOrder_8 (by decide) rfl ?_
  refine r_sub (lv' := [(0, .ref (ad 0)), (1, .int y2)]) [1, 0] rfl ?_
  exact cm_nextOrder_l9  FU _ h
end PM3
