section PM1
variable {l : Launch} {D : va_G} {Z : (Nat → Nat) × (Nat → Nat)} {K : Nat → ClassId} {ad : Nat → Nat} {tys : List (ClassId × FieldType)} {ws : va_W}
variable {z_tape : Nat → Int32} {z_taped : Int32} {z_rules : Int32} {z_sign : Nat → Int32} {z_length : Nat → Int32} {z_clause : Nat → Int32} {z_clauses : Nat → Int32} {z_read : Nat → Int32} {z_next : Int32} {z_wrong : Int32} {z_number : Int32} {z_text : Int32} {z_made : Int32} {z_deep : Int32} {z_lines : Int32} {z_open : Nat → Int32} {z_opened : Int32} {z_stack : Nat → Int64} {z_top : Int32} {z_word : Nat → Int64} {z_said : Nat → Int32} {z_force : Int32} {z_x : Int32} {z_absent : Int32} {z_isRaining : Int32} {z_wasSaid : Nat → Int32} {z_undone : Int32} {z_kept : Nat → Int32} {z_order : Nat → Int32} {z_bestOrder : Nat → Int32} {z_hasBy : Nat → Int32} {z_wealthThen : Nat → Int32} {z_isFit : Nat → Int32} {z_tillThen : Nat → Int32} {z_drawX : Int64} {z_images : Nat → Int32} {z_imageForce : Nat → Int32} {z_imageX : Nat → Int32} {z_isMade : Nat → Int32}
theorem dX12_fact_0 : decode cX12_fact 0 = .ok (.iconst 1, 1) := by decide +kernel
theorem dX12_fact_1 : decode cX12_fact 1 = .ok (.istore_n 1, 1) := by decide +kernel
theorem dX12_fact_2 : decode cX12_fact 2 = .ok (.iload_n 1, 1) := by decide +kernel
theorem dX12_fact_3 : decode cX12_fact 3 = .ok (.ifCond .eq 72, 3) := by decide +kernel
theorem dX12_fact_6 : decode cX12_fact 6 = .ok (.iconst 0, 1) := by decide +kernel
theorem dX12_fact_7 : decode cX12_fact 7 = .ok (.istore_n 1, 1) := by decide +kernel
theorem dX12_fact_8 : decode cX12_fact 8 = .ok (.aload_n 0, 1) := by decide +kernel
theorem dX12_fact_9 : decode cX12_fact 9 = .ok (.invokevirtual 99, 3) := by decide +kernel
theorem dX12_fact_12 : decode cX12_fact 12 = .ok (.istore_n 2, 1) := by decide +kernel
theorem dX12_fact_13 : decode cX12_fact 13 = .ok (.aload_n 0, 1) := by decide +kernel
theorem dX12_fact_14 : decode cX12_fact 14 = .ok (.ldc2_w 192, 3) := by decide +kernel
theorem dX12_fact_17 : decode cX12_fact 17 = .ok (.invokevirtual 107, 3) := by decide +kernel
theorem dX12_fact_20 : decode cX12_fact 20 = .ok (.ifCond .eq 23, 3) := by decide +kernel
theorem dX12_fact_23 : decode cX12_fact 23 = .ok (.aload_n 0, 1) := by decide +kernel
theorem dX12_fact_24 : decode cX12_fact 24 = .ok (.bipush 11, 2) := by decide +kernel
theorem dX12_fact_26 : decode cX12_fact 26 = .ok (.invokevirtual 194, 3) := by decide +kernel
theorem dX12_fact_29 : decode cX12_fact 29 = .ok (.ifCond .ne 5, 3) := by decide +kernel
theorem dX12_fact_32 : decode cX12_fact 32 = .ok (.iconst 0, 1) := by decide +kernel
theorem dX12_fact_33 : decode cX12_fact 33 = .ok (.ireturn, 1) := by decide +kernel
theorem dX12_fact_34 : decode cX12_fact 34 = .ok (.aload_n 0, 1) := by decide +kernel
theorem dX12_fact_35 : decode cX12_fact 35 = .ok (.invokevirtual 111, 3) := by decide +kernel
theorem dX12_fact_38 : decode cX12_fact 38 = .ok (.iconst 1, 1) := by decide +kernel
theorem dX12_fact_39 : decode cX12_fact 39 = .ok (.istore_n 1, 1) := by decide +kernel
theorem dX12_fact_40 : decode cX12_fact 40 = .ok (.goto 32, 3) := by decide +kernel
theorem dX12_fact_43 : decode cX12_fact 43 = .ok (.iload_n 2, 1) := by decide +kernel
theorem dX12_fact_44 : decode cX12_fact 44 = .ok (.bipush 91, 2) := by decide +kernel
theorem dX12_fact_46 : decode cX12_fact 46 = .ok (.if_icmp .ne 26, 3) := by decide +kernel
theorem dX12_fact_49 : decode cX12_fact 49 = .ok (.aload_n 0, 1) := by decide +kernel
theorem dX12_fact_50 : decode cX12_fact 50 = .ok (.bipush 91, 2) := by decide +kernel
theorem dX12_fact_52 : decode cX12_fact 52 = .ok (.invokevirtual 194, 3) := by decide +kernel
theorem dX12_fact_55 : decode cX12_fact 55 = .ok (.ifCond .ne 5, 3) := by decide +kernel
theorem dX12_fact_58 : decode cX12_fact 58 = .ok (.iconst 0, 1) := by decide +kernel
theorem dX12_fact_59 : decode cX12_fact 59 = .ok (.ireturn, 1) := by decide +kernel
theorem dX12_fact_60 : decode cX12_fact 60 = .ok (.aload_n 0, 1) := by decide +kernel
theorem dX12_fact_61 : decode cX12_fact 61 = .ok (.dup, 1) := by decide +kernel
theorem dX12_fact_62 : decode cX12_fact 62 = .ok (.getfield 96, 3) := by decide +kernel
theorem dX12_fact_65 : decode cX12_fact 65 = .ok (.iconst 1, 1) := by decide +kernel
theorem dX12_fact_66 : decode cX12_fact 66 = .ok (.iadd, 1) := by decide +kernel
theorem dX12_fact_67 : decode cX12_fact 67 = .ok (.putfield 96, 3) := by decide +kernel
theorem dX12_fact_70 : decode cX12_fact 70 = .ok (.iconst 1, 1) := by decide +kernel
theorem dX12_fact_71 : decode cX12_fact 71 = .ok (.istore_n 1, 1) := by decide +kernel
theorem dX12_fact_72 : decode cX12_fact 72 = .ok (.goto (-70), 3) := by decide +kernel
theorem dX12_fact_75 : decode cX12_fact 75 = .ok (.aload_n 0, 1) := by decide +kernel
theorem dX12_fact_76 : decode cX12_fact 76 = .ok (.invokevirtual 197, 3) := by decide +kernel
theorem dX12_fact_79 : decode cX12_fact 79 = .ok (.ireturn, 1) := by decide +kernel
abbrev Mm_fact : rx_M := (RX12, yX12_fact, cX12_fact, 3, (some .boolean), 8)
theorem km_fact : rKv Mm_fact 0 := ⟨tb_in (i := 20) (j := 27) rfl rfl, tb_in (i := 20) (j := 28) rfl rfl, tb_in (i := 17) (j := 21) rfl rfl, tb_in (i := 20) (j := 15) rfl rfl, ⟨by decide, by decide, by decide +kernel⟩, by decide⟩
def m_fact_l2 (z_tape : Nat → Int32) (z_taped : Int32) (z_sign : Nat → Int32) (z_length : Nat → Int32) (z_number : Int32) (z_text : Int32) (z_made : Int32) : Nat → Int32 → Int32 → Int32 → Int32 → (Nat → Int32) → Int32 → Option (Int32 × (Nat → Int32) × (Nat → Int32) × Int32 × Int32 × Int32 × Int32 × Int32 × (Nat → Int32) × Int32)
  | 0, _, _, _, _, _, _ => none
  | n + 1, x1, z_next, z_wrong, z_deep, z_open, z_opened => (if x1 = 0 then (m_compare z_tape z_taped z_sign z_length z_next z_wrong z_number z_text z_made).bind (fun q2 => rq (bo q2.1) (some (q2.1, q2.2.1, q2.2.2.1, q2.2.2.2.1, q2.2.2.2.2.1, q2.2.2.2.2.2.1, q2.2.2.2.2.2.2, z_deep, z_open, z_opened))) else (m_see z_tape z_taped z_next).bind (fun q4 => (m_isWord (7237492 : Int64) z_tape z_taped q4.2).bind (fun q5 => (if q5.1 = 0 then (if q4.1 = (91 : Int32) then (m_opens (91 : Int32) q5.2 z_wrong z_deep z_open z_opened).bind (fun q8 => (if q8.1 = 0 then some ((0 : Int32), z_sign, z_length, q5.2, q8.2.1, z_number, z_made, q8.2.2.1, q8.2.2.2.1, q8.2.2.2.2) else lt (q5.2 + (1 : Int32)) (fun y10 => m_fact_l2 z_tape z_taped z_sign z_length z_number z_text z_made n (1 : Int32) y10 q8.2.1 q8.2.2.1 q8.2.2.2.1 q8.2.2.2.2))) else m_fact_l2 z_tape z_taped z_sign z_length z_number z_text z_made n (0 : Int32) q5.2 z_wrong z_deep z_open z_opened) else (m_opens (11 : Int32) q5.2 z_wrong z_deep z_open z_opened).bind (fun q11 => (if q11.1 = 0 then some ((0 : Int32), z_sign, z_length, q5.2, q11.2.1, z_number, z_made, q11.2.2.1, q11.2.2.2.1, q11.2.2.2.2) else (m_passWord z_tape z_taped q5.2).bind (fun q13 => m_fact_l2 z_tape z_taped z_sign z_length z_number z_text z_made n (1 : Int32) q13 q11.2.1 q11.2.2.1 q11.2.2.2.1 q11.2.2.2.2)))))))
set_option maxRecDepth 20000 in
theorem cm_fact_l2 {q : Int32 × (Nat → Int32) × (Nat → Int32) × Int32 × Int32 × Int32 × Int32 × Int32 × (Nat → Int32) × Int32}   : ∀ (n : Nat) (x1 : Int32) (z_next : Int32) (z_wrong : Int32) (z_deep : Int32) (z_open : Nat → Int32) (z_opened : Int32), m_fact_l2 z_tape z_taped z_sign z_length z_number z_text z_made n x1 z_next z_wrong z_deep z_open z_opened = some q → rW l D Z (ty7 K) Mm_fact 2 [(0, .ref (ad 0)), (1, .int x1)] [] (wM K ad z_tape z_taped z_rules z_sign z_length z_clause z_clauses z_read z_next z_wrong z_number z_text z_made z_deep z_lines z_open z_opened z_stack z_top z_word z_said z_force z_x z_absent z_isRaining z_wasSaid z_undone z_kept z_order z_bestOrder z_hasBy z_wealthThen z_isFit z_tillThen z_drawX z_images z_imageForce z_imageX z_isMade) (wM K ad z_tape z_taped z_rules q.2.1 q.2.2.1 z_clause z_clauses z_read q.2.2.2.1 q.2.2.2.2.1 q.2.2.2.2.2.1 z_text q.2.2.2.2.2.2.1 q.2.2.2.2.2.2.2.1 z_lines q.2.2.2.2.2.2.2.2.1 q.2.2.2.2.2.2.2.2.2 z_stack z_top z_word z_said z_force z_x z_absent z_isRaining z_wasSaid z_undone z_kept z_order z_bestOrder z_hasBy z_wealthThen z_isFit z_tillThen z_drawX z_images z_imageForce z_imageX z_isMade) (some (.int q.1)) := by
  intro n
  induction n with
  | zero => intro x1 z_next z_wrong z_deep z_open z_opened h; unfold m_fact_l2 at h; cases h
  | succ n ih =>
    intro x1 z_next z_wrong z_deep z_open z_opened h
    unfold m_fact_l2 at h
    refine r_iload_n 1 dX12_fact_2 rfl ?_
    refine r_if_eq 75 dX12_fact_3 (by decide) (fun c1 => ?_) (fun c1 => ?_)
    · replace h := it_pos c1 h
      refine r_aload_n 0 dX12_fact_75 rfl ?_
      obtain ⟨q2, h2, h⟩ := bd_some h
      refine cvM (st := []) (cm_compare h2) rfl rfl (Nat.le_of_ble_eq_true rfl) km_compare (tb_in (i := 20) (j := 12) rfl rfl) (by decide) rfl dX12_fact_76 ?_
      obtain ⟨h3, h⟩ := rq_some h
      have hq := Option.some.inj h
      subst hq
      exact r_zret (ty := .boolean) rfl (bo_nar h3) dX12_fact_79
    · replace h := it_neg c1 h
      refine r_iconst (x := (0 : Int32)) dX12_fact_6 (by decide) ?_
      refine r_istore_n (lv' := [(1, .int (0 : Int32)), (0, .ref (ad 0))]) dX12_fact_7 (by decide) rfl ?_
      refine r_aload_n 1 dX12_fact_8 rfl ?_
      obtain ⟨q4, h4, h⟩ := bd_some h
      refine cvM (st := []) (cm_see h4) rfl rfl (Nat.le_of_ble_eq_true rfl) km_see (tb_in (i := 17) (j := 30) rfl rfl) (by decide) rfl dX12_fact_9 ?_
      refine r_istore_n (lv' := [(2, .int q4.1), (1, .int (0 : Int32)), (0, .ref (ad 0))]) dX12_fact_12 (by decide) rfl ?_
      refine r_aload_n 2 dX12_fact_13 rfl ?_
      refine r_ldc2 (x := (7237492 : Int64)) (tb_in (i := 20) (j := 8) rfl rfl) dX12_fact_14 ?_
      obtain ⟨q5, h5, h⟩ := bd_some h
      refine cvM (st := []) (cm_isWord h5) rfl rfl (Nat.le_of_ble_eq_true rfl) km_isWord (tb_in (i := 18) (j := 6) rfl rfl) (by decide) rfl dX12_fact_17 ?_
      refine r_if_eq 43 dX12_fact_20 (by decide) (fun c6 => ?_) (fun c6 => ?_)
      · replace h := it_pos c6 h
        refine r_iload_n 0 dX12_fact_43 rfl ?_
        refine r_bipush (x := (91 : Int32)) dX12_fact_44 (by decide) ?_
        refine r_icmp_ne 72 dX12_fact_46 (by decide) (fun c7 => ?_) (fun c7 => ?_)
        · replace h := it_neg c7 h
          refine r_goto 2 dX12_fact_72 (by decide) ?_
          refine r_sub (lv' := [(0, .ref (ad 0)), (1, .int (0 : Int32))]) [2, 1] rfl ?_
          exact ih _ _ _ _ _ _ h
        · replace h := it_pos c7 h
          refine r_aload_n 2 dX12_fact_49 rfl ?_
          refine r_bipush (x := (91 : Int32)) dX12_fact_50 (by decide) ?_
          obtain ⟨q8, h8, h⟩ := bd_some h
          refine cvM (st := []) (cm_opens h8) rfl rfl (Nat.le_of_ble_eq_true rfl) km_opens (tb_in (i := 20) (j := 9) rfl rfl) (by decide) rfl dX12_fact_52 ?_
          refine r_if_ne 60 dX12_fact_55 (by decide) (fun c9 => ?_) (fun c9 => ?_)
          · replace h := it_neg c9 h
            refine r_aload_n 2 dX12_fact_60 rfl ?_
            refine r_dup dX12_fact_61 rfl ?_
            refine gM_next rfl dX12_fact_62 ?_
            refine r_iconst (x := (1 : Int32)) dX12_fact_65 (by decide) ?_
            refine r_iadd dX12_fact_66 ?_
            obtain ⟨y10, e10, h⟩ := lt_some h
            refine r_top e10 ?_
            refine pM_next rfl dX12_fact_67 ?_
            refine r_iconst (x := (1 : Int32)) dX12_fact_70 (by decide) ?_
            refine r_istore_n (lv' := [(1, .int (1 : Int32)), (2, .int q4.1), (0, .ref (ad 0))]) dX12_fact_71 (by decide) rfl ?_
            refine r_goto 2 dX12_fact_72 (by decide) ?_
            refine r_sub (lv' := [(0, .ref (ad 0)), (1, .int (1 : Int32))]) [2, 0] rfl ?_
            exact ih _ _ _ _ _ _ h
          · replace h := it_pos c9 h
            refine r_iconst (x := (0 : Int32)) dX12_fact_58 (by decide) ?_
            have hq := Option.some.inj h
            subst hq
            exact r_zret (ty := .boolean) rfl rfl dX12_fact_59
      · replace h := it_neg c6 h
        refine r_aload_n 2 dX12_fact_23 rfl ?_
        refine r_bipush (x := (11 : Int32)) dX12_fact_24 (by decide) ?_
        obtain ⟨q11, h11, h⟩ := bd_some h
        refine cvM (st := []) (cm_opens h11) rfl rfl (Nat.le_of_ble_eq_true rfl) km_opens (tb_in (i := 20) (j := 9) rfl rfl) (by decide) rfl dX12_fact_26 ?_
        refine r_if_ne 34 dX12_fact_29 (by decide) (fun c12 => ?_) (fun c12 => ?_)
        · replace h := it_neg c12 h
          refine r_aload_n 2 dX12_fact_34 rfl ?_
          obtain ⟨q13, h13, h⟩ := bd_some h
          refine cvM (st := []) (cm_passWord h13) rfl rfl (Nat.le_of_ble_eq_true rfl) km_passWord (tb_in (i := 18) (j := 9) rfl rfl) (by decide) rfl dX12_fact_35 ?_
          refine r_iconst (x := (1 : Int32)) dX12_fact_38 (by decide) ?_
          refine r_istore_n (lv' := [(1, .int (1 : Int32)), (2, .int q4.1), (0, .ref (ad 0))]) dX12_fact_39 (by decide) rfl ?_
          refine r_goto 72 dX12_fact_40 (by decide) ?_
          refine r_goto 2 dX12_fact_72 (by decide) ?_
          refine r_sub (lv' := [(0, .ref (ad 0)), (1, .int (1 : Int32))]) [2, 0] rfl ?_
          exact ih _ _ _ _ _ _ h
        · replace h := it_pos c12 h
          refine r_iconst (x := (0 : Int32)) dX12_fact_32 (by decide) ?_
          have hq := Option.some.inj h
          subst hq
          exact r_zret (ty := .boolean) rfl rfl dX12_fact_33
def m_fact (z_tape : Nat → Int32) (z_taped : Int32) (z_sign : Nat → Int32) (z_length : Nat → Int32) (z_next : Int32) (z_wrong : Int32) (z_number : Int32) (z_text : Int32) (z_made : Int32) (z_deep : Int32) (z_open : Nat → Int32) (z_opened : Int32) : Option (Int32 × (Nat → Int32) × (Nat → Int32) × Int32 × Int32 × Int32 × Int32 × Int32 × (Nat → Int32) × Int32) := m_fact_l2 z_tape z_taped z_sign z_length z_number z_text z_made FU (1 : Int32) z_next z_wrong z_deep z_open z_opened
set_option maxRecDepth 20000 in
theorem cm_fact {q : Int32 × (Nat → Int32) × (Nat → Int32) × Int32 × Int32 × Int32 × Int32 × Int32 × (Nat → Int32) × Int32}  (h : m_fact z_tape z_taped z_sign z_length z_next z_wrong z_number z_text z_made z_deep z_open z_opened = some q) : rMet l D Z (ty7 K) Mm_fact [.ref (ad 0)] (wM K ad z_tape z_taped z_rules z_sign z_length z_clause z_clauses z_read z_next z_wrong z_number z_text z_made z_deep z_lines z_open z_opened z_stack z_top z_word z_said z_force z_x z_absent z_isRaining z_wasSaid z_undone z_kept z_order z_bestOrder z_hasBy z_wealthThen z_isFit z_tillThen z_drawX z_images z_imageForce z_imageX z_isMade) (wM K ad z_tape z_taped z_rules q.2.1 q.2.2.1 z_clause z_clauses z_read q.2.2.2.1 q.2.2.2.2.1 q.2.2.2.2.2.1 z_text q.2.2.2.2.2.2.1 q.2.2.2.2.2.2.2.1 z_lines q.2.2.2.2.2.2.2.2.1 q.2.2.2.2.2.2.2.2.2 z_stack z_top z_word z_said z_force z_x z_absent z_isRaining z_wasSaid z_undone z_kept z_order z_bestOrder z_hasBy z_wealthThen z_isFit z_tillThen z_drawX z_images z_imageForce z_imageX z_isMade) (some (.int q.1)) := by
  refine rMet.of (by decide) rfl (Nat.le_of_ble_eq_true rfl) ?_
  refine r_sub (lv' := [(0, .ref (ad 0))]) [0] rfl ?_
  unfold m_fact at h
  refine r_iconst (x := (1 : Int32)) dX12_fact_0 (by decide) ?_
  refine r_istore_n (lv' := [(1, .int (1 : Int32)), (0, .ref (ad 0))]) dX12_fact_1 (by decide) rfl ?_
  refine r_sub (lv' := [(0, .ref (ad 0)), (1, .int (1 : Int32))]) [1, 0] rfl ?_
  exact cm_fact_l2  FU _ _ _ _ _ _ h
theorem dX12_isInside_0 : decode cX12_isInside 0 = .ok (.iconst 0, 1) := by decide +kernel
theorem dX12_isInside_1 : decode cX12_isInside 1 = .ok (.istore_n 1, 1) := by decide +kernel
theorem dX12_isInside_2 : decode cX12_isInside 2 = .ok (.iload_n 1, 1) := by decide +kernel
theorem dX12_isInside_3 : decode cX12_isInside 3 = .ok (.aload_n 0, 1) := by decide +kernel
theorem dX12_isInside_4 : decode cX12_isInside 4 = .ok (.getfield 161, 3) := by decide +kernel
theorem dX12_isInside_7 : decode cX12_isInside 7 = .ok (.if_icmp .ge 22, 3) := by decide +kernel
theorem dX12_isInside_10 : decode cX12_isInside 10 = .ok (.aload_n 0, 1) := by decide +kernel
theorem dX12_isInside_11 : decode cX12_isInside 11 = .ok (.getfield 29, 3) := by decide +kernel
theorem dX12_isInside_14 : decode cX12_isInside 14 = .ok (.iload_n 1, 1) := by decide +kernel
theorem dX12_isInside_15 : decode cX12_isInside 15 = .ok (.iaload, 1) := by decide +kernel
theorem dX12_isInside_16 : decode cX12_isInside 16 = .ok (.bipush 91, 2) := by decide +kernel
theorem dX12_isInside_18 : decode cX12_isInside 18 = .ok (.if_icmp .ne 5, 3) := by decide +kernel
theorem dX12_isInside_21 : decode cX12_isInside 21 = .ok (.iconst 1, 1) := by decide +kernel
theorem dX12_isInside_22 : decode cX12_isInside 22 = .ok (.ireturn, 1) := by decide +kernel
theorem dX12_isInside_23 : decode cX12_isInside 23 = .ok (.iinc 1 1, 3) := by decide +kernel
theorem dX12_isInside_26 : decode cX12_isInside 26 = .ok (.goto (-24), 3) := by decide +kernel
theorem dX12_isInside_29 : decode cX12_isInside 29 = .ok (.iconst 0, 1) := by decide +kernel
theorem dX12_isInside_30 : decode cX12_isInside 30 = .ok (.ireturn, 1) := by decide +kernel
abbrev Mm_isInside : rx_M := (RX12, yX12_isInside, cX12_isInside, 2, (some .boolean), 1)
theorem km_isInside : rKv Mm_isInside 0 := ⟨tb_in (i := 20) (j := 21) rfl rfl, tb_in (i := 20) (j := 22) rfl rfl, tb_in (i := 17) (j := 21) rfl rfl, tb_in (i := 20) (j := 16) rfl rfl, ⟨by decide, by decide, by decide +kernel⟩, by decide⟩
def m_isInside_l2 (z_open : Nat → Int32) (z_opened : Int32) : Nat → Int32 → Option (Int32)
  | 0, _ => none
  | n + 1, x1 => (if z_opened ≤ x1 then some ((0 : Int32)) else rq (inb x1 400) ((if (z_open x1.toNatClampNeg) = (91 : Int32) then some ((1 : Int32)) else m_isInside_l2 z_open z_opened n (x1 + (1 : Int32)))))
set_option maxRecDepth 20000 in
theorem cm_isInside_l2 {q : Int32}   : ∀ (n : Nat) (x1 : Int32), m_isInside_l2 z_open z_opened n x1 = some q → rW l D Z (ty7 K) Mm_isInside 2 [(0, .ref (ad 0)), (1, .int x1)] [] (wM K ad z_tape z_taped z_rules z_sign z_length z_clause z_clauses z_read z_next z_wrong z_number z_text z_made z_deep z_lines z_open z_opened z_stack z_top z_word z_said z_force z_x z_absent z_isRaining z_wasSaid z_undone z_kept z_order z_bestOrder z_hasBy z_wealthThen z_isFit z_tillThen z_drawX z_images z_imageForce z_imageX z_isMade) (wM K ad z_tape z_taped z_rules z_sign z_length z_clause z_clauses z_read z_next z_wrong z_number z_text z_made z_deep z_lines z_open z_opened z_stack z_top z_word z_said z_force z_x z_absent z_isRaining z_wasSaid z_undone z_kept z_order z_bestOrder z_hasBy z_wealthThen z_isFit z_tillThen z_drawX z_images z_imageForce z_imageX z_isMade) (some (.int q)) := by
  intro n
  induction n with
  | zero => intro x1 h; unfold m_isInside_l2 at h; cases h
  | succ n ih =>
    intro x1 h
    unfold m_isInside_l2 at h
    refine r_iload_n 1 dX12_isInside_2 rfl ?_
    refine r_aload_n 0 dX12_isInside_3 rfl ?_
    refine gM_opened rfl dX12_isInside_4 ?_
    refine r_icmp_ge 29 dX12_isInside_7 (by decide) (fun c1 => ?_) (fun c1 => ?_)
    · replace h := it_pos c1 h
      refine r_iconst (x := (0 : Int32)) dX12_isInside_29 (by decide) ?_
      have hq := Option.some.inj h
      subst hq
      exact r_zret (ty := .boolean) rfl rfl dX12_isInside_30
    · replace h := it_neg c1 h
      refine r_aload_n 0 dX12_isInside_10 rfl ?_
      refine gM_open rfl dX12_isInside_11 ?_
      refine r_iload_n 1 dX12_isInside_14 rfl ?_
      obtain ⟨h2, h⟩ := rq_some h
      refine lM_open (inb_in h2) dX12_isInside_15 ?_
      refine r_bipush (x := (91 : Int32)) dX12_isInside_16 (by decide) ?_
      refine r_icmp_ne 23 dX12_isInside_18 (by decide) (fun c3 => ?_) (fun c3 => ?_)
      · replace h := it_neg c3 h
        refine r_iinc (y := (x1 + (1 : Int32))) (lv' := [(1, .int (x1 + (1 : Int32))), (0, .ref (ad 0))]) 1 dX12_isInside_23 rfl rfl (by decide) rfl ?_
        refine r_goto 2 dX12_isInside_26 (by decide) ?_
        refine r_sub (lv' := [(0, .ref (ad 0)), (1, .int (x1 + (1 : Int32)))]) [1, 0] rfl ?_
        exact ih _ h
      · replace h := it_pos c3 h
        refine r_iconst (x := (1 : Int32)) dX12_isInside_21 (by decide) ?_
        have hq := Option.some.inj h
        subst hq
        exact r_zret (ty := .boolean) rfl rfl dX12_isInside_22
def m_isInside (z_open : Nat → Int32) (z_opened : Int32) : Option (Int32) := m_isInside_l2 z_open z_opened FU (0 : Int32)
set_option maxRecDepth 20000 in
theorem cm_isInside {q : Int32}  (h : m_isInside z_open z_opened = some q) : rMet l D Z (ty7 K) Mm_isInside [.ref (ad 0)] (wM K ad z_tape z_taped z_rules z_sign z_length z_clause z_clauses z_read z_next z_wrong z_number z_text z_made z_deep z_lines z_open z_opened z_stack z_top z_word z_said z_force z_x z_absent z_isRaining z_wasSaid z_undone z_kept z_order z_bestOrder z_hasBy z_wealthThen z_isFit z_tillThen z_drawX z_images z_imageForce z_imageX z_isMade) (wM K ad z_tape z_taped z_rules z_sign z_length z_clause z_clauses z_read z_next z_wrong z_number z_text z_made z_deep z_lines z_open z_opened z_stack z_top z_word z_said z_force z_x z_absent z_isRaining z_wasSaid z_undone z_kept z_order z_bestOrder z_hasBy z_wealthThen z_isFit z_tillThen z_drawX z_images z_imageForce z_imageX z_isMade) (some (.int q)) := by
  refine rMet.of (by decide) rfl (Nat.le_of_ble_eq_true rfl) ?_
  refine r_sub (lv' := [(0, .ref (ad 0))]) [0] rfl ?_
  unfold m_isInside at h
  refine r_iconst (x := (0 : Int32)) dX12_isInside_0 (by decide) ?_
  refine r_istore_n (lv' := [(1, .int (0 : Int32)), (0, .ref (ad 0))]) dX12_isInside_1 (by decide) rfl ?_
  refine r_sub (lv' := [(0, .ref (ad 0)), (1, .int (0 : Int32))]) [1, 0] rfl ?_
  exact cm_isInside_l2  FU _ h
theorem dX12_closes_0 : decode cX12_closes 0 = .ok (.aload_n 0, 1) := by decide +kernel
theorem dX12_closes_1 : decode cX12_closes 1 = .ok (.iconst 3, 1) := by decide +kernel
theorem dX12_closes_2 : decode cX12_closes 2 = .ok (.invokevirtual 200, 3) := by decide +kernel
theorem dX12_closes_5 : decode cX12_closes 5 = .ok (.aload_n 0, 1) := by decide +kernel
theorem dX12_closes_6 : decode cX12_closes 6 = .ok (.invokevirtual 99, 3) := by decide +kernel
theorem dX12_closes_9 : decode cX12_closes 9 = .ok (.bipush 93, 2) := by decide +kernel
theorem dX12_closes_11 : decode cX12_closes 11 = .ok (.if_icmp .ne 53, 3) := by decide +kernel
theorem dX12_closes_14 : decode cX12_closes 14 = .ok (.aload_n 0, 1) := by decide +kernel
theorem dX12_closes_15 : decode cX12_closes 15 = .ok (.invokevirtual 203, 3) := by decide +kernel
theorem dX12_closes_18 : decode cX12_closes 18 = .ok (.ifCond .eq 46, 3) := by decide +kernel
theorem dX12_closes_21 : decode cX12_closes 21 = .ok (.aload_n 0, 1) := by decide +kernel
theorem dX12_closes_22 : decode cX12_closes 22 = .ok (.iconst 1, 1) := by decide +kernel
theorem dX12_closes_23 : decode cX12_closes 23 = .ok (.invokevirtual 200, 3) := by decide +kernel
theorem dX12_closes_26 : decode cX12_closes 26 = .ok (.aload_n 0, 1) := by decide +kernel
theorem dX12_closes_27 : decode cX12_closes 27 = .ok (.dup, 1) := by decide +kernel
theorem dX12_closes_28 : decode cX12_closes 28 = .ok (.getfield 161, 3) := by decide +kernel
theorem dX12_closes_31 : decode cX12_closes 31 = .ok (.iconst 1, 1) := by decide +kernel
theorem dX12_closes_32 : decode cX12_closes 32 = .ok (.isub, 1) := by decide +kernel
theorem dX12_closes_33 : decode cX12_closes 33 = .ok (.putfield 161, 3) := by decide +kernel
theorem dX12_closes_36 : decode cX12_closes 36 = .ok (.aload_n 0, 1) := by decide +kernel
theorem dX12_closes_37 : decode cX12_closes 37 = .ok (.dup, 1) := by decide +kernel
theorem dX12_closes_38 : decode cX12_closes 38 = .ok (.getfield 158, 3) := by decide +kernel
theorem dX12_closes_41 : decode cX12_closes 41 = .ok (.iconst 1, 1) := by decide +kernel
theorem dX12_closes_42 : decode cX12_closes 42 = .ok (.isub, 1) := by decide +kernel
theorem dX12_closes_43 : decode cX12_closes 43 = .ok (.putfield 158, 3) := by decide +kernel
theorem dX12_closes_46 : decode cX12_closes 46 = .ok (.aload_n 0, 1) := by decide +kernel
theorem dX12_closes_47 : decode cX12_closes 47 = .ok (.dup, 1) := by decide +kernel
theorem dX12_closes_48 : decode cX12_closes 48 = .ok (.getfield 96, 3) := by decide +kernel
theorem dX12_closes_51 : decode cX12_closes 51 = .ok (.iconst 1, 1) := by decide +kernel
theorem dX12_closes_52 : decode cX12_closes 52 = .ok (.iadd, 1) := by decide +kernel
theorem dX12_closes_53 : decode cX12_closes 53 = .ok (.putfield 96, 3) := by decide +kernel
theorem dX12_closes_56 : decode cX12_closes 56 = .ok (.aload_n 0, 1) := by decide +kernel
theorem dX12_closes_57 : decode cX12_closes 57 = .ok (.iconst 3, 1) := by decide +kernel
theorem dX12_closes_58 : decode cX12_closes 58 = .ok (.invokevirtual 200, 3) := by decide +kernel
theorem dX12_closes_61 : decode cX12_closes 61 = .ok (.goto (-56), 3) := by decide +kernel
theorem dX12_closes_64 : decode cX12_closes 64 = .ok (.return_, 1) := by decide +kernel
abbrev Mm_closes : rx_M := (RX12, yX12_closes, cX12_closes, 1, none, 3)
theorem km_closes : rKv Mm_closes 0 := ⟨tb_in (i := 20) (j := 30) rfl rfl, tb_in (i := 20) (j := 31) rfl rfl, tb_in (i := 17) (j := 21) rfl rfl, tb_in (i := 20) (j := 23) rfl rfl, ⟨by decide, by decide, by decide +kernel⟩, by decide⟩
def m_closes_l5 (z_tape : Nat → Int32) (z_taped : Int32) (z_text : Int32) (z_open : Nat → Int32) : Nat → (Nat → Int32) → (Nat → Int32) → Int32 → Int32 → Int32 → Option ((Nat → Int32) × (Nat → Int32) × Int32 × Int32 × Int32)
  | 0, _, _, _, _, _ => none
  | n + 1, z_sign, z_length, z_next, z_deep, z_opened => (m_see z_tape z_taped z_next).bind (fun q2 => (if q2.1 = (93 : Int32) then (m_isInside z_open z_opened).bind (fun q4 => (if q4 = 0 then some (z_sign, z_length, q2.2, z_deep, z_opened) else (m_layDown (1 : Int32) z_sign z_length z_text z_deep z_open z_opened).bind (fun q6 => lt (q6.2.2.2 - (1 : Int32)) (fun y7 => lt (q6.2.2.1 - (1 : Int32)) (fun y8 => lt (q2.2 + (1 : Int32)) (fun y9 => (m_layDown (3 : Int32) q6.1 q6.2.1 z_text y8 z_open y7).bind (fun q10 => m_closes_l5 z_tape z_taped z_text z_open n q10.1 q10.2.1 y9 q10.2.2.1 q10.2.2.2))))))) else some (z_sign, z_length, q2.2, z_deep, z_opened)))
set_option maxRecDepth 20000 in
theorem cm_closes_l5 {q : (Nat → Int32) × (Nat → Int32) × Int32 × Int32 × Int32}   : ∀ (n : Nat) (z_sign : Nat → Int32) (z_length : Nat → Int32) (z_next : Int32) (z_deep : Int32) (z_opened : Int32), m_closes_l5 z_tape z_taped z_text z_open n z_sign z_length z_next z_deep z_opened = some q → rW l D Z (ty7 K) Mm_closes 5 [(0, .ref (ad 0))] [] (wM K ad z_tape z_taped z_rules z_sign z_length z_clause z_clauses z_read z_next z_wrong z_number z_text z_made z_deep z_lines z_open z_opened z_stack z_top z_word z_said z_force z_x z_absent z_isRaining z_wasSaid z_undone z_kept z_order z_bestOrder z_hasBy z_wealthThen z_isFit z_tillThen z_drawX z_images z_imageForce z_imageX z_isMade) (wM K ad z_tape z_taped z_rules q.1 q.2.1 z_clause z_clauses z_read q.2.2.1 z_wrong z_number z_text z_made q.2.2.2.1 z_lines z_open q.2.2.2.2 z_stack z_top z_word z_said z_force z_x z_absent z_isRaining z_wasSaid z_undone z_kept z_order z_bestOrder z_hasBy z_wealthThen z_isFit z_tillThen z_drawX z_images z_imageForce z_imageX z_isMade) none := by
  intro n
  induction n with
  | zero => intro z_sign z_length z_next z_deep z_opened h; unfold m_closes_l5 at h; cases h
  | succ n ih =>
    intro z_sign z_length z_next z_deep z_opened h
    unfold m_closes_l5 at h
    refine r_aload_n 0 dX12_closes_5 rfl ?_
    obtain ⟨q2, h2, h⟩ := bd_some h
    refine cvM (st := []) (cm_see h2) rfl rfl (Nat.le_of_ble_eq_true rfl) km_see (tb_in (i := 17) (j := 30) rfl rfl) (by decide) rfl dX12_closes_6 ?_
    refine r_bipush (x := (93 : Int32)) dX12_closes_9 (by decide) ?_
    refine r_icmp_ne 64 dX12_closes_11 (by decide) (fun c3 => ?_) (fun c3 => ?_)
    · replace h := it_neg c3 h
      have hq := Option.some.inj h
      subst hq
      exact r_vret rfl dX12_closes_64
    · replace h := it_pos c3 h
      refine r_aload_n 0 dX12_closes_14 rfl ?_
      obtain ⟨q4, h4, h⟩ := bd_some h
      refine cvM (st := []) (cm_isInside h4) rfl rfl (Nat.le_of_ble_eq_true rfl) km_isInside (tb_in (i := 20) (j := 20) rfl rfl) (by decide) rfl dX12_closes_15 ?_
      refine r_if_eq 64 dX12_closes_18 (by decide) (fun c5 => ?_) (fun c5 => ?_)
      · replace h := it_pos c5 h
        have hq := Option.some.inj h
        subst hq
        exact r_vret rfl dX12_closes_64
      · replace h := it_neg c5 h
        refine r_aload_n 0 dX12_closes_21 rfl ?_
        refine r_iconst (x := (1 : Int32)) dX12_closes_22 (by decide) ?_
        obtain ⟨q6, h6, h⟩ := bd_some h
        refine cvM (st := []) (cm_layDown h6) rfl rfl (Nat.le_of_ble_eq_true rfl) km_layDown (tb_in (i := 20) (j := 17) rfl rfl) (by decide) rfl dX12_closes_23 ?_
        refine r_aload_n 0 dX12_closes_26 rfl ?_
        refine r_dup dX12_closes_27 rfl ?_
        refine gM_opened rfl dX12_closes_28 ?_
        refine r_iconst (x := (1 : Int32)) dX12_closes_31 (by decide) ?_
        refine r_isub dX12_closes_32 ?_
        obtain ⟨y7, e7, h⟩ := lt_some h
        refine r_top e7 ?_
        refine pM_opened rfl dX12_closes_33 ?_
        refine r_aload_n 0 dX12_closes_36 rfl ?_
        refine r_dup dX12_closes_37 rfl ?_
        refine gM_deep rfl dX12_closes_38 ?_
        refine r_iconst (x := (1 : Int32)) dX12_closes_41 (by decide) ?_
        refine r_isub dX12_closes_42 ?_
        obtain ⟨y8, e8, h⟩ := lt_some h
        refine r_top e8 ?_
        refine pM_deep rfl dX12_closes_43 ?_
        refine r_aload_n 0 dX12_closes_46 rfl ?_
        refine r_dup dX12_closes_47 rfl ?_
        refine gM_next rfl dX12_closes_48 ?_
        refine r_iconst (x := (1 : Int32)) dX12_closes_51 (by decide) ?_
        refine r_iadd dX12_closes_52 ?_
        obtain ⟨y9, e9, h⟩ := lt_some h
        refine r_top e9 ?_
        refine pM_next rfl dX12_closes_53 ?_
        refine r_aload_n 0 dX12_closes_56 rfl ?_
        refine r_iconst (x := (3 : Int32)) dX12_closes_57 (by decide) ?_
        obtain ⟨q10, h10, h⟩ := bd_some h
        refine cvM (st := []) (cm_layDown h10) rfl rfl (Nat.le_of_ble_eq_true rfl) km_layDown (tb_in (i := 20) (j := 17) rfl rfl) (by decide) rfl dX12_closes_58 ?_
        refine r_goto 5 dX12_closes_61 (by decide) ?_
        exact ih _ _ _ _ _ h
def m_closes (z_tape : Nat → Int32) (z_taped : Int32) (z_sign : Nat → Int32) (z_length : Nat → Int32) (z_next : Int32) (z_text : Int32) (z_deep : Int32) (z_open : Nat → Int32) (z_opened : Int32) : Option ((Nat → Int32) × (Nat → Int32) × Int32 × Int32 × Int32) := (m_layDown (3 : Int32) z_sign z_length z_text z_deep z_open z_opened).bind (fun q1 => m_closes_l5 z_tape z_taped z_text z_open FU q1.1 q1.2.1 z_next q1.2.2.1 q1.2.2.2)
set_option maxRecDepth 20000 in
theorem cm_closes {q : (Nat → Int32) × (Nat → Int32) × Int32 × Int32 × Int32}  (h : m_closes z_tape z_taped z_sign z_length z_next z_text z_deep z_open z_opened = some q) : rMet l D Z (ty7 K) Mm_closes [.ref (ad 0)] (wM K ad z_tape z_taped z_rules z_sign z_length z_clause z_clauses z_read z_next z_wrong z_number z_text z_made z_deep z_lines z_open z_opened z_stack z_top z_word z_said z_force z_x z_absent z_isRaining z_wasSaid z_undone z_kept z_order z_bestOrder z_hasBy z_wealthThen z_isFit z_tillThen z_drawX z_images z_imageForce z_imageX z_isMade) (wM K ad z_tape z_taped z_rules q.1 q.2.1 z_clause z_clauses z_read q.2.2.1 z_wrong z_number z_text z_made q.2.2.2.1 z_lines z_open q.2.2.2.2 z_stack z_top z_word z_said z_force z_x z_absent z_isRaining z_wasSaid z_undone z_kept z_order z_bestOrder z_hasBy z_wealthThen z_isFit z_tillThen z_drawX z_images z_imageForce z_imageX z_isMade) none := by
  refine rMet.of (by decide) rfl (Nat.le_of_ble_eq_true rfl) ?_
  refine r_sub (lv' := [(0, .ref (ad 0))]) [0] rfl ?_
  unfold m_closes at h
  refine r_aload_n 0 dX12_closes_0 rfl ?_
  refine r_iconst (x := (3 : Int32)) dX12_closes_1 (by decide) ?_
  obtain ⟨q1, h1, h⟩ := bd_some h
  refine cvM (st := []) (cm_layDown h1) rfl rfl (Nat.le_of_ble_eq_true rfl) km_layDown (tb_in (i := 20) (j := 17) rfl rfl) (by decide) rfl dX12_closes_2 ?_
  exact cm_closes_l5  FU _ _ _ _ _ h
theorem dX12_tested_0 : decode cX12_tested 0 = .ok (.aload_n 0, 1) := by decide +kernel
theorem dX12_tested_1 : decode cX12_tested 1 = .ok (.iconst 0, 1) := by decide +kernel
theorem dX12_tested_2 : decode cX12_tested 2 = .ok (.putfield 161, 3) := by decide +kernel
theorem dX12_tested_5 : decode cX12_tested 5 = .ok (.aload_n 0, 1) := by decide +kernel
theorem dX12_tested_6 : decode cX12_tested 6 = .ok (.iconst 0, 1) := by decide +kernel
theorem dX12_tested_7 : decode cX12_tested 7 = .ok (.putfield 158, 3) := by decide +kernel
theorem dX12_tested_10 : decode cX12_tested 10 = .ok (.iconst 1, 1) := by decide +kernel
theorem dX12_tested_11 : decode cX12_tested 11 = .ok (.istore_n 1, 1) := by decide +kernel
theorem dX12_tested_12 : decode cX12_tested 12 = .ok (.iload_n 1, 1) := by decide +kernel
theorem dX12_tested_13 : decode cX12_tested 13 = .ok (.ifCond .eq 99, 3) := by decide +kernel
theorem dX12_tested_16 : decode cX12_tested 16 = .ok (.aload_n 0, 1) := by decide +kernel
theorem dX12_tested_17 : decode cX12_tested 17 = .ok (.invokevirtual 206, 3) := by decide +kernel
theorem dX12_tested_20 : decode cX12_tested 20 = .ok (.ifCond .ne 5, 3) := by decide +kernel
theorem dX12_tested_23 : decode cX12_tested 23 = .ok (.iconst 0, 1) := by decide +kernel
theorem dX12_tested_24 : decode cX12_tested 24 = .ok (.ireturn, 1) := by decide +kernel
theorem dX12_tested_25 : decode cX12_tested 25 = .ok (.aload_n 0, 1) := by decide +kernel
theorem dX12_tested_26 : decode cX12_tested 26 = .ok (.invokevirtual 209, 3) := by decide +kernel
theorem dX12_tested_29 : decode cX12_tested 29 = .ok (.aload_n 0, 1) := by decide +kernel
theorem dX12_tested_30 : decode cX12_tested 30 = .ok (.ldc2_w 212, 3) := by decide +kernel
theorem dX12_tested_33 : decode cX12_tested 33 = .ok (.invokevirtual 107, 3) := by decide +kernel
theorem dX12_tested_36 : decode cX12_tested 36 = .ok (.ifCond .ne 13, 3) := by decide +kernel
theorem dX12_tested_39 : decode cX12_tested 39 = .ok (.aload_n 0, 1) := by decide +kernel
theorem dX12_tested_40 : decode cX12_tested 40 = .ok (.ldc2_w 214, 3) := by decide +kernel
theorem dX12_tested_43 : decode cX12_tested 43 = .ok (.invokevirtual 107, 3) := by decide +kernel
theorem dX12_tested_46 : decode cX12_tested 46 = .ok (.ifCond .eq 7, 3) := by decide +kernel
theorem dX12_tested_49 : decode cX12_tested 49 = .ok (.iconst 1, 1) := by decide +kernel
theorem dX12_tested_50 : decode cX12_tested 50 = .ok (.goto 4, 3) := by decide +kernel
theorem dX12_tested_53 : decode cX12_tested 53 = .ok (.iconst 0, 1) := by decide +kernel
theorem dX12_tested_54 : decode cX12_tested 54 = .ok (.istore_n 1, 1) := by decide +kernel
theorem dX12_tested_55 : decode cX12_tested 55 = .ok (.iload_n 1, 1) := by decide +kernel
theorem dX12_tested_56 : decode cX12_tested 56 = .ok (.ifCond .eq (-44), 3) := by decide +kernel
theorem dX12_tested_59 : decode cX12_tested 59 = .ok (.aload_n 0, 1) := by decide +kernel
theorem dX12_tested_60 : decode cX12_tested 60 = .ok (.ldc2_w 212, 3) := by decide +kernel
theorem dX12_tested_63 : decode cX12_tested 63 = .ok (.invokevirtual 107, 3) := by decide +kernel
theorem dX12_tested_66 : decode cX12_tested 66 = .ok (.ifCond .eq 8, 3) := by decide +kernel
theorem dX12_tested_69 : decode cX12_tested 69 = .ok (.bipush 12, 2) := by decide +kernel
theorem dX12_tested_71 : decode cX12_tested 71 = .ok (.goto 5, 3) := by decide +kernel
theorem dX12_tested_74 : decode cX12_tested 74 = .ok (.bipush 13, 2) := by decide +kernel
theorem dX12_tested_76 : decode cX12_tested 76 = .ok (.istore_n 2, 1) := by decide +kernel
theorem dX12_tested_77 : decode cX12_tested 77 = .ok (.aload_n 0, 1) := by decide +kernel
theorem dX12_tested_78 : decode cX12_tested 78 = .ok (.invokevirtual 111, 3) := by decide +kernel
theorem dX12_tested_81 : decode cX12_tested 81 = .ok (.aload_n 0, 1) := by decide +kernel
theorem dX12_tested_82 : decode cX12_tested 82 = .ok (.iload_n 2, 1) := by decide +kernel
theorem dX12_tested_83 : decode cX12_tested 83 = .ok (.invokestatic 164, 3) := by decide +kernel
theorem dX12_tested_86 : decode cX12_tested 86 = .ok (.invokevirtual 200, 3) := by decide +kernel
theorem dX12_tested_89 : decode cX12_tested 89 = .ok (.aload_n 0, 1) := by decide +kernel
theorem dX12_tested_90 : decode cX12_tested 90 = .ok (.getfield 29, 3) := by decide +kernel
theorem dX12_tested_93 : decode cX12_tested 93 = .ok (.aload_n 0, 1) := by decide +kernel
theorem dX12_tested_94 : decode cX12_tested 94 = .ok (.getfield 161, 3) := by decide +kernel
theorem dX12_tested_97 : decode cX12_tested 97 = .ok (.iload_n 2, 1) := by decide +kernel
theorem dX12_tested_98 : decode cX12_tested 98 = .ok (.iastore, 1) := by decide +kernel
theorem dX12_tested_99 : decode cX12_tested 99 = .ok (.aload_n 0, 1) := by decide +kernel
theorem dX12_tested_100 : decode cX12_tested 100 = .ok (.dup, 1) := by decide +kernel
theorem dX12_tested_101 : decode cX12_tested 101 = .ok (.getfield 161, 3) := by decide +kernel
theorem dX12_tested_104 : decode cX12_tested 104 = .ok (.iconst 1, 1) := by decide +kernel
theorem dX12_tested_105 : decode cX12_tested 105 = .ok (.iadd, 1) := by decide +kernel
theorem dX12_tested_106 : decode cX12_tested 106 = .ok (.putfield 161, 3) := by decide +kernel
theorem dX12_tested_109 : decode cX12_tested 109 = .ok (.goto (-97), 3) := by decide +kernel
theorem dX12_tested_112 : decode cX12_tested 112 = .ok (.aload_n 0, 1) := by decide +kernel
theorem dX12_tested_113 : decode cX12_tested 113 = .ok (.invokevirtual 203, 3) := by decide +kernel
theorem dX12_tested_116 : decode cX12_tested 116 = .ok (.ifCond .eq 18, 3) := by decide +kernel
theorem dX12_tested_119 : decode cX12_tested 119 = .ok (.aload_n 0, 1) := by decide +kernel
theorem dX12_tested_120 : decode cX12_tested 120 = .ok (.invokevirtual 99, 3) := by decide +kernel
theorem dX12_tested_123 : decode cX12_tested 123 = .ok (.pop, 1) := by decide +kernel
theorem dX12_tested_124 : decode cX12_tested 124 = .ok (.aload_n 0, 1) := by decide +kernel
theorem dX12_tested_125 : decode cX12_tested 125 = .ok (.iconst 0, 1) := by decide +kernel
theorem dX12_tested_126 : decode cX12_tested 126 = .ok (.aload_n 0, 1) := by decide +kernel
theorem dX12_tested_127 : decode cX12_tested 127 = .ok (.getfield 96, 3) := by decide +kernel
theorem dX12_tested_130 : decode cX12_tested 130 = .ok (.invokevirtual 117, 3) := by decide +kernel
theorem dX12_tested_133 : decode cX12_tested 133 = .ok (.ireturn, 1) := by decide +kernel
theorem dX12_tested_134 : decode cX12_tested 134 = .ok (.aload_n 0, 1) := by decide +kernel
theorem dX12_tested_135 : decode cX12_tested 135 = .ok (.iconst 1, 1) := by decide +kernel
theorem dX12_tested_136 : decode cX12_tested 136 = .ok (.invokevirtual 200, 3) := by decide +kernel
theorem dX12_tested_139 : decode cX12_tested 139 = .ok (.iconst 1, 1) := by decide +kernel
theorem dX12_tested_140 : decode cX12_tested 140 = .ok (.ireturn, 1) := by decide +kernel
abbrev Mm_tested : rx_M := (RX12, yX12_tested, cX12_tested, 3, (some .boolean), 9)
theorem km_tested : rKv Mm_tested 0 := ⟨tb_in (i := 21) (j := 6) rfl rfl, tb_in (i := 21) (j := 7) rfl rfl, tb_in (i := 17) (j := 21) rfl rfl, tb_in (i := 21) (j := 0) rfl rfl, ⟨by decide, by decide, by decide +kernel⟩, by decide⟩
def m_tested_j54 (k12 : Int32 → (Nat → Int32) → (Nat → Int32) → Int32 → Int32 → Int32 → Int32 → Int32 → (Nat → Int32) → Int32 → Option (Int32 × (Nat → Int32) × (Nat → Int32) × Int32 × Int32 × Int32 × Int32 × Int32 × (Nat → Int32) × Int32)) (z_tape : Nat → Int32) (z_taped : Int32) (z_sign : Nat → Int32) (z_length : Nat → Int32) (z_next : Int32) (z_wrong : Int32) (z_number : Int32) (z_text : Int32) (z_made : Int32) (z_deep : Int32) (z_open : Nat → Int32) (z_opened : Int32) (s0 : Int32) : Option (Int32 × (Nat → Int32) × (Nat → Int32) × Int32 × Int32 × Int32 × Int32 × Int32 × (Nat → Int32) × Int32) := (if s0 = 0 then k12 s0 z_sign z_length z_next z_wrong z_number z_made z_deep z_open z_opened else (m_isWord (6385252 : Int64) z_tape z_taped z_next).bind (fun q14 => (if q14.1 = 0 then (m_passWord z_tape z_taped q14.2).bind (fun q16 => (m_strength (13 : Int32)).bind (fun q17 => (m_layDown q17 z_sign z_length z_text z_deep z_open z_opened).bind (fun q18 => rq (inb q18.2.2.2 400) (lt (upd z_open q18.2.2.2.toNatClampNeg (13 : Int32)) (fun u19 => lt (q18.2.2.2 + (1 : Int32)) (fun y20 => k12 s0 q18.1 q18.2.1 q16 z_wrong z_number z_made q18.2.2.1 u19 y20)))))) else (m_passWord z_tape z_taped q14.2).bind (fun q21 => (m_strength (12 : Int32)).bind (fun q22 => (m_layDown q22 z_sign z_length z_text z_deep z_open z_opened).bind (fun q23 => rq (inb q23.2.2.2 400) (lt (upd z_open q23.2.2.2.toNatClampNeg (12 : Int32)) (fun u24 => lt (q23.2.2.2 + (1 : Int32)) (fun y25 => k12 s0 q23.1 q23.2.1 q21 z_wrong z_number z_made q23.2.2.1 u24 y25)))))))))
set_option maxRecDepth 20000 in
theorem cm_tested_j54 {q : Int32 × (Nat → Int32) × (Nat → Int32) × Int32 × Int32 × Int32 × Int32 × Int32 × (Nat → Int32) × Int32} {s0 : Int32} {k12 : Int32 → (Nat → Int32) → (Nat → Int32) → Int32 → Int32 → Int32 → Int32 → Int32 → (Nat → Int32) → Int32 → Option (Int32 × (Nat → Int32) × (Nat → Int32) × Int32 × Int32 × Int32 × Int32 × Int32 × (Nat → Int32) × Int32)} (hk12 : ∀ (x1 : Int32) (z_sign : Nat → Int32) (z_length : Nat → Int32) (z_next : Int32) (z_wrong : Int32) (z_number : Int32) (z_made : Int32) (z_deep : Int32) (z_open : Nat → Int32) (z_opened : Int32), k12 x1 z_sign z_length z_next z_wrong z_number z_made z_deep z_open z_opened = some q → rW l D Z (ty7 K) Mm_tested 12 [(0, .ref (ad 0)), (1, .int x1)] [] (wM K ad z_tape z_taped z_rules z_sign z_length z_clause z_clauses z_read z_next z_wrong z_number z_text z_made z_deep z_lines z_open z_opened z_stack z_top z_word z_said z_force z_x z_absent z_isRaining z_wasSaid z_undone z_kept z_order z_bestOrder z_hasBy z_wealthThen z_isFit z_tillThen z_drawX z_images z_imageForce z_imageX z_isMade) (wM K ad z_tape z_taped z_rules q.2.1 q.2.2.1 z_clause z_clauses z_read q.2.2.2.1 q.2.2.2.2.1 q.2.2.2.2.2.1 z_text q.2.2.2.2.2.2.1 q.2.2.2.2.2.2.2.1 z_lines q.2.2.2.2.2.2.2.2.1 q.2.2.2.2.2.2.2.2.2 z_stack z_top z_word z_said z_force z_x z_absent z_isRaining z_wasSaid z_undone z_kept z_order z_bestOrder z_hasBy z_wealthThen z_isFit z_tillThen z_drawX z_images z_imageForce z_imageX z_isMade) (some (.int q.1))) (h : m_tested_j54 k12 z_tape z_taped z_sign z_length z_next z_wrong z_number z_text z_made z_deep z_open z_opened s0 = some q) : rW l D Z (ty7 K) Mm_tested 54 [(0, .ref (ad 0))] [.int s0] (wM K ad z_tape z_taped z_rules z_sign z_length z_clause z_clauses z_read z_next z_wrong z_number z_text z_made z_deep z_lines z_open z_opened z_stack z_top z_word z_said z_force z_x z_absent z_isRaining z_wasSaid z_undone z_kept z_order z_bestOrder z_hasBy z_wealthThen z_isFit z_tillThen z_drawX z_images z_imageForce z_imageX z_isMade) (wM K ad z_tape z_taped z_rules q.2.1 q.2.2.1 z_clause z_clauses z_read q.2.2.2.1 q.2.2.2.2.1 q.2.2.2.2.2.1 z_text q.2.2.2.2.2.2.1 q.2.2.2.2.2.2.2.1 z_lines q.2.2.2.2.2.2.2.2.1 q.2.2.2.2.2.2.2.2.2 z_stack z_top z_word z_said z_force z_x z_absent z_isRaining z_wasSaid z_undone z_kept z_order z_bestOrder z_hasBy z_wealthThen z_isFit z_tillThen z_drawX z_images z_imageForce z_imageX z_isMade) (some (.int q.1)) := by
  unfold m_tested_j54 at h
  refine r_istore_n (lv' := [(1, .int s0), (0, .ref (ad 0))]) dX12_tested_54 (by decide) rfl ?_
  refine r_iload_n 0 dX12_tested_55 rfl ?_
  refine r_if_eq 12 dX12_tested_56 (by decide) (fun c13 => ?_) (fun c13 => ?_)
  · replace h := it_pos c13 h
    refine r_sub (lv' := [(0, .ref (ad 0)), (1, .int s0)]) [1, 0] rfl ?_
    exact hk12 _ _ _ _ _ _ _ _ _ _ h
  · replace h := it_neg c13 h
    refine r_aload_n 1 dX12_tested_59 rfl ?_
    refine r_ldc2 (x := (6385252 : Int64)) (tb_in (i := 20) (j := 24) rfl rfl) dX12_tested_60 ?_
    obtain ⟨q14, h14, h⟩ := bd_some h
    refine cvM (st := []) (cm_isWord h14) rfl rfl (Nat.le_of_ble_eq_true rfl) km_isWord (tb_in (i := 18) (j := 6) rfl rfl) (by decide) rfl dX12_tested_63 ?_
    refine r_if_eq 74 dX12_tested_66 (by decide) (fun c15 => ?_) (fun c15 => ?_)
    · replace h := it_pos c15 h
      refine r_bipush (x := (13 : Int32)) dX12_tested_74 (by decide) ?_
      refine r_istore_n (lv' := [(2, .int (13 : Int32)), (1, .int s0), (0, .ref (ad 0))]) dX12_tested_76 (by decide) rfl ?_
      refine r_aload_n 2 dX12_tested_77 rfl ?_
      obtain ⟨q16, h16, h⟩ := bd_some h
      refine cvM (st := []) (cm_passWord h16) rfl rfl (Nat.le_of_ble_eq_true rfl) km_passWord (tb_in (i := 18) (j := 9) rfl rfl) (by decide) rfl dX12_tested_78 ?_
      refine r_aload_n 2 dX12_tested_81 rfl ?_
      refine r_iload_n 0 dX12_tested_82 rfl ?_
      obtain ⟨q17, h17, h⟩ := bd_some h
      refine r_callS (st := [.ref (ad 0)]) (cm_strength h17) rfl rfl (Nat.le_of_ble_eq_true rfl) km_strength (tb_in (i := 19) (j := 12) rfl rfl) (by decide) dX12_tested_83 ?_
      obtain ⟨q18, h18, h⟩ := bd_some h
      refine cvM (st := []) (cm_layDown h18) rfl rfl (Nat.le_of_ble_eq_true rfl) km_layDown (tb_in (i := 20) (j := 17) rfl rfl) (by decide) rfl dX12_tested_86 ?_
      refine r_aload_n 2 dX12_tested_89 rfl ?_
      refine gM_open rfl dX12_tested_90 ?_
      refine r_aload_n 2 dX12_tested_93 rfl ?_
      refine gM_opened rfl dX12_tested_94 ?_
      refine r_iload_n 0 dX12_tested_97 rfl ?_
      obtain ⟨h19, h⟩ := rq_some h
      obtain ⟨u19, e19, h⟩ := lt_some h
      refine sM_open e19 (inb_in h19) dX12_tested_98 ?_
      refine r_aload_n 2 dX12_tested_99 rfl ?_
      refine r_dup dX12_tested_100 rfl ?_
      refine gM_opened rfl dX12_tested_101 ?_
      refine r_iconst (x := (1 : Int32)) dX12_tested_104 (by decide) ?_
      refine r_iadd dX12_tested_105 ?_
      obtain ⟨y20, e20, h⟩ := lt_some h
      refine r_top e20 ?_
      refine pM_opened rfl dX12_tested_106 ?_
      refine r_goto 12 dX12_tested_109 (by decide) ?_
      refine r_sub (lv' := [(0, .ref (ad 0)), (1, .int s0)]) [2, 1] rfl ?_
      exact hk12 _ _ _ _ _ _ _ _ _ _ h
    · replace h := it_neg c15 h
      refine r_bipush (x := (12 : Int32)) dX12_tested_69 (by decide) ?_
      refine r_goto 76 dX12_tested_71 (by decide) ?_
      refine r_istore_n (lv' := [(2, .int (12 : Int32)), (1, .int s0), (0, .ref (ad 0))]) dX12_tested_76 (by decide) rfl ?_
      refine r_aload_n 2 dX12_tested_77 rfl ?_
      obtain ⟨q21, h21, h⟩ := bd_some h
      refine cvM (st := []) (cm_passWord h21) rfl rfl (Nat.le_of_ble_eq_true rfl) km_passWord (tb_in (i := 18) (j := 9) rfl rfl) (by decide) rfl dX12_tested_78 ?_
      refine r_aload_n 2 dX12_tested_81 rfl ?_
      refine r_iload_n 0 dX12_tested_82 rfl ?_
      obtain ⟨q22, h22, h⟩ := bd_some h
      refine r_callS (st := [.ref (ad 0)]) (cm_strength h22) rfl rfl (Nat.le_of_ble_eq_true rfl) km_strength (tb_in (i := 19) (j := 12) rfl rfl) (by decide) dX12_tested_83 ?_
      obtain ⟨q23, h23, h⟩ := bd_some h
      refine cvM (st := []) (cm_layDown h23) rfl rfl (Nat.le_of_ble_eq_true rfl) km_layDown (tb_in (i := 20) (j := 17) rfl rfl) (by decide) rfl dX12_tested_86 ?_
      refine r_aload_n 2 dX12_tested_89 rfl ?_
      refine gM_open rfl dX12_tested_90 ?_
      refine r_aload_n 2 dX12_tested_93 rfl ?_
      refine gM_opened rfl dX12_tested_94 ?_
      refine r_iload_n 0 dX12_tested_97 rfl ?_
      obtain ⟨h24, h⟩ := rq_some h
      obtain ⟨u24, e24, h⟩ := lt_some h
      refine sM_open e24 (inb_in h24) dX12_tested_98 ?_
      refine r_aload_n 2 dX12_tested_99 rfl ?_
      refine r_dup dX12_tested_100 rfl ?_
      refine gM_opened rfl dX12_tested_101 ?_
      refine r_iconst (x := (1 : Int32)) dX12_tested_104 (by decide) ?_
      refine r_iadd dX12_tested_105 ?_
      obtain ⟨y25, e25, h⟩ := lt_some h
      refine r_top e25 ?_
      refine pM_opened rfl dX12_tested_106 ?_
      refine r_goto 12 dX12_tested_109 (by decide) ?_
      refine r_sub (lv' := [(0, .ref (ad 0)), (1, .int s0)]) [2, 1] rfl ?_
      exact hk12 _ _ _ _ _ _ _ _ _ _ h
def m_tested_j49 (k12 : Int32 → (Nat → Int32) → (Nat → Int32) → Int32 → Int32 → Int32 → Int32 → Int32 → (Nat → Int32) → Int32 → Option (Int32 × (Nat → Int32) × (Nat → Int32) × Int32 × Int32 × Int32 × Int32 × Int32 × (Nat → Int32) × Int32)) (z_tape : Nat → Int32) (z_taped : Int32) (z_sign : Nat → Int32) (z_length : Nat → Int32) (z_next : Int32) (z_wrong : Int32) (z_number : Int32) (z_text : Int32) (z_made : Int32) (z_deep : Int32) (z_open : Nat → Int32) (z_opened : Int32) : Option (Int32 × (Nat → Int32) × (Nat → Int32) × Int32 × Int32 × Int32 × Int32 × Int32 × (Nat → Int32) × Int32) := m_tested_j54 k12 z_tape z_taped z_sign z_length z_next z_wrong z_number z_text z_made z_deep z_open z_opened (1 : Int32)
set_option maxRecDepth 20000 in
theorem cm_tested_j49 {q : Int32 × (Nat → Int32) × (Nat → Int32) × Int32 × Int32 × Int32 × Int32 × Int32 × (Nat → Int32) × Int32}  {k12 : Int32 → (Nat → Int32) → (Nat → Int32) → Int32 → Int32 → Int32 → Int32 → Int32 → (Nat → Int32) → Int32 → Option (Int32 × (Nat → Int32) × (Nat → Int32) × Int32 × Int32 × Int32 × Int32 × Int32 × (Nat → Int32) × Int32)} (hk12 : ∀ (x1 : Int32) (z_sign : Nat → Int32) (z_length : Nat → Int32) (z_next : Int32) (z_wrong : Int32) (z_number : Int32) (z_made : Int32) (z_deep : Int32) (z_open : Nat → Int32) (z_opened : Int32), k12 x1 z_sign z_length z_next z_wrong z_number z_made z_deep z_open z_opened = some q → rW l D Z (ty7 K) Mm_tested 12 [(0, .ref (ad 0)), (1, .int x1)] [] (wM K ad z_tape z_taped z_rules z_sign z_length z_clause z_clauses z_read z_next z_wrong z_number z_text z_made z_deep z_lines z_open z_opened z_stack z_top z_word z_said z_force z_x z_absent z_isRaining z_wasSaid z_undone z_kept z_order z_bestOrder z_hasBy z_wealthThen z_isFit z_tillThen z_drawX z_images z_imageForce z_imageX z_isMade) (wM K ad z_tape z_taped z_rules q.2.1 q.2.2.1 z_clause z_clauses z_read q.2.2.2.1 q.2.2.2.2.1 q.2.2.2.2.2.1 z_text q.2.2.2.2.2.2.1 q.2.2.2.2.2.2.2.1 z_lines q.2.2.2.2.2.2.2.2.1 q.2.2.2.2.2.2.2.2.2 z_stack z_top z_word z_said z_force z_x z_absent z_isRaining z_wasSaid z_undone z_kept z_order z_bestOrder z_hasBy z_wealthThen z_isFit z_tillThen z_drawX z_images z_imageForce z_imageX z_isMade) (some (.int q.1))) (h : m_tested_j49 k12 z_tape z_taped z_sign z_length z_next z_wrong z_number z_text z_made z_deep z_open z_opened = some q) : rW l D Z (ty7 K) Mm_tested 49 [(0, .ref (ad 0))] [] (wM K ad z_tape z_taped z_rules z_sign z_length z_clause z_clauses z_read z_next z_wrong z_number z_text z_made z_deep z_lines z_open z_opened z_stack z_top z_word z_said z_force z_x z_absent z_isRaining z_wasSaid z_undone z_kept z_order z_bestOrder z_hasBy z_wealthThen z_isFit z_tillThen z_drawX z_images z_imageForce z_imageX z_isMade) (wM K ad z_tape z_taped z_rules q.2.1 q.2.2.1 z_clause z_clauses z_read q.2.2.2.1 q.2.2.2.2.1 q.2.2.2.2.2.1 z_text q.2.2.2.2.2.2.1 q.2.2.2.2.2.2.2.1 z_lines q.2.2.2.2.2.2.2.2.1 q.2.2.2.2.2.2.2.2.2 z_stack z_top z_word z_said z_force z_x z_absent z_isRaining z_wasSaid z_undone z_kept z_order z_bestOrder z_hasBy z_wealthThen z_isFit z_tillThen z_drawX z_images z_imageForce z_imageX z_isMade) (some (.int q.1)) := by
  unfold m_tested_j49 at h
  refine r_iconst (x := (1 : Int32)) dX12_tested_49 (by decide) ?_
  refine r_goto 54 dX12_tested_50 (by decide) ?_
  exact cm_tested_j54 (hk12) h
def m_tested_l12 (z_tape : Nat → Int32) (z_taped : Int32) (z_text : Int32) : Nat → Int32 → (Nat → Int32) → (Nat → Int32) → Int32 → Int32 → Int32 → Int32 → Int32 → (Nat → Int32) → Int32 → Option (Int32 × (Nat → Int32) × (Nat → Int32) × Int32 × Int32 × Int32 × Int32 × Int32 × (Nat → Int32) × Int32)
  | 0, _, _, _, _, _, _, _, _, _, _ => none
  | n + 1, x1, z_sign, z_length, z_next, z_wrong, z_number, z_made, z_deep, z_open, z_opened => (if x1 = 0 then (m_isInside z_open z_opened).bind (fun q2 => (if q2 = 0 then (m_layDown (1 : Int32) z_sign z_length z_text z_deep z_open z_opened).bind (fun q4 => some ((1 : Int32), q4.1, q4.2.1, z_next, z_wrong, z_number, z_made, q4.2.2.1, z_open, q4.2.2.2)) else (m_see z_tape z_taped z_next).bind (fun q5 => (m_fails (0 : Int32) q5.2 z_wrong).bind (fun q6 => rq (bo q6.1) (some (q6.1, z_sign, z_length, q5.2, q6.2, z_number, z_made, z_deep, z_open, z_opened)))))) else (m_fact z_tape z_taped z_sign z_length z_next z_wrong z_number z_text z_made z_deep z_open z_opened).bind (fun q8 => (if q8.1 = 0 then some ((0 : Int32), q8.2.1, q8.2.2.1, q8.2.2.2.1, q8.2.2.2.2.1, q8.2.2.2.2.2.1, q8.2.2.2.2.2.2.1, q8.2.2.2.2.2.2.2.1, q8.2.2.2.2.2.2.2.2.1, q8.2.2.2.2.2.2.2.2.2) else (m_closes z_tape z_taped q8.2.1 q8.2.2.1 q8.2.2.2.1 z_text q8.2.2.2.2.2.2.2.1 q8.2.2.2.2.2.2.2.2.1 q8.2.2.2.2.2.2.2.2.2).bind (fun q10 => (m_isWord (6385252 : Int64) z_tape z_taped q10.2.2.1).bind (fun q11 => (if q11.1 = 0 then (m_isWord (28530 : Int64) z_tape z_taped q11.2).bind (fun q26 => (if q26.1 = 0 then m_tested_j54 (m_tested_l12 z_tape z_taped z_text n) z_tape z_taped q10.1 q10.2.1 q26.2 q8.2.2.2.2.1 q8.2.2.2.2.2.1 z_text q8.2.2.2.2.2.2.1 q10.2.2.2.1 q8.2.2.2.2.2.2.2.2.1 q10.2.2.2.2 (0 : Int32) else m_tested_j49 (m_tested_l12 z_tape z_taped z_text n) z_tape z_taped q10.1 q10.2.1 q26.2 q8.2.2.2.2.1 q8.2.2.2.2.2.1 z_text q8.2.2.2.2.2.2.1 q10.2.2.2.1 q8.2.2.2.2.2.2.2.2.1 q10.2.2.2.2)) else m_tested_j49 (m_tested_l12 z_tape z_taped z_text n) z_tape z_taped q10.1 q10.2.1 q11.2 q8.2.2.2.2.1 q8.2.2.2.2.2.1 z_text q8.2.2.2.2.2.2.1 q10.2.2.2.1 q8.2.2.2.2.2.2.2.2.1 q10.2.2.2.2))))))
set_option maxRecDepth 20000 in
theorem cm_tested_l12 {q : Int32 × (Nat → Int32) × (Nat → Int32) × Int32 × Int32 × Int32 × Int32 × Int32 × (Nat → Int32) × Int32}   : ∀ (n : Nat) (x1 : Int32) (z_sign : Nat → Int32) (z_length : Nat → Int32) (z_next : Int32) (z_wrong : Int32) (z_number : Int32) (z_made : Int32) (z_deep : Int32) (z_open : Nat → Int32) (z_opened : Int32), m_tested_l12 z_tape z_taped z_text n x1 z_sign z_length z_next z_wrong z_number z_made z_deep z_open z_opened = some q → rW l D Z (ty7 K) Mm_tested 12 [(0, .ref (ad 0)), (1, .int x1)] [] (wM K ad z_tape z_taped z_rules z_sign z_length z_clause z_clauses z_read z_next z_wrong z_number z_text z_made z_deep z_lines z_open z_opened z_stack z_top z_word z_said z_force z_x z_absent z_isRaining z_wasSaid z_undone z_kept z_order z_bestOrder z_hasBy z_wealthThen z_isFit z_tillThen z_drawX z_images z_imageForce z_imageX z_isMade) (wM K ad z_tape z_taped z_rules q.2.1 q.2.2.1 z_clause z_clauses z_read q.2.2.2.1 q.2.2.2.2.1 q.2.2.2.2.2.1 z_text q.2.2.2.2.2.2.1 q.2.2.2.2.2.2.2.1 z_lines q.2.2.2.2.2.2.2.2.1 q.2.2.2.2.2.2.2.2.2 z_stack z_top z_word z_said z_force z_x z_absent z_isRaining z_wasSaid z_undone z_kept z_order z_bestOrder z_hasBy z_wealthThen z_isFit z_tillThen z_drawX z_images z_imageForce z_imageX z_isMade) (some (.int q.1)) := by
  intro n
  induction n with
  | zero => intro x1 z_sign z_length z_next z_wrong z_number z_made z_deep z_open z_opened h; unfold m_tested_l12 at h; cases h
  | succ n ih =>
    intro x1 z_sign z_length z_next z_wrong z_number z_made z_deep z_open z_opened h
    unfold m_tested_l12 at h
    refine r_iload_n 1 dX12_tested_12 rfl ?_
    refine r_if_eq 112 dX12_tested_13 (by decide) (fun c1 => ?_) (fun c1 => ?_)
    · replace h := it_pos c1 h
      refine r_aload_n 0 dX12_tested_112 rfl ?_
      obtain ⟨q2, h2, h⟩ := bd_some h
      refine cvM (st := []) (cm_isInside h2) rfl rfl (Nat.le_of_ble_eq_true rfl) km_isInside (tb_in (i := 20) (j := 20) rfl rfl) (by decide) rfl dX12_tested_113 ?_
      refine r_if_eq 134 dX12_tested_116 (by decide) (fun c3 => ?_) (fun c3 => ?_)
      · replace h := it_pos c3 h
        refine r_aload_n 0 dX12_tested_134 rfl ?_
        refine r_iconst (x := (1 : Int32)) dX12_tested_135 (by decide) ?_
        obtain ⟨q4, h4, h⟩ := bd_some h
        refine cvM (st := []) (cm_layDown h4) rfl rfl (Nat.le_of_ble_eq_true rfl) km_layDown (tb_in (i := 20) (j := 17) rfl rfl) (by decide) rfl dX12_tested_136 ?_
        refine r_iconst (x := (1 : Int32)) dX12_tested_139 (by decide) ?_
        have hq := Option.some.inj h
        subst hq
        exact r_zret (ty := .boolean) rfl rfl dX12_tested_140
      · replace h := it_neg c3 h
        refine r_aload_n 0 dX12_tested_119 rfl ?_
        obtain ⟨q5, h5, h⟩ := bd_some h
        refine cvM (st := []) (cm_see h5) rfl rfl (Nat.le_of_ble_eq_true rfl) km_see (tb_in (i := 17) (j := 30) rfl rfl) (by decide) rfl dX12_tested_120 ?_
        refine r_pop dX12_tested_123 rfl ?_
        refine r_aload_n 0 dX12_tested_124 rfl ?_
        refine r_iconst (x := (0 : Int32)) dX12_tested_125 (by decide) ?_
        refine r_aload_n 0 dX12_tested_126 rfl ?_
        refine gM_next rfl dX12_tested_127 ?_
        obtain ⟨q6, h6, h⟩ := bd_some h
        refine cvM (st := []) (cm_fails h6) rfl rfl (Nat.le_of_ble_eq_true rfl) km_fails (tb_in (i := 18) (j := 17) rfl rfl) (by decide) rfl dX12_tested_130 ?_
        obtain ⟨h7, h⟩ := rq_some h
        have hq := Option.some.inj h
        subst hq
        exact r_zret (ty := .boolean) rfl (bo_nar h7) dX12_tested_133
    · replace h := it_neg c1 h
      refine r_aload_n 0 dX12_tested_16 rfl ?_
      obtain ⟨q8, h8, h⟩ := bd_some h
      refine cvM (st := []) (cm_fact h8) rfl rfl (Nat.le_of_ble_eq_true rfl) km_fact (tb_in (i := 20) (j := 26) rfl rfl) (by decide) rfl dX12_tested_17 ?_
      refine r_if_ne 25 dX12_tested_20 (by decide) (fun c9 => ?_) (fun c9 => ?_)
      · replace h := it_neg c9 h
        refine r_aload_n 0 dX12_tested_25 rfl ?_
        obtain ⟨q10, h10, h⟩ := bd_some h
        refine cvM (st := []) (cm_closes h10) rfl rfl (Nat.le_of_ble_eq_true rfl) km_closes (tb_in (i := 20) (j := 29) rfl rfl) (by decide) rfl dX12_tested_26 ?_
        refine r_aload_n 0 dX12_tested_29 rfl ?_
        refine r_ldc2 (x := (6385252 : Int64)) (tb_in (i := 20) (j := 24) rfl rfl) dX12_tested_30 ?_
        obtain ⟨q11, h11, h⟩ := bd_some h
        refine cvM (st := []) (cm_isWord h11) rfl rfl (Nat.le_of_ble_eq_true rfl) km_isWord (tb_in (i := 18) (j := 6) rfl rfl) (by decide) rfl dX12_tested_33 ?_
        refine r_if_ne 49 dX12_tested_36 (by decide) (fun c12 => ?_) (fun c12 => ?_)
        · replace h := it_neg c12 h
          refine r_sub (lv' := [(0, .ref (ad 0))]) [0] rfl ?_
          exact cm_tested_j49 (ih) h
        · replace h := it_pos c12 h
          refine r_aload_n 0 dX12_tested_39 rfl ?_
          refine r_ldc2 (x := (28530 : Int64)) (tb_in (i := 20) (j := 25) rfl rfl) dX12_tested_40 ?_
          obtain ⟨q26, h26, h⟩ := bd_some h
          refine cvM (st := []) (cm_isWord h26) rfl rfl (Nat.le_of_ble_eq_true rfl) km_isWord (tb_in (i := 18) (j := 6) rfl rfl) (by decide) rfl dX12_tested_43 ?_
          refine r_if_eq 53 dX12_tested_46 (by decide) (fun c27 => ?_) (fun c27 => ?_)
          · replace h := it_pos c27 h
            refine r_iconst (x := (0 : Int32)) dX12_tested_53 (by decide) ?_
            refine r_sub (lv' := [(0, .ref (ad 0))]) [0] rfl ?_
            exact cm_tested_j54 (ih) h
          · replace h := it_neg c27 h
            refine r_sub (lv' := [(0, .ref (ad 0))]) [0] rfl ?_
            exact cm_tested_j49 (ih) h
      · replace h := it_pos c9 h
        refine r_iconst (x := (0 : Int32)) dX12_tested_23 (by decide) ?_
        have hq := Option.some.inj h
        subst hq
        exact r_zret (ty := .boolean) rfl rfl dX12_tested_24
def m_tested (z_tape : Nat → Int32) (z_taped : Int32) (z_sign : Nat → Int32) (z_length : Nat → Int32) (z_next : Int32) (z_wrong : Int32) (z_number : Int32) (z_text : Int32) (z_made : Int32) (z_deep : Int32) (z_open : Nat → Int32) (z_opened : Int32) : Option (Int32 × (Nat → Int32) × (Nat → Int32) × Int32 × Int32 × Int32 × Int32 × Int32 × (Nat → Int32) × Int32) := m_tested_l12 z_tape z_taped z_text FU (1 : Int32) z_sign z_length z_next z_wrong z_number z_made (0 : Int32) z_open (0 : Int32)
set_option maxRecDepth 20000 in
theorem cm_tested {q : Int32 × (Nat → Int32) × (Nat → Int32) × Int32 × Int32 × Int32 × Int32 × Int32 × (Nat → Int32) × Int32}  (h : m_tested z_tape z_taped z_sign z_length z_next z_wrong z_number z_text z_made z_deep z_open z_opened = some q) : rMet l D Z (ty7 K) Mm_tested [.ref (ad 0)] (wM K ad z_tape z_taped z_rules z_sign z_length z_clause z_clauses z_read z_next z_wrong z_number z_text z_made z_deep z_lines z_open z_opened z_stack z_top z_word z_said z_force z_x z_absent z_isRaining z_wasSaid z_undone z_kept z_order z_bestOrder z_hasBy z_wealthThen z_isFit z_tillThen z_drawX z_images z_imageForce z_imageX z_isMade) (wM K ad z_tape z_taped z_rules q.2.1 q.2.2.1 z_clause z_clauses z_read q.2.2.2.1 q.2.2.2.2.1 q.2.2.2.2.2.1 z_text q.2.2.2.2.2.2.1 q.2.2.2.2.2.2.2.1 z_lines q.2.2.2.2.2.2.2.2.1 q.2.2.2.2.2.2.2.2.2 z_stack z_top z_word z_said z_force z_x z_absent z_isRaining z_wasSaid z_undone z_kept z_order z_bestOrder z_hasBy z_wealthThen z_isFit z_tillThen z_drawX z_images z_imageForce z_imageX z_isMade) (some (.int q.1)) := by
  refine rMet.of (by decide) rfl (Nat.le_of_ble_eq_true rfl) ?_
  refine r_sub (lv' := [(0, .ref (ad 0))]) [0] rfl ?_
  unfold m_tested at h
  refine r_aload_n 0 dX12_tested_0 rfl ?_
  refine r_iconst (x := (0 : Int32)) dX12_tested_1 (by decide) ?_
  refine pM_opened rfl dX12_tested_2 ?_
  refine r_aload_n 0 dX12_tested_5 rfl ?_
  refine r_iconst (x := (0 : Int32)) dX12_tested_6 (by decide) ?_
  refine pM_deep rfl dX12_tested_7 ?_
  refine r_iconst (x := (1 : Int32)) dX12_tested_10 (by decide) ?_
  refine r_istore_n (lv' := [(1, .int (1 : Int32)), (0, .ref (ad 0))]) dX12_tested_11 (by decide) rfl ?_
  refine r_sub (lv' := [(0, .ref (ad 0)), (1, .int (1 : Int32))]) [1, 0] rfl ?_
  exact cm_tested_l12  FU _ _ _ _ _ _ _ _ _ _ h
theorem dX12_isBuyHere_0 : decode cX12_isBuyHere 0 = .ok (.aload_n 0, 1) := by decide +kernel
theorem dX12_isBuyHere_1 : decode cX12_isBuyHere 1 = .ok (.invokevirtual 111, 3) := by decide +kernel
theorem dX12_isBuyHere_4 : decode cX12_isBuyHere 4 = .ok (.bipush 48, 2) := by decide +kernel
theorem dX12_isBuyHere_6 : decode cX12_isBuyHere 6 = .ok (.aload_n 0, 1) := by decide +kernel
theorem dX12_isBuyHere_7 : decode cX12_isBuyHere 7 = .ok (.getfield 152, 3) := by decide +kernel
theorem dX12_isBuyHere_10 : decode cX12_isBuyHere 10 = .ok (.imul, 1) := by decide +kernel
theorem dX12_isBuyHere_11 : decode cX12_isBuyHere 11 = .ok (.iconst 4, 1) := by decide +kernel
theorem dX12_isBuyHere_12 : decode cX12_isBuyHere 12 = .ok (.aload_n 0, 1) := by decide +kernel
theorem dX12_isBuyHere_13 : decode cX12_isBuyHere 13 = .ok (.getfield 23, 3) := by decide +kernel
theorem dX12_isBuyHere_16 : decode cX12_isBuyHere 16 = .ok (.aload_n 0, 1) := by decide +kernel
theorem dX12_isBuyHere_17 : decode cX12_isBuyHere 17 = .ok (.getfield 152, 3) := by decide +kernel
theorem dX12_isBuyHere_20 : decode cX12_isBuyHere 20 = .ok (.iaload, 1) := by decide +kernel
theorem dX12_isBuyHere_21 : decode cX12_isBuyHere 21 = .ok (.imul, 1) := by decide +kernel
theorem dX12_isBuyHere_22 : decode cX12_isBuyHere 22 = .ok (.iadd, 1) := by decide +kernel
theorem dX12_isBuyHere_23 : decode cX12_isBuyHere 23 = .ok (.istore_n 1, 1) := by decide +kernel
theorem dX12_isBuyHere_24 : decode cX12_isBuyHere 24 = .ok (.aload_n 0, 1) := by decide +kernel
theorem dX12_isBuyHere_25 : decode cX12_isBuyHere 25 = .ok (.getfield 20, 3) := by decide +kernel
theorem dX12_isBuyHere_28 : decode cX12_isBuyHere 28 = .ok (.iload_n 1, 1) := by decide +kernel
theorem dX12_isBuyHere_29 : decode cX12_isBuyHere 29 = .ok (.aload_n 0, 1) := by decide +kernel
theorem dX12_isBuyHere_30 : decode cX12_isBuyHere 30 = .ok (.getfield 17, 3) := by decide +kernel
theorem dX12_isBuyHere_33 : decode cX12_isBuyHere 33 = .ok (.aload_n 0, 1) := by decide +kernel
theorem dX12_isBuyHere_34 : decode cX12_isBuyHere 34 = .ok (.getfield 152, 3) := by decide +kernel
theorem dX12_isBuyHere_37 : decode cX12_isBuyHere 37 = .ok (.iaload, 1) := by decide +kernel
theorem dX12_isBuyHere_38 : decode cX12_isBuyHere 38 = .ok (.iastore, 1) := by decide +kernel
theorem dX12_isBuyHere_39 : decode cX12_isBuyHere 39 = .ok (.aload_n 0, 1) := by decide +kernel
theorem dX12_isBuyHere_40 : decode cX12_isBuyHere 40 = .ok (.invokevirtual 189, 3) := by decide +kernel
theorem dX12_isBuyHere_43 : decode cX12_isBuyHere 43 = .ok (.ifCond .ne 5, 3) := by decide +kernel
theorem dX12_isBuyHere_46 : decode cX12_isBuyHere 46 = .ok (.iconst 0, 1) := by decide +kernel
theorem dX12_isBuyHere_47 : decode cX12_isBuyHere 47 = .ok (.ireturn, 1) := by decide +kernel
theorem dX12_isBuyHere_48 : decode cX12_isBuyHere 48 = .ok (.aload_n 0, 1) := by decide +kernel
theorem dX12_isBuyHere_49 : decode cX12_isBuyHere 49 = .ok (.getfield 20, 3) := by decide +kernel
theorem dX12_isBuyHere_52 : decode cX12_isBuyHere 52 = .ok (.iload_n 1, 1) := by decide +kernel
theorem dX12_isBuyHere_53 : decode cX12_isBuyHere 53 = .ok (.iconst 1, 1) := by decide +kernel
theorem dX12_isBuyHere_54 : decode cX12_isBuyHere 54 = .ok (.iadd, 1) := by decide +kernel
theorem dX12_isBuyHere_55 : decode cX12_isBuyHere 55 = .ok (.aload_n 0, 1) := by decide +kernel
theorem dX12_isBuyHere_56 : decode cX12_isBuyHere 56 = .ok (.getfield 17, 3) := by decide +kernel
theorem dX12_isBuyHere_59 : decode cX12_isBuyHere 59 = .ok (.aload_n 0, 1) := by decide +kernel
theorem dX12_isBuyHere_60 : decode cX12_isBuyHere 60 = .ok (.getfield 152, 3) := by decide +kernel
theorem dX12_isBuyHere_63 : decode cX12_isBuyHere 63 = .ok (.iaload, 1) := by decide +kernel
theorem dX12_isBuyHere_64 : decode cX12_isBuyHere 64 = .ok (.iastore, 1) := by decide +kernel
theorem dX12_isBuyHere_65 : decode cX12_isBuyHere 65 = .ok (.aload_n 0, 1) := by decide +kernel
theorem dX12_isBuyHere_66 : decode cX12_isBuyHere 66 = .ok (.getfield 20, 3) := by decide +kernel
theorem dX12_isBuyHere_69 : decode cX12_isBuyHere 69 = .ok (.iload_n 1, 1) := by decide +kernel
theorem dX12_isBuyHere_70 : decode cX12_isBuyHere 70 = .ok (.iconst 2, 1) := by decide +kernel
theorem dX12_isBuyHere_71 : decode cX12_isBuyHere 71 = .ok (.iadd, 1) := by decide +kernel
theorem dX12_isBuyHere_72 : decode cX12_isBuyHere 72 = .ok (.iconst (-1), 1) := by decide +kernel
theorem dX12_isBuyHere_73 : decode cX12_isBuyHere 73 = .ok (.iastore, 1) := by decide +kernel
theorem dX12_isBuyHere_74 : decode cX12_isBuyHere 74 = .ok (.aload_n 0, 1) := by decide +kernel
theorem dX12_isBuyHere_75 : decode cX12_isBuyHere 75 = .ok (.ldc2_w 216, 3) := by decide +kernel
theorem dX12_isBuyHere_78 : decode cX12_isBuyHere 78 = .ok (.invokevirtual 218, 3) := by decide +kernel
theorem dX12_isBuyHere_81 : decode cX12_isBuyHere 81 = .ok (.ifCond .eq 29, 3) := by decide +kernel
theorem dX12_isBuyHere_84 : decode cX12_isBuyHere 84 = .ok (.aload_n 0, 1) := by decide +kernel
theorem dX12_isBuyHere_85 : decode cX12_isBuyHere 85 = .ok (.getfield 20, 3) := by decide +kernel
theorem dX12_isBuyHere_88 : decode cX12_isBuyHere 88 = .ok (.iload_n 1, 1) := by decide +kernel
theorem dX12_isBuyHere_89 : decode cX12_isBuyHere 89 = .ok (.iconst 2, 1) := by decide +kernel
theorem dX12_isBuyHere_90 : decode cX12_isBuyHere 90 = .ok (.iadd, 1) := by decide +kernel
theorem dX12_isBuyHere_91 : decode cX12_isBuyHere 91 = .ok (.aload_n 0, 1) := by decide +kernel
theorem dX12_isBuyHere_92 : decode cX12_isBuyHere 92 = .ok (.getfield 17, 3) := by decide +kernel
theorem dX12_isBuyHere_95 : decode cX12_isBuyHere 95 = .ok (.aload_n 0, 1) := by decide +kernel
theorem dX12_isBuyHere_96 : decode cX12_isBuyHere 96 = .ok (.getfield 152, 3) := by decide +kernel
theorem dX12_isBuyHere_99 : decode cX12_isBuyHere 99 = .ok (.iaload, 1) := by decide +kernel
theorem dX12_isBuyHere_100 : decode cX12_isBuyHere 100 = .ok (.iastore, 1) := by decide +kernel
theorem dX12_isBuyHere_101 : decode cX12_isBuyHere 101 = .ok (.aload_n 0, 1) := by decide +kernel
theorem dX12_isBuyHere_102 : decode cX12_isBuyHere 102 = .ok (.invokevirtual 221, 3) := by decide +kernel
theorem dX12_isBuyHere_105 : decode cX12_isBuyHere 105 = .ok (.ifCond .ne 5, 3) := by decide +kernel
theorem dX12_isBuyHere_108 : decode cX12_isBuyHere 108 = .ok (.iconst 0, 1) := by decide +kernel
theorem dX12_isBuyHere_109 : decode cX12_isBuyHere 109 = .ok (.ireturn, 1) := by decide +kernel
theorem dX12_isBuyHere_110 : decode cX12_isBuyHere 110 = .ok (.aload_n 0, 1) := by decide +kernel
theorem dX12_isBuyHere_111 : decode cX12_isBuyHere 111 = .ok (.getfield 20, 3) := by decide +kernel
theorem dX12_isBuyHere_114 : decode cX12_isBuyHere 114 = .ok (.iload_n 1, 1) := by decide +kernel
theorem dX12_isBuyHere_115 : decode cX12_isBuyHere 115 = .ok (.iconst 3, 1) := by decide +kernel
theorem dX12_isBuyHere_116 : decode cX12_isBuyHere 116 = .ok (.iadd, 1) := by decide +kernel
theorem dX12_isBuyHere_117 : decode cX12_isBuyHere 117 = .ok (.aload_n 0, 1) := by decide +kernel
theorem dX12_isBuyHere_118 : decode cX12_isBuyHere 118 = .ok (.getfield 17, 3) := by decide +kernel
theorem dX12_isBuyHere_121 : decode cX12_isBuyHere 121 = .ok (.aload_n 0, 1) := by decide +kernel
theorem dX12_isBuyHere_122 : decode cX12_isBuyHere 122 = .ok (.getfield 152, 3) := by decide +kernel
theorem dX12_isBuyHere_125 : decode cX12_isBuyHere 125 = .ok (.iaload, 1) := by decide +kernel
theorem dX12_isBuyHere_126 : decode cX12_isBuyHere 126 = .ok (.iastore, 1) := by decide +kernel
theorem dX12_isBuyHere_127 : decode cX12_isBuyHere 127 = .ok (.aload_n 0, 1) := by decide +kernel
theorem dX12_isBuyHere_128 : decode cX12_isBuyHere 128 = .ok (.getfield 23, 3) := by decide +kernel
theorem dX12_isBuyHere_131 : decode cX12_isBuyHere 131 = .ok (.aload_n 0, 1) := by decide +kernel
theorem dX12_isBuyHere_132 : decode cX12_isBuyHere 132 = .ok (.getfield 152, 3) := by decide +kernel
theorem dX12_isBuyHere_135 : decode cX12_isBuyHere 135 = .ok (.dup2, 1) := by decide +kernel
theorem dX12_isBuyHere_136 : decode cX12_isBuyHere 136 = .ok (.iaload, 1) := by decide +kernel
theorem dX12_isBuyHere_137 : decode cX12_isBuyHere 137 = .ok (.iconst 1, 1) := by decide +kernel
theorem dX12_isBuyHere_138 : decode cX12_isBuyHere 138 = .ok (.iadd, 1) := by decide +kernel
theorem dX12_isBuyHere_139 : decode cX12_isBuyHere 139 = .ok (.iastore, 1) := by decide +kernel
theorem dX12_isBuyHere_140 : decode cX12_isBuyHere 140 = .ok (.iconst 1, 1) := by decide +kernel
theorem dX12_isBuyHere_141 : decode cX12_isBuyHere 141 = .ok (.ireturn, 1) := by decide +kernel
abbrev Mm_isBuyHere : rx_M := (RX12, yX12_isBuyHere, cX12_isBuyHere, 2, (some .boolean), 10)
theorem km_isBuyHere : rKv Mm_isBuyHere 0 := ⟨tb_in (i := 22) (j := 9) rfl rfl, tb_in (i := 22) (j := 10) rfl rfl, tb_in (i := 17) (j := 21) rfl rfl, tb_in (i := 21) (j := 8) rfl rfl, ⟨by decide, by decide, by decide +kernel⟩, by decide⟩
def m_isBuyHere (z_tape : Nat → Int32) (z_taped : Int32) (z_sign : Nat → Int32) (z_length : Nat → Int32) (z_clause : Nat → Int32) (z_clauses : Nat → Int32) (z_next : Int32) (z_wrong : Int32) (z_number : Int32) (z_text : Int32) (z_made : Int32) (z_deep : Int32) (z_open : Nat → Int32) (z_opened : Int32) : Option (Int32 × (Nat → Int32) × (Nat → Int32) × (Nat → Int32) × (Nat → Int32) × Int32 × Int32 × Int32 × Int32 × Int32 × (Nat → Int32) × Int32) := (m_passWord z_tape z_taped z_next).bind (fun q1 => rq (inb z_text 6) (lt (((48 : Int32) * z_text) + ((4 : Int32) * (z_clauses z_text.toNatClampNeg))) (fun y3 => rq (inb z_text 7) (rq (inb y3 288) (lt (upd z_clause y3.toNatClampNeg (z_length z_text.toNatClampNeg)) (fun u5 => (m_sum z_tape z_taped z_sign z_length q1 z_wrong z_number z_text z_made).bind (fun q6 => (if q6.1 = 0 then some ((0 : Int32), q6.2.1, q6.2.2.1, u5, z_clauses, q6.2.2.2.1, q6.2.2.2.2.1, q6.2.2.2.2.2.1, q6.2.2.2.2.2.2, z_deep, z_open, z_opened) else rq (inb z_text 7) (rq (inb (y3 + (1 : Int32)) 288) (lt (upd u5 (y3 + (1 : Int32)).toNatClampNeg (q6.2.2.1 z_text.toNatClampNeg)) (fun u9 => rq (inb (y3 + (2 : Int32)) 288) (lt (upd u9 (y3 + (2 : Int32)).toNatClampNeg (-1 : Int32)) (fun u10 => (m_takesWord (26982 : Int64) z_tape z_taped q6.2.2.2.1).bind (fun q11 => (if q11.1 = 0 then rq (inb z_text 7) (rq (inb (y3 + (3 : Int32)) 288) (lt (upd u10 (y3 + (3 : Int32)).toNatClampNeg (q6.2.2.1 z_text.toNatClampNeg)) (fun u14 => rq (inb z_text 6) (rq (inb z_text 6) (lt (upd z_clauses z_text.toNatClampNeg ((z_clauses z_text.toNatClampNeg) + (1 : Int32))) (fun u16 => some ((1 : Int32), q6.2.1, q6.2.2.1, u14, u16, q11.2, q6.2.2.2.2.1, q6.2.2.2.2.2.1, q6.2.2.2.2.2.2, z_deep, z_open, z_opened))))))) else rq (inb z_text 7) (rq (inb (y3 + (2 : Int32)) 288) (lt (upd u10 (y3 + (2 : Int32)).toNatClampNeg (q6.2.2.1 z_text.toNatClampNeg)) (fun u18 => (m_tested z_tape z_taped q6.2.1 q6.2.2.1 q11.2 q6.2.2.2.2.1 q6.2.2.2.2.2.1 z_text q6.2.2.2.2.2.2 z_deep z_open z_opened).bind (fun q19 => (if q19.1 = 0 then some ((0 : Int32), q19.2.1, q19.2.2.1, u18, z_clauses, q19.2.2.2.1, q19.2.2.2.2.1, q19.2.2.2.2.2.1, q19.2.2.2.2.2.2.1, q19.2.2.2.2.2.2.2.1, q19.2.2.2.2.2.2.2.2.1, q19.2.2.2.2.2.2.2.2.2) else rq (inb z_text 7) (rq (inb (y3 + (3 : Int32)) 288) (lt (upd u18 (y3 + (3 : Int32)).toNatClampNeg (q19.2.2.1 z_text.toNatClampNeg)) (fun u22 => rq (inb z_text 6) (rq (inb z_text 6) (lt (upd z_clauses z_text.toNatClampNeg ((z_clauses z_text.toNatClampNeg) + (1 : Int32))) (fun u24 => some ((1 : Int32), q19.2.1, q19.2.2.1, u22, u24, q19.2.2.2.1, q19.2.2.2.2.1, q19.2.2.2.2.2.1, q19.2.2.2.2.2.2.1, q19.2.2.2.2.2.2.2.1, q19.2.2.2.2.2.2.2.2.1, q19.2.2.2.2.2.2.2.2.2)))))))))))))))))))))))))))
set_option maxRecDepth 20000 in
theorem cm_isBuyHere {q : Int32 × (Nat → Int32) × (Nat → Int32) × (Nat → Int32) × (Nat → Int32) × Int32 × Int32 × Int32 × Int32 × Int32 × (Nat → Int32) × Int32}  (h : m_isBuyHere z_tape z_taped z_sign z_length z_clause z_clauses z_next z_wrong z_number z_text z_made z_deep z_open z_opened = some q) : rMet l D Z (ty7 K) Mm_isBuyHere [.ref (ad 0)] (wM K ad z_tape z_taped z_rules z_sign z_length z_clause z_clauses z_read z_next z_wrong z_number z_text z_made z_deep z_lines z_open z_opened z_stack z_top z_word z_said z_force z_x z_absent z_isRaining z_wasSaid z_undone z_kept z_order z_bestOrder z_hasBy z_wealthThen z_isFit z_tillThen z_drawX z_images z_imageForce z_imageX z_isMade) (wM K ad z_tape z_taped z_rules q.2.1 q.2.2.1 q.2.2.2.1 q.2.2.2.2.1 z_read q.2.2.2.2.2.1 q.2.2.2.2.2.2.1 q.2.2.2.2.2.2.2.1 z_text q.2.2.2.2.2.2.2.2.1 q.2.2.2.2.2.2.2.2.2.1 z_lines q.2.2.2.2.2.2.2.2.2.2.1 q.2.2.2.2.2.2.2.2.2.2.2 z_stack z_top z_word z_said z_force z_x z_absent z_isRaining z_wasSaid z_undone z_kept z_order z_bestOrder z_hasBy z_wealthThen z_isFit z_tillThen z_drawX z_images z_imageForce z_imageX z_isMade) (some (.int q.1)) := by
  refine rMet.of (by decide) rfl (Nat.le_of_ble_eq_true rfl) ?_
  refine r_sub (lv' := [(0, .ref (ad 0))]) [0] rfl ?_
  unfold m_isBuyHere at h
  refine r_aload_n 0 dX12_isBuyHere_0 rfl ?_
  obtain ⟨q1, h1, h⟩ := bd_some h
  refine cvM (st := []) (cm_passWord h1) rfl rfl (Nat.le_of_ble_eq_true rfl) km_passWord (tb_in (i := 18) (j := 9) rfl rfl) (by decide) rfl dX12_isBuyHere_1 ?_
  refine r_bipush (x := (48 : Int32)) dX12_isBuyHere_4 (by decide) ?_
  refine r_aload_n 0 dX12_isBuyHere_6 rfl ?_
  refine gM_text rfl dX12_isBuyHere_7 ?_
  refine r_imul dX12_isBuyHere_10 ?_
  refine r_iconst (x := (4 : Int32)) dX12_isBuyHere_11 (by decide) ?_
  refine r_aload_n 0 dX12_isBuyHere_12 rfl ?_
  refine gM_clauses rfl dX12_isBuyHere_13 ?_
  refine r_aload_n 0 dX12_isBuyHere_16 rfl ?_
  refine gM_text rfl dX12_isBuyHere_17 ?_
  obtain ⟨h2, h⟩ := rq_some h
  refine lM_clauses (inb_in h2) dX12_isBuyHere_20 ?_
  refine r_imul dX12_isBuyHere_21 ?_
  refine r_iadd dX12_isBuyHere_22 ?_
  obtain ⟨y3, e3, h⟩ := lt_some h
  refine r_top e3 ?_
  refine r_istore_n (lv' := [(1, .int y3), (0, .ref (ad 0))]) dX12_isBuyHere_23 (by decide) rfl ?_
  refine r_aload_n 1 dX12_isBuyHere_24 rfl ?_
  refine gM_clause rfl dX12_isBuyHere_25 ?_
  refine r_iload_n 0 dX12_isBuyHere_28 rfl ?_
  refine r_aload_n 1 dX12_isBuyHere_29 rfl ?_
  refine gM_length rfl dX12_isBuyHere_30 ?_
  refine r_aload_n 1 dX12_isBuyHere_33 rfl ?_
  refine gM_text rfl dX12_isBuyHere_34 ?_
  obtain ⟨h4, h⟩ := rq_some h
  refine lM_length (inb_in h4) dX12_isBuyHere_37 ?_
  obtain ⟨h5, h⟩ := rq_some h
  obtain ⟨u5, e5, h⟩ := lt_some h
  refine sM_clause e5 (inb_in h5) dX12_isBuyHere_38 ?_
  refine r_aload_n 1 dX12_isBuyHere_39 rfl ?_
  obtain ⟨q6, h6, h⟩ := bd_some h
  refine cvM (st := []) (cm_sum h6) rfl rfl (Nat.le_of_ble_eq_true rfl) km_sum (tb_in (i := 20) (j := 4) rfl rfl) (by decide) rfl dX12_isBuyHere_40 ?_
  refine r_if_ne 48 dX12_isBuyHere_43 (by decide) (fun c7 => ?_) (fun c7 => ?_)
  · replace h := it_neg c7 h
    refine r_aload_n 1 dX12_isBuyHere_48 rfl ?_
    refine gM_clause rfl dX12_isBuyHere_49 ?_
    refine r_iload_n 0 dX12_isBuyHere_52 rfl ?_
    refine r_iconst (x := (1 : Int32)) dX12_isBuyHere_53 (by decide) ?_
    refine r_iadd dX12_isBuyHere_54 ?_
    refine r_aload_n 1 dX12_isBuyHere_55 rfl ?_
    refine gM_length rfl dX12_isBuyHere_56 ?_
    refine r_aload_n 1 dX12_isBuyHere_59 rfl ?_
    refine gM_text rfl dX12_isBuyHere_60 ?_
    obtain ⟨h8, h⟩ := rq_some h
    refine lM_length (inb_in h8) dX12_isBuyHere_63 ?_
    obtain ⟨h9, h⟩ := rq_some h
    obtain ⟨u9, e9, h⟩ := lt_some h
    refine sM_clause e9 (inb_in h9) dX12_isBuyHere_64 ?_
    refine r_aload_n 1 dX12_isBuyHere_65 rfl ?_
    refine gM_clause rfl dX12_isBuyHere_66 ?_
    refine r_iload_n 0 dX12_isBuyHere_69 rfl ?_
    refine r_iconst (x := (2 : Int32)) dX12_isBuyHere_70 (by decide) ?_
    refine r_iadd dX12_isBuyHere_71 ?_
    refine r_iconst (x := (-1 : Int32)) dX12_isBuyHere_72 (by decide) ?_
    obtain ⟨h10, h⟩ := rq_some h
    obtain ⟨u10, e10, h⟩ := lt_some h
    refine sM_clause e10 (inb_in h10) dX12_isBuyHere_73 ?_
    refine r_aload_n 1 dX12_isBuyHere_74 rfl ?_
    refine r_ldc2 (x := (26982 : Int64)) (tb_in (i := 21) (j := 1) rfl rfl) dX12_isBuyHere_75 ?_
    obtain ⟨q11, h11, h⟩ := bd_some h
    refine cvM (st := []) (cm_takesWord h11) rfl rfl (Nat.le_of_ble_eq_true rfl) km_takesWord (tb_in (i := 21) (j := 2) rfl rfl) (by decide) rfl dX12_isBuyHere_78 ?_
    refine r_if_eq 110 dX12_isBuyHere_81 (by decide) (fun c12 => ?_) (fun c12 => ?_)
    · replace h := it_pos c12 h
      refine r_aload_n 1 dX12_isBuyHere_110 rfl ?_
      refine gM_clause rfl dX12_isBuyHere_111 ?_
      refine r_iload_n 0 dX12_isBuyHere_114 rfl ?_
      refine r_iconst (x := (3 : Int32)) dX12_isBuyHere_115 (by decide) ?_
      refine r_iadd dX12_isBuyHere_116 ?_
      refine r_aload_n 1 dX12_isBuyHere_117 rfl ?_
      refine gM_length rfl dX12_isBuyHere_118 ?_
      refine r_aload_n 1 dX12_isBuyHere_121 rfl ?_
      refine gM_text rfl dX12_isBuyHere_122 ?_
      obtain ⟨h13, h⟩ := rq_some h
      refine lM_length (inb_in h13) dX12_isBuyHere_125 ?_
      obtain ⟨h14, h⟩ := rq_some h
      obtain ⟨u14, e14, h⟩ := lt_some h
      refine sM_clause e14 (inb_in h14) dX12_isBuyHere_126 ?_
      refine r_aload_n 1 dX12_isBuyHere_127 rfl ?_
      refine gM_clauses rfl dX12_isBuyHere_128 ?_
      refine r_aload_n 1 dX12_isBuyHere_131 rfl ?_
      refine gM_text rfl dX12_isBuyHere_132 ?_
      refine r_dup2 dX12_isBuyHere_135 rfl rfl ?_
      obtain ⟨h15, h⟩ := rq_some h
      refine lM_clauses (inb_in h15) dX12_isBuyHere_136 ?_
      refine r_iconst (x := (1 : Int32)) dX12_isBuyHere_137 (by decide) ?_
      refine r_iadd dX12_isBuyHere_138 ?_
      obtain ⟨h16, h⟩ := rq_some h
      obtain ⟨u16, e16, h⟩ := lt_some h
      refine sM_clauses e16 (inb_in h16) dX12_isBuyHere_139 ?_
      refine r_iconst (x := (1 : Int32)) dX12_isBuyHere_140 (by decide) ?_
      have hq := Option.some.inj h
      subst hq
      exact r_zret (ty := .boolean) rfl rfl dX12_isBuyHere_141
    · replace h := it_neg c12 h
      refine r_aload_n 1 dX12_isBuyHere_84 rfl ?_
      refine gM_clause rfl dX12_isBuyHere_85 ?_
      refine r_iload_n 0 dX12_isBuyHere_88 rfl ?_
      refine r_iconst (x := (2 : Int32)) dX12_isBuyHere_89 (by decide) ?_
      refine r_iadd dX12_isBuyHere_90 ?_
      refine r_aload_n 1 dX12_isBuyHere_91 rfl ?_
      refine gM_length rfl dX12_isBuyHere_92 ?_
      refine r_aload_n 1 dX12_isBuyHere_95 rfl ?_
      refine gM_text rfl dX12_isBuyHere_96 ?_
      obtain ⟨h17, h⟩ := rq_some h
      refine lM_length (inb_in h17) dX12_isBuyHere_99 ?_
      obtain ⟨h18, h⟩ := rq_some h
      obtain ⟨u18, e18, h⟩ := lt_some h
      refine sM_clause e18 (inb_in h18) dX12_isBuyHere_100 ?_
      refine r_aload_n 1 dX12_isBuyHere_101 rfl ?_
      obtain ⟨q19, h19, h⟩ := bd_some h
      refine cvM (st := []) (cm_tested h19) rfl rfl (Nat.le_of_ble_eq_true rfl) km_tested (tb_in (i := 21) (j := 5) rfl rfl) (by decide) rfl dX12_isBuyHere_102 ?_
      refine r_if_ne 110 dX12_isBuyHere_105 (by decide) (fun c20 => ?_) (fun c20 => ?_)
      · replace h := it_neg c20 h
        refine r_aload_n 1 dX12_isBuyHere_110 rfl ?_
        refine gM_clause rfl dX12_isBuyHere_111 ?_
        refine r_iload_n 0 dX12_isBuyHere_114 rfl ?_
        refine r_iconst (x := (3 : Int32)) dX12_isBuyHere_115 (by decide) ?_
        refine r_iadd dX12_isBuyHere_116 ?_
        refine r_aload_n 1 dX12_isBuyHere_117 rfl ?_
        refine gM_length rfl dX12_isBuyHere_118 ?_
        refine r_aload_n 1 dX12_isBuyHere_121 rfl ?_
        refine gM_text rfl dX12_isBuyHere_122 ?_
        obtain ⟨h21, h⟩ := rq_some h
        refine lM_length (inb_in h21) dX12_isBuyHere_125 ?_
        obtain ⟨h22, h⟩ := rq_some h
        obtain ⟨u22, e22, h⟩ := lt_some h
        refine sM_clause e22 (inb_in h22) dX12_isBuyHere_126 ?_
        refine r_aload_n 1 dX12_isBuyHere_127 rfl ?_
        refine gM_clauses rfl dX12_isBuyHere_128 ?_
        refine r_aload_n 1 dX12_isBuyHere_131 rfl ?_
        refine gM_text rfl dX12_isBuyHere_132 ?_
        refine r_dup2 dX12_isBuyHere_135 rfl rfl ?_
        obtain ⟨h23, h⟩ := rq_some h
        refine lM_clauses (inb_in h23) dX12_isBuyHere_136 ?_
        refine r_iconst (x := (1 : Int32)) dX12_isBuyHere_137 (by decide) ?_
        refine r_iadd dX12_isBuyHere_138 ?_
        obtain ⟨h24, h⟩ := rq_some h
        obtain ⟨u24, e24, h⟩ := lt_some h
        refine sM_clauses e24 (inb_in h24) dX12_isBuyHere_139 ?_
        refine r_iconst (x := (1 : Int32)) dX12_isBuyHere_140 (by decide) ?_
        have hq := Option.some.inj h
        subst hq
        exact r_zret (ty := .boolean) rfl rfl dX12_isBuyHere_141
      · replace h := it_pos c20 h
        refine r_iconst (x := (0 : Int32)) dX12_isBuyHere_108 (by decide) ?_
        have hq := Option.some.inj h
        subst hq
        exact r_zret (ty := .boolean) rfl rfl dX12_isBuyHere_109
  · replace h := it_pos c7 h
    refine r_iconst (x := (0 : Int32)) dX12_isBuyHere_46 (by decide) ?_
    have hq := Option.some.inj h
    subst hq
    exact r_zret (ty := .boolean) rfl rfl dX12_isBuyHere_47
theorem dX12_cellHere_0 : decode cX12_cellHere 0 = .ok (.aload_n 0, 1) := by decide +kernel
theorem dX12_cellHere_1 : decode cX12_cellHere 1 = .ok (.iload_n 2, 1) := by decide +kernel
theorem dX12_cellHere_2 : decode cX12_cellHere 2 = .ok (.iload_n 3, 1) := by decide +kernel
theorem dX12_cellHere_3 : decode cX12_cellHere 3 = .ok (.invokevirtual 173, 3) := by decide +kernel
theorem dX12_cellHere_6 : decode cX12_cellHere 6 = .ok (.ifCond .ne 5, 3) := by decide +kernel
theorem dX12_cellHere_9 : decode cX12_cellHere 9 = .ok (.iconst 0, 1) := by decide +kernel
theorem dX12_cellHere_10 : decode cX12_cellHere 10 = .ok (.ireturn, 1) := by decide +kernel
theorem dX12_cellHere_11 : decode cX12_cellHere 11 = .ok (.aload_n 0, 1) := by decide +kernel
theorem dX12_cellHere_12 : decode cX12_cellHere 12 = .ok (.getfield 26, 3) := by decide +kernel
theorem dX12_cellHere_15 : decode cX12_cellHere 15 = .ok (.iload_n 1, 1) := by decide +kernel
theorem dX12_cellHere_16 : decode cX12_cellHere 16 = .ok (.aload_n 0, 1) := by decide +kernel
theorem dX12_cellHere_17 : decode cX12_cellHere 17 = .ok (.getfield 121, 3) := by decide +kernel
theorem dX12_cellHere_20 : decode cX12_cellHere 20 = .ok (.iastore, 1) := by decide +kernel
theorem dX12_cellHere_21 : decode cX12_cellHere 21 = .ok (.iconst 1, 1) := by decide +kernel
theorem dX12_cellHere_22 : decode cX12_cellHere 22 = .ok (.ireturn, 1) := by decide +kernel
abbrev Mm_cellHere : rx_M := (RX12, yX12_cellHere, cX12_cellHere, 4, (some .boolean), 3)
theorem km_cellHere : rKv Mm_cellHere 3 := ⟨tb_in (i := 21) (j := 11) rfl rfl, tb_in (i := 21) (j := 12) rfl rfl, tb_in (i := 17) (j := 21) rfl rfl, tb_in (i := 21) (j := 9) rfl rfl, ⟨by decide, by decide, by decide +kernel⟩, by decide⟩
def m_cellHere (x1 : Int32) (x2 : Int32) (x3 : Int32) (z_tape : Nat → Int32) (z_taped : Int32) (z_read : Nat → Int32) (z_next : Int32) (z_wrong : Int32) (z_number : Int32) : Option (Int32 × (Nat → Int32) × Int32 × Int32 × Int32) := (m_numberHere x2 x3 z_tape z_taped z_next z_wrong z_number).bind (fun q1 => (if q1.1 = 0 then some ((0 : Int32), z_read, q1.2.1, q1.2.2.1, q1.2.2.2) else rq (inb x1 125) (lt (upd z_read x1.toNatClampNeg q1.2.2.2) (fun u3 => some ((1 : Int32), u3, q1.2.1, q1.2.2.1, q1.2.2.2)))))
set_option maxRecDepth 20000 in
theorem cm_cellHere {q : Int32 × (Nat → Int32) × Int32 × Int32 × Int32} {x1 : Int32} {x2 : Int32} {x3 : Int32} (h : m_cellHere x1 x2 x3 z_tape z_taped z_read z_next z_wrong z_number = some q) : rMet l D Z (ty7 K) Mm_cellHere [.ref (ad 0), .int x1, .int x2, .int x3] (wM K ad z_tape z_taped z_rules z_sign z_length z_clause z_clauses z_read z_next z_wrong z_number z_text z_made z_deep z_lines z_open z_opened z_stack z_top z_word z_said z_force z_x z_absent z_isRaining z_wasSaid z_undone z_kept z_order z_bestOrder z_hasBy z_wealthThen z_isFit z_tillThen z_drawX z_images z_imageForce z_imageX z_isMade) (wM K ad z_tape z_taped z_rules z_sign z_length z_clause z_clauses q.2.1 q.2.2.1 q.2.2.2.1 q.2.2.2.2 z_text z_made z_deep z_lines z_open z_opened z_stack z_top z_word z_said z_force z_x z_absent z_isRaining z_wasSaid z_undone z_kept z_order z_bestOrder z_hasBy z_wealthThen z_isFit z_tillThen z_drawX z_images z_imageForce z_imageX z_isMade) (some (.int q.1)) := by
  refine rMet.of (by decide) rfl (Nat.le_of_ble_eq_true rfl) ?_
  refine r_sub (lv' := [(0, .ref (ad 0)), (1, .int x1), (2, .int x2), (3, .int x3)]) [0, 1, 2, 3] rfl ?_
  unfold m_cellHere at h
  refine r_aload_n 0 dX12_cellHere_0 rfl ?_
  refine r_iload_n 2 dX12_cellHere_1 rfl ?_
  refine r_iload_n 3 dX12_cellHere_2 rfl ?_
  obtain ⟨q1, h1, h⟩ := bd_some h
  refine cvM (st := []) (cm_numberHere h1) rfl rfl (Nat.le_of_ble_eq_true rfl) km_numberHere (tb_in (i := 19) (j := 18) rfl rfl) (by decide) rfl dX12_cellHere_3 ?_
  refine r_if_ne 11 dX12_cellHere_6 (by decide) (fun c2 => ?_) (fun c2 => ?_)
  · replace h := it_neg c2 h
    refine r_aload_n 0 dX12_cellHere_11 rfl ?_
    refine gM_read rfl dX12_cellHere_12 ?_
    refine r_iload_n 1 dX12_cellHere_15 rfl ?_
    refine r_aload_n 0 dX12_cellHere_16 rfl ?_
    refine gM_number rfl dX12_cellHere_17 ?_
    obtain ⟨h3, h⟩ := rq_some h
    obtain ⟨u3, e3, h⟩ := lt_some h
    refine sM_read e3 (inb_in h3) dX12_cellHere_20 ?_
    refine r_iconst (x := (1 : Int32)) dX12_cellHere_21 (by decide) ?_
    have hq := Option.some.inj h
    subst hq
    exact r_zret (ty := .boolean) rfl rfl dX12_cellHere_22
  · replace h := it_pos c2 h
    refine r_iconst (x := (0 : Int32)) dX12_cellHere_9 (by decide) ?_
    have hq := Option.some.inj h
    subst hq
    exact r_zret (ty := .boolean) rfl rfl dX12_cellHere_10
theorem dX12_isFairHere_0 : decode cX12_isFairHere 0 = .ok (.aload_n 0, 1) := by decide +kernel
theorem dX12_isFairHere_1 : decode cX12_isFairHere 1 = .ok (.getfield 26, 3) := by decide +kernel
theorem dX12_isFairHere_4 : decode cX12_isFairHere 4 = .ok (.iconst 0, 1) := by decide +kernel
theorem dX12_isFairHere_5 : decode cX12_isFairHere 5 = .ok (.iaload, 1) := by decide +kernel
theorem dX12_isFairHere_6 : decode cX12_isFairHere 6 = .ok (.ifCond .le 10, 3) := by decide +kernel
theorem dX12_isFairHere_9 : decode cX12_isFairHere 9 = .ok (.aload_n 0, 1) := by decide +kernel
theorem dX12_isFairHere_10 : decode cX12_isFairHere 10 = .ok (.iconst 4, 1) := by decide +kernel
theorem dX12_isFairHere_11 : decode cX12_isFairHere 11 = .ok (.iload_n 1, 1) := by decide +kernel
theorem dX12_isFairHere_12 : decode cX12_isFairHere 12 = .ok (.invokevirtual 117, 3) := by decide +kernel
theorem dX12_isFairHere_15 : decode cX12_isFairHere 15 = .ok (.ireturn, 1) := by decide +kernel
theorem dX12_isFairHere_16 : decode cX12_isFairHere 16 = .ok (.aload_n 0, 1) := by decide +kernel
theorem dX12_isFairHere_17 : decode cX12_isFairHere 17 = .ok (.invokevirtual 111, 3) := by decide +kernel
theorem dX12_isFairHere_20 : decode cX12_isFairHere 20 = .ok (.aload_n 0, 1) := by decide +kernel
theorem dX12_isFairHere_21 : decode cX12_isFairHere 21 = .ok (.iconst 1, 1) := by decide +kernel
theorem dX12_isFairHere_22 : decode cX12_isFairHere 22 = .ok (.iconst 1, 1) := by decide +kernel
theorem dX12_isFairHere_23 : decode cX12_isFairHere 23 = .ok (.bipush 20, 2) := by decide +kernel
theorem dX12_isFairHere_25 : decode cX12_isFairHere 25 = .ok (.invokevirtual 224, 3) := by decide +kernel
theorem dX12_isFairHere_28 : decode cX12_isFairHere 28 = .ok (.ifCond .eq 14, 3) := by decide +kernel
theorem dX12_isFairHere_31 : decode cX12_isFairHere 31 = .ok (.aload_n 0, 1) := by decide +kernel
theorem dX12_isFairHere_32 : decode cX12_isFairHere 32 = .ok (.iconst 2, 1) := by decide +kernel
theorem dX12_isFairHere_33 : decode cX12_isFairHere 33 = .ok (.iconst 0, 1) := by decide +kernel
theorem dX12_isFairHere_34 : decode cX12_isFairHere 34 = .ok (.bipush 9, 2) := by decide +kernel
theorem dX12_isFairHere_36 : decode cX12_isFairHere 36 = .ok (.invokevirtual 224, 3) := by decide +kernel
theorem dX12_isFairHere_39 : decode cX12_isFairHere 39 = .ok (.ifCond .ne 5, 3) := by decide +kernel
theorem dX12_isFairHere_42 : decode cX12_isFairHere 42 = .ok (.iconst 0, 1) := by decide +kernel
theorem dX12_isFairHere_43 : decode cX12_isFairHere 43 = .ok (.ireturn, 1) := by decide +kernel
theorem dX12_isFairHere_44 : decode cX12_isFairHere 44 = .ok (.aload_n 0, 1) := by decide +kernel
theorem dX12_isFairHere_45 : decode cX12_isFairHere 45 = .ok (.getfield 26, 3) := by decide +kernel
theorem dX12_isFairHere_48 : decode cX12_isFairHere 48 = .ok (.iconst 0, 1) := by decide +kernel
theorem dX12_isFairHere_49 : decode cX12_isFairHere 49 = .ok (.iconst 1, 1) := by decide +kernel
theorem dX12_isFairHere_50 : decode cX12_isFairHere 50 = .ok (.iastore, 1) := by decide +kernel
theorem dX12_isFairHere_51 : decode cX12_isFairHere 51 = .ok (.iconst 1, 1) := by decide +kernel
theorem dX12_isFairHere_52 : decode cX12_isFairHere 52 = .ok (.ireturn, 1) := by decide +kernel
abbrev Mm_isFairHere : rx_M := (RX12, yX12_isFairHere, cX12_isFairHere, 2, (some .boolean), 4)
theorem km_isFairHere : rKv Mm_isFairHere 1 := ⟨tb_in (i := 21) (j := 19) rfl rfl, tb_in (i := 21) (j := 20) rfl rfl, tb_in (i := 17) (j := 21) rfl rfl, tb_in (i := 21) (j := 13) rfl rfl, ⟨by decide, by decide, by decide +kernel⟩, by decide⟩
def m_isFairHere (x1 : Int32) (z_tape : Nat → Int32) (z_taped : Int32) (z_read : Nat → Int32) (z_next : Int32) (z_wrong : Int32) (z_number : Int32) : Option (Int32 × (Nat → Int32) × Int32 × Int32 × Int32) := rq (inb (0 : Int32) 125) ((if (z_read (0 : Int32).toNatClampNeg) ≤ 0 then (m_passWord z_tape z_taped z_next).bind (fun q3 => (m_cellHere (1 : Int32) (1 : Int32) (20 : Int32) z_tape z_taped z_read q3 z_wrong z_number).bind (fun q4 => (if q4.1 = 0 then some ((0 : Int32), q4.2.1, q4.2.2.1, q4.2.2.2.1, q4.2.2.2.2) else (m_cellHere (2 : Int32) (0 : Int32) (9 : Int32) z_tape z_taped q4.2.1 q4.2.2.1 q4.2.2.2.1 q4.2.2.2.2).bind (fun q6 => (if q6.1 = 0 then some ((0 : Int32), q6.2.1, q6.2.2.1, q6.2.2.2.1, q6.2.2.2.2) else rq (inb (0 : Int32) 125) (lt (upd q6.2.1 (0 : Int32).toNatClampNeg (1 : Int32)) (fun u8 => some ((1 : Int32), u8, q6.2.2.1, q6.2.2.2.1, q6.2.2.2.2)))))))) else (m_fails (4 : Int32) x1 z_wrong).bind (fun q9 => rq (bo q9.1) (some (q9.1, z_read, z_next, q9.2, z_number)))))
set_option maxRecDepth 20000 in
theorem cm_isFairHere {q : Int32 × (Nat → Int32) × Int32 × Int32 × Int32} {x1 : Int32} (h : m_isFairHere x1 z_tape z_taped z_read z_next z_wrong z_number = some q) : rMet l D Z (ty7 K) Mm_isFairHere [.ref (ad 0), .int x1] (wM K ad z_tape z_taped z_rules z_sign z_length z_clause z_clauses z_read z_next z_wrong z_number z_text z_made z_deep z_lines z_open z_opened z_stack z_top z_word z_said z_force z_x z_absent z_isRaining z_wasSaid z_undone z_kept z_order z_bestOrder z_hasBy z_wealthThen z_isFit z_tillThen z_drawX z_images z_imageForce z_imageX z_isMade) (wM K ad z_tape z_taped z_rules z_sign z_length z_clause z_clauses q.2.1 q.2.2.1 q.2.2.2.1 q.2.2.2.2 z_text z_made z_deep z_lines z_open z_opened z_stack z_top z_word z_said z_force z_x z_absent z_isRaining z_wasSaid z_undone z_kept z_order z_bestOrder z_hasBy z_wealthThen z_isFit z_tillThen z_drawX z_images z_imageForce z_imageX z_isMade) (some (.int q.1)) := by
  refine rMet.of (by decide) rfl (Nat.le_of_ble_eq_true rfl) ?_
  refine r_sub (lv' := [(0, .ref (ad 0)), (1, .int x1)]) [0, 1] rfl ?_
  unfold m_isFairHere at h
  refine r_aload_n 0 dX12_isFairHere_0 rfl ?_
  refine gM_read rfl dX12_isFairHere_1 ?_
  refine r_iconst (x := (0 : Int32)) dX12_isFairHere_4 (by decide) ?_
  obtain ⟨h1, h⟩ := rq_some h
  refine lM_read (inb_in h1) dX12_isFairHere_5 ?_
  refine r_if_le 16 dX12_isFairHere_6 (by decide) (fun c2 => ?_) (fun c2 => ?_)
  · replace h := it_pos c2 h
    refine r_aload_n 0 dX12_isFairHere_16 rfl ?_
    obtain ⟨q3, h3, h⟩ := bd_some h
    refine cvM (st := []) (cm_passWord h3) rfl rfl (Nat.le_of_ble_eq_true rfl) km_passWord (tb_in (i := 18) (j := 9) rfl rfl) (by decide) rfl dX12_isFairHere_17 ?_
    refine r_aload_n 0 dX12_isFairHere_20 rfl ?_
    refine r_iconst (x := (1 : Int32)) dX12_isFairHere_21 (by decide) ?_
    refine r_iconst (x := (1 : Int32)) dX12_isFairHere_22 (by decide) ?_
    refine r_bipush (x := (20 : Int32)) dX12_isFairHere_23 (by decide) ?_
    obtain ⟨q4, h4, h⟩ := bd_some h
    refine cvM (st := []) (cm_cellHere h4) rfl rfl (Nat.le_of_ble_eq_true rfl) km_cellHere (tb_in (i := 21) (j := 10) rfl rfl) (by decide) rfl dX12_isFairHere_25 ?_
    refine r_if_eq 42 dX12_isFairHere_28 (by decide) (fun c5 => ?_) (fun c5 => ?_)
    · replace h := it_pos c5 h
      refine r_iconst (x := (0 : Int32)) dX12_isFairHere_42 (by decide) ?_
      have hq := Option.some.inj h
      subst hq
      exact r_zret (ty := .boolean) rfl rfl dX12_isFairHere_43
    · replace h := it_neg c5 h
      refine r_aload_n 0 dX12_isFairHere_31 rfl ?_
      refine r_iconst (x := (2 : Int32)) dX12_isFairHere_32 (by decide) ?_
      refine r_iconst (x := (0 : Int32)) dX12_isFairHere_33 (by decide) ?_
      refine r_bipush (x := (9 : Int32)) dX12_isFairHere_34 (by decide) ?_
      obtain ⟨q6, h6, h⟩ := bd_some h
      refine cvM (st := []) (cm_cellHere h6) rfl rfl (Nat.le_of_ble_eq_true rfl) km_cellHere (tb_in (i := 21) (j := 10) rfl rfl) (by decide) rfl dX12_isFairHere_36 ?_
      refine r_if_ne 44 dX12_isFairHere_39 (by decide) (fun c7 => ?_) (fun c7 => ?_)
      · replace h := it_neg c7 h
        refine r_aload_n 0 dX12_isFairHere_44 rfl ?_
        refine gM_read rfl dX12_isFairHere_45 ?_
        refine r_iconst (x := (0 : Int32)) dX12_isFairHere_48 (by decide) ?_
        refine r_iconst (x := (1 : Int32)) dX12_isFairHere_49 (by decide) ?_
        obtain ⟨h8, h⟩ := rq_some h
        obtain ⟨u8, e8, h⟩ := lt_some h
        refine sM_read e8 (inb_in h8) dX12_isFairHere_50 ?_
        refine r_iconst (x := (1 : Int32)) dX12_isFairHere_51 (by decide) ?_
        have hq := Option.some.inj h
        subst hq
        exact r_zret (ty := .boolean) rfl rfl dX12_isFairHere_52
      · replace h := it_pos c7 h
        refine r_iconst (x := (0 : Int32)) dX12_isFairHere_42 (by decide) ?_
        have hq := Option.some.inj h
        subst hq
        exact r_zret (ty := .boolean) rfl rfl dX12_isFairHere_43
  · replace h := it_neg c2 h
    refine r_aload_n 0 dX12_isFairHere_9 rfl ?_
    refine r_iconst (x := (4 : Int32)) dX12_isFairHere_10 (by decide) ?_
    refine r_iload_n 1 dX12_isFairHere_11 rfl ?_
    obtain ⟨q9, h9, h⟩ := bd_some h
    refine cvM (st := []) (cm_fails h9) rfl rfl (Nat.le_of_ble_eq_true rfl) km_fails (tb_in (i := 18) (j := 17) rfl rfl) (by decide) rfl dX12_isFairHere_12 ?_
    obtain ⟨h10, h⟩ := rq_some h
    have hq := Option.some.inj h
    subst hq
    exact r_zret (ty := .boolean) rfl (bo_nar h10) dX12_isFairHere_15
theorem dX12_isStallHere_0 : decode cX12_isStallHere 0 = .ok (.aload_n 0, 1) := by decide +kernel
theorem dX12_isStallHere_1 : decode cX12_isStallHere 1 = .ok (.getfield 26, 3) := by decide +kernel
theorem dX12_isStallHere_4 : decode cX12_isStallHere 4 = .ok (.iconst 3, 1) := by decide +kernel
theorem dX12_isStallHere_5 : decode cX12_isStallHere 5 = .ok (.iaload, 1) := by decide +kernel
theorem dX12_isStallHere_6 : decode cX12_isStallHere 6 = .ok (.bipush 6, 2) := by decide +kernel
theorem dX12_isStallHere_8 : decode cX12_isStallHere 8 = .ok (.if_icmp .ne 10, 3) := by decide +kernel
theorem dX12_isStallHere_11 : decode cX12_isStallHere 11 = .ok (.aload_n 0, 1) := by decide +kernel
theorem dX12_isStallHere_12 : decode cX12_isStallHere 12 = .ok (.iconst 4, 1) := by decide +kernel
theorem dX12_isStallHere_13 : decode cX12_isStallHere 13 = .ok (.iload_n 1, 1) := by decide +kernel
theorem dX12_isStallHere_14 : decode cX12_isStallHere 14 = .ok (.invokevirtual 117, 3) := by decide +kernel
theorem dX12_isStallHere_17 : decode cX12_isStallHere 17 = .ok (.ireturn, 1) := by decide +kernel
theorem dX12_isStallHere_18 : decode cX12_isStallHere 18 = .ok (.aload_n 0, 1) := by decide +kernel
theorem dX12_isStallHere_19 : decode cX12_isStallHere 19 = .ok (.invokevirtual 111, 3) := by decide +kernel
theorem dX12_isStallHere_22 : decode cX12_isStallHere 22 = .ok (.aload_n 0, 1) := by decide +kernel
theorem dX12_isStallHere_23 : decode cX12_isStallHere 23 = .ok (.getfield 26, 3) := by decide +kernel
theorem dX12_isStallHere_26 : decode cX12_isStallHere 26 = .ok (.iconst 3, 1) := by decide +kernel
theorem dX12_isStallHere_27 : decode cX12_isStallHere 27 = .ok (.iaload, 1) := by decide +kernel
theorem dX12_isStallHere_28 : decode cX12_isStallHere 28 = .ok (.istore_n 2, 1) := by decide +kernel
theorem dX12_isStallHere_29 : decode cX12_isStallHere 29 = .ok (.aload_n 0, 1) := by decide +kernel
theorem dX12_isStallHere_30 : decode cX12_isStallHere 30 = .ok (.bipush 101, 2) := by decide +kernel
theorem dX12_isStallHere_32 : decode cX12_isStallHere 32 = .ok (.iload_n 2, 1) := by decide +kernel
theorem dX12_isStallHere_33 : decode cX12_isStallHere 33 = .ok (.iadd, 1) := by decide +kernel
theorem dX12_isStallHere_34 : decode cX12_isStallHere 34 = .ok (.iconst 0, 1) := by decide +kernel
theorem dX12_isStallHere_35 : decode cX12_isStallHere 35 = .ok (.bipush 20, 2) := by decide +kernel
theorem dX12_isStallHere_37 : decode cX12_isStallHere 37 = .ok (.invokevirtual 224, 3) := by decide +kernel
theorem dX12_isStallHere_40 : decode cX12_isStallHere 40 = .ok (.ifCond .eq 31, 3) := by decide +kernel
theorem dX12_isStallHere_43 : decode cX12_isStallHere 43 = .ok (.aload_n 0, 1) := by decide +kernel
theorem dX12_isStallHere_44 : decode cX12_isStallHere 44 = .ok (.bipush 107, 2) := by decide +kernel
theorem dX12_isStallHere_46 : decode cX12_isStallHere 46 = .ok (.iload_n 2, 1) := by decide +kernel
theorem dX12_isStallHere_47 : decode cX12_isStallHere 47 = .ok (.iadd, 1) := by decide +kernel
theorem dX12_isStallHere_48 : decode cX12_isStallHere 48 = .ok (.iconst 1, 1) := by decide +kernel
theorem dX12_isStallHere_49 : decode cX12_isStallHere 49 = .ok (.bipush 40, 2) := by decide +kernel
theorem dX12_isStallHere_51 : decode cX12_isStallHere 51 = .ok (.invokevirtual 224, 3) := by decide +kernel
theorem dX12_isStallHere_54 : decode cX12_isStallHere 54 = .ok (.ifCond .eq 17, 3) := by decide +kernel
theorem dX12_isStallHere_57 : decode cX12_isStallHere 57 = .ok (.aload_n 0, 1) := by decide +kernel
theorem dX12_isStallHere_58 : decode cX12_isStallHere 58 = .ok (.bipush 89, 2) := by decide +kernel
theorem dX12_isStallHere_60 : decode cX12_isStallHere 60 = .ok (.iload_n 2, 1) := by decide +kernel
theorem dX12_isStallHere_61 : decode cX12_isStallHere 61 = .ok (.iadd, 1) := by decide +kernel
theorem dX12_isStallHere_62 : decode cX12_isStallHere 62 = .ok (.iconst 0, 1) := by decide +kernel
theorem dX12_isStallHere_63 : decode cX12_isStallHere 63 = .ok (.bipush 20, 2) := by decide +kernel
theorem dX12_isStallHere_65 : decode cX12_isStallHere 65 = .ok (.invokevirtual 224, 3) := by decide +kernel
theorem dX12_isStallHere_68 : decode cX12_isStallHere 68 = .ok (.ifCond .ne 5, 3) := by decide +kernel
theorem dX12_isStallHere_71 : decode cX12_isStallHere 71 = .ok (.iconst 0, 1) := by decide +kernel
theorem dX12_isStallHere_72 : decode cX12_isStallHere 72 = .ok (.ireturn, 1) := by decide +kernel
theorem dX12_isStallHere_73 : decode cX12_isStallHere 73 = .ok (.aload_n 0, 1) := by decide +kernel
theorem dX12_isStallHere_74 : decode cX12_isStallHere 74 = .ok (.getfield 26, 3) := by decide +kernel
theorem dX12_isStallHere_77 : decode cX12_isStallHere 77 = .ok (.iconst 3, 1) := by decide +kernel
theorem dX12_isStallHere_78 : decode cX12_isStallHere 78 = .ok (.dup2, 1) := by decide +kernel
theorem dX12_isStallHere_79 : decode cX12_isStallHere 79 = .ok (.iaload, 1) := by decide +kernel
theorem dX12_isStallHere_80 : decode cX12_isStallHere 80 = .ok (.iconst 1, 1) := by decide +kernel
theorem dX12_isStallHere_81 : decode cX12_isStallHere 81 = .ok (.iadd, 1) := by decide +kernel
theorem dX12_isStallHere_82 : decode cX12_isStallHere 82 = .ok (.iastore, 1) := by decide +kernel
theorem dX12_isStallHere_83 : decode cX12_isStallHere 83 = .ok (.iconst 1, 1) := by decide +kernel
theorem dX12_isStallHere_84 : decode cX12_isStallHere 84 = .ok (.ireturn, 1) := by decide +kernel
abbrev Mm_isStallHere : rx_M := (RX12, yX12_isStallHere, cX12_isStallHere, 3, (some .boolean), 4)
theorem km_isStallHere : rKv Mm_isStallHere 1 := ⟨tb_in (i := 21) (j := 22) rfl rfl, tb_in (i := 21) (j := 23) rfl rfl, tb_in (i := 17) (j := 21) rfl rfl, tb_in (i := 21) (j := 14) rfl rfl, ⟨by decide, by decide, by decide +kernel⟩, by decide⟩
def m_isStallHere (x1 : Int32) (z_tape : Nat → Int32) (z_taped : Int32) (z_read : Nat → Int32) (z_next : Int32) (z_wrong : Int32) (z_number : Int32) : Option (Int32 × (Nat → Int32) × Int32 × Int32 × Int32) := rq (inb (3 : Int32) 125) ((if (z_read (3 : Int32).toNatClampNeg) = (6 : Int32) then (m_fails (4 : Int32) x1 z_wrong).bind (fun q14 => rq (bo q14.1) (some (q14.1, z_read, z_next, q14.2, z_number))) else (m_passWord z_tape z_taped z_next).bind (fun q3 => rq (inb (3 : Int32) 125) (lt (z_read (3 : Int32).toNatClampNeg) (fun y5 => (m_cellHere ((101 : Int32) + y5) (0 : Int32) (20 : Int32) z_tape z_taped z_read q3 z_wrong z_number).bind (fun q6 => (if q6.1 = 0 then some ((0 : Int32), q6.2.1, q6.2.2.1, q6.2.2.2.1, q6.2.2.2.2) else (m_cellHere ((107 : Int32) + y5) (1 : Int32) (40 : Int32) z_tape z_taped q6.2.1 q6.2.2.1 q6.2.2.2.1 q6.2.2.2.2).bind (fun q8 => (if q8.1 = 0 then some ((0 : Int32), q8.2.1, q8.2.2.1, q8.2.2.2.1, q8.2.2.2.2) else (m_cellHere ((89 : Int32) + y5) (0 : Int32) (20 : Int32) z_tape z_taped q8.2.1 q8.2.2.1 q8.2.2.2.1 q8.2.2.2.2).bind (fun q10 => (if q10.1 = 0 then some ((0 : Int32), q10.2.1, q10.2.2.1, q10.2.2.2.1, q10.2.2.2.2) else rq (inb (3 : Int32) 125) (rq (inb (3 : Int32) 125) (lt (upd q10.2.1 (3 : Int32).toNatClampNeg ((q10.2.1 (3 : Int32).toNatClampNeg) + (1 : Int32))) (fun u13 => some ((1 : Int32), u13, q10.2.2.1, q10.2.2.2.1, q10.2.2.2.2)))))))))))))))
set_option maxRecDepth 20000 in
theorem cm_isStallHere {q : Int32 × (Nat → Int32) × Int32 × Int32 × Int32} {x1 : Int32} (h : m_isStallHere x1 z_tape z_taped z_read z_next z_wrong z_number = some q) : rMet l D Z (ty7 K) Mm_isStallHere [.ref (ad 0), .int x1] (wM K ad z_tape z_taped z_rules z_sign z_length z_clause z_clauses z_read z_next z_wrong z_number z_text z_made z_deep z_lines z_open z_opened z_stack z_top z_word z_said z_force z_x z_absent z_isRaining z_wasSaid z_undone z_kept z_order z_bestOrder z_hasBy z_wealthThen z_isFit z_tillThen z_drawX z_images z_imageForce z_imageX z_isMade) (wM K ad z_tape z_taped z_rules z_sign z_length z_clause z_clauses q.2.1 q.2.2.1 q.2.2.2.1 q.2.2.2.2 z_text z_made z_deep z_lines z_open z_opened z_stack z_top z_word z_said z_force z_x z_absent z_isRaining z_wasSaid z_undone z_kept z_order z_bestOrder z_hasBy z_wealthThen z_isFit z_tillThen z_drawX z_images z_imageForce z_imageX z_isMade) (some (.int q.1)) := by
  refine rMet.of (by decide) rfl (Nat.le_of_ble_eq_true rfl) ?_
  refine r_sub (lv' := [(0, .ref (ad 0)), (1, .int x1)]) [0, 1] rfl ?_
  unfold m_isStallHere at h
  refine r_aload_n 0 dX12_isStallHere_0 rfl ?_
  refine gM_read rfl dX12_isStallHere_1 ?_
  refine r_iconst (x := (3 : Int32)) dX12_isStallHere_4 (by decide) ?_
  obtain ⟨h1, h⟩ := rq_some h
  refine lM_read (inb_in h1) dX12_isStallHere_5 ?_
  refine r_bipush (x := (6 : Int32)) dX12_isStallHere_6 (by decide) ?_
  refine r_icmp_ne 18 dX12_isStallHere_8 (by decide) (fun c2 => ?_) (fun c2 => ?_)
  · replace h := it_neg c2 h
    refine r_aload_n 0 dX12_isStallHere_18 rfl ?_
    obtain ⟨q3, h3, h⟩ := bd_some h
    refine cvM (st := []) (cm_passWord h3) rfl rfl (Nat.le_of_ble_eq_true rfl) km_passWord (tb_in (i := 18) (j := 9) rfl rfl) (by decide) rfl dX12_isStallHere_19 ?_
    refine r_aload_n 0 dX12_isStallHere_22 rfl ?_
    refine gM_read rfl dX12_isStallHere_23 ?_
    refine r_iconst (x := (3 : Int32)) dX12_isStallHere_26 (by decide) ?_
    obtain ⟨h4, h⟩ := rq_some h
    refine lM_read (inb_in h4) dX12_isStallHere_27 ?_
    obtain ⟨y5, e5, h⟩ := lt_some h
    refine r_top e5 ?_
    refine r_istore_n (lv' := [(2, .int y5), (0, .ref (ad 0)), (1, .int x1)]) dX12_isStallHere_28 (by decide) rfl ?_
    refine r_aload_n 1 dX12_isStallHere_29 rfl ?_
    refine r_bipush (x := (101 : Int32)) dX12_isStallHere_30 (by decide) ?_
    refine r_iload_n 0 dX12_isStallHere_32 rfl ?_
    refine r_iadd dX12_isStallHere_33 ?_
    refine r_iconst (x := (0 : Int32)) dX12_isStallHere_34 (by decide) ?_
    refine r_bipush (x := (20 : Int32)) dX12_isStallHere_35 (by decide) ?_
    obtain ⟨q6, h6, h⟩ := bd_some h
    refine cvM (st := []) (cm_cellHere h6) rfl rfl (Nat.le_of_ble_eq_true rfl) km_cellHere (tb_in (i := 21) (j := 10) rfl rfl) (by decide) rfl dX12_isStallHere_37 ?_
    refine r_if_eq 71 dX12_isStallHere_40 (by decide) (fun c7 => ?_) (fun c7 => ?_)
    · replace h := it_pos c7 h
      refine r_iconst (x := (0 : Int32)) dX12_isStallHere_71 (by decide) ?_
      have hq := Option.some.inj h
      subst hq
      exact r_zret (ty := .boolean) rfl rfl dX12_isStallHere_72
    · replace h := it_neg c7 h
      refine r_aload_n 1 dX12_isStallHere_43 rfl ?_
      refine r_bipush (x := (107 : Int32)) dX12_isStallHere_44 (by decide) ?_
      refine r_iload_n 0 dX12_isStallHere_46 rfl ?_
      refine r_iadd dX12_isStallHere_47 ?_
      refine r_iconst (x := (1 : Int32)) dX12_isStallHere_48 (by decide) ?_
      refine r_bipush (x := (40 : Int32)) dX12_isStallHere_49 (by decide) ?_
      obtain ⟨q8, h8, h⟩ := bd_some h
      refine cvM (st := []) (cm_cellHere h8) rfl rfl (Nat.le_of_ble_eq_true rfl) km_cellHere (tb_in (i := 21) (j := 10) rfl rfl) (by decide) rfl dX12_isStallHere_51 ?_
      refine r_if_eq 71 dX12_isStallHere_54 (by decide) (fun c9 => ?_) (fun c9 => ?_)
      · replace h := it_pos c9 h
        refine r_iconst (x := (0 : Int32)) dX12_isStallHere_71 (by decide) ?_
        have hq := Option.some.inj h
        subst hq
        exact r_zret (ty := .boolean) rfl rfl dX12_isStallHere_72
      · replace h := it_neg c9 h
        refine r_aload_n 1 dX12_isStallHere_57 rfl ?_
        refine r_bipush (x := (89 : Int32)) dX12_isStallHere_58 (by decide) ?_
        refine r_iload_n 0 dX12_isStallHere_60 rfl ?_
        refine r_iadd dX12_isStallHere_61 ?_
        refine r_iconst (x := (0 : Int32)) dX12_isStallHere_62 (by decide) ?_
        refine r_bipush (x := (20 : Int32)) dX12_isStallHere_63 (by decide) ?_
        obtain ⟨q10, h10, h⟩ := bd_some h
        refine cvM (st := []) (cm_cellHere h10) rfl rfl (Nat.le_of_ble_eq_true rfl) km_cellHere (tb_in (i := 21) (j := 10) rfl rfl) (by decide) rfl dX12_isStallHere_65 ?_
        refine r_if_ne 73 dX12_isStallHere_68 (by decide) (fun c11 => ?_) (fun c11 => ?_)
        · replace h := it_neg c11 h
          refine r_aload_n 1 dX12_isStallHere_73 rfl ?_
          refine gM_read rfl dX12_isStallHere_74 ?_
          refine r_iconst (x := (3 : Int32)) dX12_isStallHere_77 (by decide) ?_
          refine r_dup2 dX12_isStallHere_78 rfl rfl ?_
          obtain ⟨h12, h⟩ := rq_some h
          refine lM_read (inb_in h12) dX12_isStallHere_79 ?_
          refine r_iconst (x := (1 : Int32)) dX12_isStallHere_80 (by decide) ?_
          refine r_iadd dX12_isStallHere_81 ?_
          obtain ⟨h13, h⟩ := rq_some h
          obtain ⟨u13, e13, h⟩ := lt_some h
          refine sM_read e13 (inb_in h13) dX12_isStallHere_82 ?_
          refine r_iconst (x := (1 : Int32)) dX12_isStallHere_83 (by decide) ?_
          have hq := Option.some.inj h
          subst hq
          exact r_zret (ty := .boolean) rfl rfl dX12_isStallHere_84
        · replace h := it_pos c11 h
          refine r_iconst (x := (0 : Int32)) dX12_isStallHere_71 (by decide) ?_
          have hq := Option.some.inj h
          subst hq
          exact r_zret (ty := .boolean) rfl rfl dX12_isStallHere_72
  · replace h := it_pos c2 h
    refine r_aload_n 0 dX12_isStallHere_11 rfl ?_
    refine r_iconst (x := (4 : Int32)) dX12_isStallHere_12 (by decide) ?_
    refine r_iload_n 1 dX12_isStallHere_13 rfl ?_
    obtain ⟨q14, h14, h⟩ := bd_some h
    refine cvM (st := []) (cm_fails h14) rfl rfl (Nat.le_of_ble_eq_true rfl) km_fails (tb_in (i := 18) (j := 17) rfl rfl) (by decide) rfl dX12_isStallHere_14 ?_
    obtain ⟨h15, h⟩ := rq_some h
    have hq := Option.some.inj h
    subst hq
    exact r_zret (ty := .boolean) rfl (bo_nar h15) dX12_isStallHere_17
theorem dX12_isGrudgeHere_0 : decode cX12_isGrudgeHere 0 = .ok (.aload_n 0, 1) := by decide +kernel
theorem dX12_isGrudgeHere_1 : decode cX12_isGrudgeHere 1 = .ok (.invokevirtual 111, 3) := by decide +kernel
theorem dX12_isGrudgeHere_4 : decode cX12_isGrudgeHere 4 = .ok (.aload_n 0, 1) := by decide +kernel
theorem dX12_isGrudgeHere_5 : decode cX12_isGrudgeHere 5 = .ok (.iconst 0, 1) := by decide +kernel
theorem dX12_isGrudgeHere_6 : decode cX12_isGrudgeHere 6 = .ok (.aload_n 0, 1) := by decide +kernel
theorem dX12_isGrudgeHere_7 : decode cX12_isGrudgeHere 7 = .ok (.getfield 26, 3) := by decide +kernel
theorem dX12_isGrudgeHere_10 : decode cX12_isGrudgeHere 10 = .ok (.iconst 3, 1) := by decide +kernel
theorem dX12_isGrudgeHere_11 : decode cX12_isGrudgeHere 11 = .ok (.iaload, 1) := by decide +kernel
theorem dX12_isGrudgeHere_12 : decode cX12_isGrudgeHere 12 = .ok (.iconst 1, 1) := by decide +kernel
theorem dX12_isGrudgeHere_13 : decode cX12_isGrudgeHere 13 = .ok (.isub, 1) := by decide +kernel
theorem dX12_isGrudgeHere_14 : decode cX12_isGrudgeHere 14 = .ok (.invokevirtual 173, 3) := by decide +kernel
theorem dX12_isGrudgeHere_17 : decode cX12_isGrudgeHere 17 = .ok (.ifCond .ne 5, 3) := by decide +kernel
theorem dX12_isGrudgeHere_20 : decode cX12_isGrudgeHere 20 = .ok (.iconst 0, 1) := by decide +kernel
theorem dX12_isGrudgeHere_21 : decode cX12_isGrudgeHere 21 = .ok (.ireturn, 1) := by decide +kernel
theorem dX12_isGrudgeHere_22 : decode cX12_isGrudgeHere 22 = .ok (.aload_n 0, 1) := by decide +kernel
theorem dX12_isGrudgeHere_23 : decode cX12_isGrudgeHere 23 = .ok (.getfield 121, 3) := by decide +kernel
theorem dX12_isGrudgeHere_26 : decode cX12_isGrudgeHere 26 = .ok (.istore_n 1, 1) := by decide +kernel
theorem dX12_isGrudgeHere_27 : decode cX12_isGrudgeHere 27 = .ok (.aload_n 0, 1) := by decide +kernel
theorem dX12_isGrudgeHere_28 : decode cX12_isGrudgeHere 28 = .ok (.invokevirtual 99, 3) := by decide +kernel
theorem dX12_isGrudgeHere_31 : decode cX12_isGrudgeHere 31 = .ok (.pop, 1) := by decide +kernel
theorem dX12_isGrudgeHere_32 : decode cX12_isGrudgeHere 32 = .ok (.aload_n 0, 1) := by decide +kernel
theorem dX12_isGrudgeHere_33 : decode cX12_isGrudgeHere 33 = .ok (.getfield 96, 3) := by decide +kernel
theorem dX12_isGrudgeHere_36 : decode cX12_isGrudgeHere 36 = .ok (.istore_n 2, 1) := by decide +kernel
theorem dX12_isGrudgeHere_37 : decode cX12_isGrudgeHere 37 = .ok (.aload_n 0, 1) := by decide +kernel
theorem dX12_isGrudgeHere_38 : decode cX12_isGrudgeHere 38 = .ok (.iconst 0, 1) := by decide +kernel
theorem dX12_isGrudgeHere_39 : decode cX12_isGrudgeHere 39 = .ok (.aload_n 0, 1) := by decide +kernel
theorem dX12_isGrudgeHere_40 : decode cX12_isGrudgeHere 40 = .ok (.getfield 26, 3) := by decide +kernel
theorem dX12_isGrudgeHere_43 : decode cX12_isGrudgeHere 43 = .ok (.iconst 3, 1) := by decide +kernel
theorem dX12_isGrudgeHere_44 : decode cX12_isGrudgeHere 44 = .ok (.iaload, 1) := by decide +kernel
theorem dX12_isGrudgeHere_45 : decode cX12_isGrudgeHere 45 = .ok (.iconst 1, 1) := by decide +kernel
theorem dX12_isGrudgeHere_46 : decode cX12_isGrudgeHere 46 = .ok (.isub, 1) := by decide +kernel
theorem dX12_isGrudgeHere_47 : decode cX12_isGrudgeHere 47 = .ok (.invokevirtual 173, 3) := by decide +kernel
theorem dX12_isGrudgeHere_50 : decode cX12_isGrudgeHere 50 = .ok (.ifCond .ne 5, 3) := by decide +kernel
theorem dX12_isGrudgeHere_53 : decode cX12_isGrudgeHere 53 = .ok (.iconst 0, 1) := by decide +kernel
theorem dX12_isGrudgeHere_54 : decode cX12_isGrudgeHere 54 = .ok (.ireturn, 1) := by decide +kernel
theorem dX12_isGrudgeHere_55 : decode cX12_isGrudgeHere 55 = .ok (.iload_n 1, 1) := by decide +kernel
theorem dX12_isGrudgeHere_56 : decode cX12_isGrudgeHere 56 = .ok (.aload_n 0, 1) := by decide +kernel
theorem dX12_isGrudgeHere_57 : decode cX12_isGrudgeHere 57 = .ok (.getfield 121, 3) := by decide +kernel
theorem dX12_isGrudgeHere_60 : decode cX12_isGrudgeHere 60 = .ok (.if_icmp .ne 10, 3) := by decide +kernel
theorem dX12_isGrudgeHere_63 : decode cX12_isGrudgeHere 63 = .ok (.aload_n 0, 1) := by decide +kernel
theorem dX12_isGrudgeHere_64 : decode cX12_isGrudgeHere 64 = .ok (.iconst 1, 1) := by decide +kernel
theorem dX12_isGrudgeHere_65 : decode cX12_isGrudgeHere 65 = .ok (.iload_n 2, 1) := by decide +kernel
theorem dX12_isGrudgeHere_66 : decode cX12_isGrudgeHere 66 = .ok (.invokevirtual 117, 3) := by decide +kernel
theorem dX12_isGrudgeHere_69 : decode cX12_isGrudgeHere 69 = .ok (.ireturn, 1) := by decide +kernel
theorem dX12_isGrudgeHere_70 : decode cX12_isGrudgeHere 70 = .ok (.aload_n 0, 1) := by decide +kernel
theorem dX12_isGrudgeHere_71 : decode cX12_isGrudgeHere 71 = .ok (.getfield 26, 3) := by decide +kernel
theorem dX12_isGrudgeHere_74 : decode cX12_isGrudgeHere 74 = .ok (.bipush 113, 2) := by decide +kernel
theorem dX12_isGrudgeHere_76 : decode cX12_isGrudgeHere 76 = .ok (.iload_n 1, 1) := by decide +kernel
theorem dX12_isGrudgeHere_77 : decode cX12_isGrudgeHere 77 = .ok (.iadd, 1) := by decide +kernel
theorem dX12_isGrudgeHere_78 : decode cX12_isGrudgeHere 78 = .ok (.dup2, 1) := by decide +kernel
theorem dX12_isGrudgeHere_79 : decode cX12_isGrudgeHere 79 = .ok (.iaload, 1) := by decide +kernel
theorem dX12_isGrudgeHere_80 : decode cX12_isGrudgeHere 80 = .ok (.iconst 1, 1) := by decide +kernel
theorem dX12_isGrudgeHere_81 : decode cX12_isGrudgeHere 81 = .ok (.aload_n 0, 1) := by decide +kernel
theorem dX12_isGrudgeHere_82 : decode cX12_isGrudgeHere 82 = .ok (.getfield 121, 3) := by decide +kernel
theorem dX12_isGrudgeHere_85 : decode cX12_isGrudgeHere 85 = .ok (.ishl, 1) := by decide +kernel
theorem dX12_isGrudgeHere_86 : decode cX12_isGrudgeHere 86 = .ok (.ior, 1) := by decide +kernel
theorem dX12_isGrudgeHere_87 : decode cX12_isGrudgeHere 87 = .ok (.iastore, 1) := by decide +kernel
theorem dX12_isGrudgeHere_88 : decode cX12_isGrudgeHere 88 = .ok (.iconst 1, 1) := by decide +kernel
theorem dX12_isGrudgeHere_89 : decode cX12_isGrudgeHere 89 = .ok (.ireturn, 1) := by decide +kernel
abbrev Mm_isGrudgeHere : rx_M := (RX12, yX12_isGrudgeHere, cX12_isGrudgeHere, 3, (some .boolean), 3)
theorem km_isGrudgeHere : rKv Mm_isGrudgeHere 0 := ⟨tb_in (i := 21) (j := 25) rfl rfl, tb_in (i := 21) (j := 26) rfl rfl, tb_in (i := 17) (j := 21) rfl rfl, tb_in (i := 21) (j := 15) rfl rfl, ⟨by decide, by decide, by decide +kernel⟩, by decide⟩
def m_isGrudgeHere (z_tape : Nat → Int32) (z_taped : Int32) (z_read : Nat → Int32) (z_next : Int32) (z_wrong : Int32) (z_number : Int32) : Option (Int32 × (Nat → Int32) × Int32 × Int32 × Int32) := (m_passWord z_tape z_taped z_next).bind (fun q1 => rq (inb (3 : Int32) 125) ((m_numberHere (0 : Int32) ((z_read (3 : Int32).toNatClampNeg) - (1 : Int32)) z_tape z_taped q1 z_wrong z_number).bind (fun q3 => (if q3.1 = 0 then some ((0 : Int32), z_read, q3.2.1, q3.2.2.1, q3.2.2.2) else (m_see z_tape z_taped q3.2.1).bind (fun q5 => rq (inb (3 : Int32) 125) ((m_numberHere (0 : Int32) ((z_read (3 : Int32).toNatClampNeg) - (1 : Int32)) z_tape z_taped q5.2 q3.2.2.1 q3.2.2.2).bind (fun q7 => (if q7.1 = 0 then some ((0 : Int32), z_read, q7.2.1, q7.2.2.1, q7.2.2.2) else (if q3.2.2.2 = q7.2.2.2 then (m_fails (1 : Int32) q5.2 q7.2.2.1).bind (fun q13 => rq (bo q13.1) (some (q13.1, z_read, q7.2.1, q13.2, q7.2.2.2))) else lt ((113 : Int32) + q3.2.2.2) (fun y10 => rq (inb y10 125) (rq (inb y10 125) (lt (upd z_read y10.toNatClampNeg ((z_read y10.toNatClampNeg) ||| ((1 : Int32) <<< (q7.2.2.2 &&& 31)))) (fun u12 => some ((1 : Int32), u12, q7.2.1, q7.2.2.1, q7.2.2.2))))))))))))))
set_option maxRecDepth 20000 in
theorem cm_isGrudgeHere {q : Int32 × (Nat → Int32) × Int32 × Int32 × Int32}  (h : m_isGrudgeHere z_tape z_taped z_read z_next z_wrong z_number = some q) : rMet l D Z (ty7 K) Mm_isGrudgeHere [.ref (ad 0)] (wM K ad z_tape z_taped z_rules z_sign z_length z_clause z_clauses z_read z_next z_wrong z_number z_text z_made z_deep z_lines z_open z_opened z_stack z_top z_word z_said z_force z_x z_absent z_isRaining z_wasSaid z_undone z_kept z_order z_bestOrder z_hasBy z_wealthThen z_isFit z_tillThen z_drawX z_images z_imageForce z_imageX z_isMade) (wM K ad z_tape z_taped z_rules z_sign z_length z_clause z_clauses q.2.1 q.2.2.1 q.2.2.2.1 q.2.2.2.2 z_text z_made z_deep z_lines z_open z_opened z_stack z_top z_word z_said z_force z_x z_absent z_isRaining z_wasSaid z_undone z_kept z_order z_bestOrder z_hasBy z_wealthThen z_isFit z_tillThen z_drawX z_images z_imageForce z_imageX z_isMade) (some (.int q.1)) := by
  refine rMet.of (by decide) rfl (Nat.le_of_ble_eq_true rfl) ?_
  refine r_sub (lv' := [(0, .ref (ad 0))]) [0] rfl ?_
  unfold m_isGrudgeHere at h
  refine r_aload_n 0 dX12_isGrudgeHere_0 rfl ?_
  obtain ⟨q1, h1, h⟩ := bd_some h
  refine cvM (st := []) (cm_passWord h1) rfl rfl (Nat.le_of_ble_eq_true rfl) km_passWord (tb_in (i := 18) (j := 9) rfl rfl) (by decide) rfl dX12_isGrudgeHere_1 ?_
  refine r_aload_n 0 dX12_isGrudgeHere_4 rfl ?_
  refine r_iconst (x := (0 : Int32)) dX12_isGrudgeHere_5 (by decide) ?_
  refine r_aload_n 0 dX12_isGrudgeHere_6 rfl ?_
  refine gM_read rfl dX12_isGrudgeHere_7 ?_
  refine r_iconst (x := (3 : Int32)) dX12_isGrudgeHere_10 (by decide) ?_
  obtain ⟨h2, h⟩ := rq_some h
  refine lM_read (inb_in h2) dX12_isGrudgeHere_11 ?_
  refine r_iconst (x := (1 : Int32)) dX12_isGrudgeHere_12 (by decide) ?_
  refine r_isub dX12_isGrudgeHere_13 ?_
  obtain ⟨q3, h3, h⟩ := bd_some h
  refine cvM (st := []) (cm_numberHere h3) rfl rfl (Nat.le_of_ble_eq_true rfl) km_numberHere (tb_in (i := 19) (j := 18) rfl rfl) (by decide) rfl dX12_isGrudgeHere_14 ?_
  refine r_if_ne 22 dX12_isGrudgeHere_17 (by decide) (fun c4 => ?_) (fun c4 => ?_)
  · replace h := it_neg c4 h
    refine r_aload_n 0 dX12_isGrudgeHere_22 rfl ?_
    refine gM_number rfl dX12_isGrudgeHere_23 ?_
    refine r_istore_n (lv' := [(1, .int q3.2.2.2), (0, .ref (ad 0))]) dX12_isGrudgeHere_26 (by decide) rfl ?_
    refine r_aload_n 1 dX12_isGrudgeHere_27 rfl ?_
    obtain ⟨q5, h5, h⟩ := bd_some h
    refine cvM (st := []) (cm_see h5) rfl rfl (Nat.le_of_ble_eq_true rfl) km_see (tb_in (i := 17) (j := 30) rfl rfl) (by decide) rfl dX12_isGrudgeHere_28 ?_
    refine r_pop dX12_isGrudgeHere_31 rfl ?_
    refine r_aload_n 1 dX12_isGrudgeHere_32 rfl ?_
    refine gM_next rfl dX12_isGrudgeHere_33 ?_
    refine r_istore_n (lv' := [(2, .int q5.2), (1, .int q3.2.2.2), (0, .ref (ad 0))]) dX12_isGrudgeHere_36 (by decide) rfl ?_
    refine r_aload_n 2 dX12_isGrudgeHere_37 rfl ?_
    refine r_iconst (x := (0 : Int32)) dX12_isGrudgeHere_38 (by decide) ?_
    refine r_aload_n 2 dX12_isGrudgeHere_39 rfl ?_
    refine gM_read rfl dX12_isGrudgeHere_40 ?_
    refine r_iconst (x := (3 : Int32)) dX12_isGrudgeHere_43 (by decide) ?_
    obtain ⟨h6, h⟩ := rq_some h
    refine lM_read (inb_in h6) dX12_isGrudgeHere_44 ?_
    refine r_iconst (x := (1 : Int32)) dX12_isGrudgeHere_45 (by decide) ?_
    refine r_isub dX12_isGrudgeHere_46 ?_
    obtain ⟨q7, h7, h⟩ := bd_some h
    refine cvM (st := []) (cm_numberHere h7) rfl rfl (Nat.le_of_ble_eq_true rfl) km_numberHere (tb_in (i := 19) (j := 18) rfl rfl) (by decide) rfl dX12_isGrudgeHere_47 ?_
    refine r_if_ne 55 dX12_isGrudgeHere_50 (by decide) (fun c8 => ?_) (fun c8 => ?_)
    · replace h := it_neg c8 h
      refine r_iload_n 1 dX12_isGrudgeHere_55 rfl ?_
      refine r_aload_n 2 dX12_isGrudgeHere_56 rfl ?_
      refine gM_number rfl dX12_isGrudgeHere_57 ?_
      refine r_icmp_ne 70 dX12_isGrudgeHere_60 (by decide) (fun c9 => ?_) (fun c9 => ?_)
      · replace h := it_neg c9 h
        refine r_aload_n 2 dX12_isGrudgeHere_70 rfl ?_
        refine gM_read rfl dX12_isGrudgeHere_71 ?_
        refine r_bipush (x := (113 : Int32)) dX12_isGrudgeHere_74 (by decide) ?_
        refine r_iload_n 1 dX12_isGrudgeHere_76 rfl ?_
        refine r_iadd dX12_isGrudgeHere_77 ?_
        obtain ⟨y10, e10, h⟩ := lt_some h
        refine r_top e10 ?_
        refine r_dup2 dX12_isGrudgeHere_78 rfl rfl ?_
        obtain ⟨h11, h⟩ := rq_some h
        refine lM_read (inb_in h11) dX12_isGrudgeHere_79 ?_
        refine r_iconst (x := (1 : Int32)) dX12_isGrudgeHere_80 (by decide) ?_
        refine r_aload_n 2 dX12_isGrudgeHere_81 rfl ?_
        refine gM_number rfl dX12_isGrudgeHere_82 ?_
        refine r_ishl dX12_isGrudgeHere_85 ?_
        refine r_ior dX12_isGrudgeHere_86 ?_
        obtain ⟨h12, h⟩ := rq_some h
        obtain ⟨u12, e12, h⟩ := lt_some h
        refine sM_read e12 (inb_in h12) dX12_isGrudgeHere_87 ?_
        refine r_iconst (x := (1 : Int32)) dX12_isGrudgeHere_88 (by decide) ?_
        have hq := Option.some.inj h
        subst hq
        exact r_zret (ty := .boolean) rfl rfl dX12_isGrudgeHere_89
      · replace h := it_pos c9 h
        refine r_aload_n 2 dX12_isGrudgeHere_63 rfl ?_
        refine r_iconst (x := (1 : Int32)) dX12_isGrudgeHere_64 (by decide) ?_
        refine r_iload_n 0 dX12_isGrudgeHere_65 rfl ?_
        obtain ⟨q13, h13, h⟩ := bd_some h
        refine cvM (st := []) (cm_fails h13) rfl rfl (Nat.le_of_ble_eq_true rfl) km_fails (tb_in (i := 18) (j := 17) rfl rfl) (by decide) rfl dX12_isGrudgeHere_66 ?_
        obtain ⟨h14, h⟩ := rq_some h
        have hq := Option.some.inj h
        subst hq
        exact r_zret (ty := .boolean) rfl (bo_nar h14) dX12_isGrudgeHere_69
    · replace h := it_pos c8 h
      refine r_iconst (x := (0 : Int32)) dX12_isGrudgeHere_53 (by decide) ?_
      have hq := Option.some.inj h
      subst hq
      exact r_zret (ty := .boolean) rfl rfl dX12_isGrudgeHere_54
  · replace h := it_pos c4 h
    refine r_iconst (x := (0 : Int32)) dX12_isGrudgeHere_20 (by decide) ?_
    have hq := Option.some.inj h
    subst hq
    exact r_zret (ty := .boolean) rfl rfl dX12_isGrudgeHere_21
theorem dX12_isBuyerHere_0 : decode cX12_isBuyerHere 0 = .ok (.aload_n 0, 1) := by decide +kernel
theorem dX12_isBuyerHere_1 : decode cX12_isBuyerHere 1 = .ok (.getfield 26, 3) := by decide +kernel
theorem dX12_isBuyerHere_4 : decode cX12_isBuyerHere 4 = .ok (.iconst 4, 1) := by decide +kernel
theorem dX12_isBuyerHere_5 : decode cX12_isBuyerHere 5 = .ok (.iaload, 1) := by decide +kernel
theorem dX12_isBuyerHere_6 : decode cX12_isBuyerHere 6 = .ok (.bipush 6, 2) := by decide +kernel
theorem dX12_isBuyerHere_8 : decode cX12_isBuyerHere 8 = .ok (.if_icmp .ne 10, 3) := by decide +kernel
theorem dX12_isBuyerHere_11 : decode cX12_isBuyerHere 11 = .ok (.aload_n 0, 1) := by decide +kernel
theorem dX12_isBuyerHere_12 : decode cX12_isBuyerHere 12 = .ok (.iconst 4, 1) := by decide +kernel
theorem dX12_isBuyerHere_13 : decode cX12_isBuyerHere 13 = .ok (.iload_n 1, 1) := by decide +kernel
theorem dX12_isBuyerHere_14 : decode cX12_isBuyerHere 14 = .ok (.invokevirtual 117, 3) := by decide +kernel
theorem dX12_isBuyerHere_17 : decode cX12_isBuyerHere 17 = .ok (.ireturn, 1) := by decide +kernel
theorem dX12_isBuyerHere_18 : decode cX12_isBuyerHere 18 = .ok (.aload_n 0, 1) := by decide +kernel
theorem dX12_isBuyerHere_19 : decode cX12_isBuyerHere 19 = .ok (.invokevirtual 111, 3) := by decide +kernel
theorem dX12_isBuyerHere_22 : decode cX12_isBuyerHere 22 = .ok (.aload_n 0, 1) := by decide +kernel
theorem dX12_isBuyerHere_23 : decode cX12_isBuyerHere 23 = .ok (.bipush 119, 2) := by decide +kernel
theorem dX12_isBuyerHere_25 : decode cX12_isBuyerHere 25 = .ok (.aload_n 0, 1) := by decide +kernel
theorem dX12_isBuyerHere_26 : decode cX12_isBuyerHere 26 = .ok (.getfield 26, 3) := by decide +kernel
theorem dX12_isBuyerHere_29 : decode cX12_isBuyerHere 29 = .ok (.iconst 4, 1) := by decide +kernel
theorem dX12_isBuyerHere_30 : decode cX12_isBuyerHere 30 = .ok (.iaload, 1) := by decide +kernel
theorem dX12_isBuyerHere_31 : decode cX12_isBuyerHere 31 = .ok (.iadd, 1) := by decide +kernel
theorem dX12_isBuyerHere_32 : decode cX12_isBuyerHere 32 = .ok (.iconst 0, 1) := by decide +kernel
theorem dX12_isBuyerHere_33 : decode cX12_isBuyerHere 33 = .ok (.bipush 99, 2) := by decide +kernel
theorem dX12_isBuyerHere_35 : decode cX12_isBuyerHere 35 = .ok (.invokevirtual 224, 3) := by decide +kernel
theorem dX12_isBuyerHere_38 : decode cX12_isBuyerHere 38 = .ok (.ifCond .eq 28, 3) := by decide +kernel
theorem dX12_isBuyerHere_41 : decode cX12_isBuyerHere 41 = .ok (.aload_n 0, 1) := by decide +kernel
theorem dX12_isBuyerHere_42 : decode cX12_isBuyerHere 42 = .ok (.bipush 95, 2) := by decide +kernel
theorem dX12_isBuyerHere_44 : decode cX12_isBuyerHere 44 = .ok (.aload_n 0, 1) := by decide +kernel
theorem dX12_isBuyerHere_45 : decode cX12_isBuyerHere 45 = .ok (.getfield 26, 3) := by decide +kernel
theorem dX12_isBuyerHere_48 : decode cX12_isBuyerHere 48 = .ok (.iconst 4, 1) := by decide +kernel
theorem dX12_isBuyerHere_49 : decode cX12_isBuyerHere 49 = .ok (.iaload, 1) := by decide +kernel
theorem dX12_isBuyerHere_50 : decode cX12_isBuyerHere 50 = .ok (.iadd, 1) := by decide +kernel
theorem dX12_isBuyerHere_51 : decode cX12_isBuyerHere 51 = .ok (.iconst 0, 1) := by decide +kernel
theorem dX12_isBuyerHere_52 : decode cX12_isBuyerHere 52 = .ok (.aload_n 0, 1) := by decide +kernel
theorem dX12_isBuyerHere_53 : decode cX12_isBuyerHere 53 = .ok (.getfield 26, 3) := by decide +kernel
theorem dX12_isBuyerHere_56 : decode cX12_isBuyerHere 56 = .ok (.iconst 3, 1) := by decide +kernel
theorem dX12_isBuyerHere_57 : decode cX12_isBuyerHere 57 = .ok (.iaload, 1) := by decide +kernel
theorem dX12_isBuyerHere_58 : decode cX12_isBuyerHere 58 = .ok (.iconst 1, 1) := by decide +kernel
theorem dX12_isBuyerHere_59 : decode cX12_isBuyerHere 59 = .ok (.isub, 1) := by decide +kernel
theorem dX12_isBuyerHere_60 : decode cX12_isBuyerHere 60 = .ok (.invokevirtual 224, 3) := by decide +kernel
theorem dX12_isBuyerHere_63 : decode cX12_isBuyerHere 63 = .ok (.ifCond .ne 5, 3) := by decide +kernel
theorem dX12_isBuyerHere_66 : decode cX12_isBuyerHere 66 = .ok (.iconst 0, 1) := by decide +kernel
theorem dX12_isBuyerHere_67 : decode cX12_isBuyerHere 67 = .ok (.ireturn, 1) := by decide +kernel
theorem dX12_isBuyerHere_68 : decode cX12_isBuyerHere 68 = .ok (.aload_n 0, 1) := by decide +kernel
theorem dX12_isBuyerHere_69 : decode cX12_isBuyerHere 69 = .ok (.getfield 26, 3) := by decide +kernel
theorem dX12_isBuyerHere_72 : decode cX12_isBuyerHere 72 = .ok (.iconst 4, 1) := by decide +kernel
theorem dX12_isBuyerHere_73 : decode cX12_isBuyerHere 73 = .ok (.dup2, 1) := by decide +kernel
theorem dX12_isBuyerHere_74 : decode cX12_isBuyerHere 74 = .ok (.iaload, 1) := by decide +kernel
theorem dX12_isBuyerHere_75 : decode cX12_isBuyerHere 75 = .ok (.iconst 1, 1) := by decide +kernel
theorem dX12_isBuyerHere_76 : decode cX12_isBuyerHere 76 = .ok (.iadd, 1) := by decide +kernel
theorem dX12_isBuyerHere_77 : decode cX12_isBuyerHere 77 = .ok (.iastore, 1) := by decide +kernel
theorem dX12_isBuyerHere_78 : decode cX12_isBuyerHere 78 = .ok (.iconst 1, 1) := by decide +kernel
theorem dX12_isBuyerHere_79 : decode cX12_isBuyerHere 79 = .ok (.ireturn, 1) := by decide +kernel
abbrev Mm_isBuyerHere : rx_M := (RX12, yX12_isBuyerHere, cX12_isBuyerHere, 2, (some .boolean), 4)
theorem km_isBuyerHere : rKv Mm_isBuyerHere 1 := ⟨tb_in (i := 21) (j := 28) rfl rfl, tb_in (i := 21) (j := 29) rfl rfl, tb_in (i := 17) (j := 21) rfl rfl, tb_in (i := 21) (j := 16) rfl rfl, ⟨by decide, by decide, by decide +kernel⟩, by decide⟩
def m_isBuyerHere (x1 : Int32) (z_tape : Nat → Int32) (z_taped : Int32) (z_read : Nat → Int32) (z_next : Int32) (z_wrong : Int32) (z_number : Int32) : Option (Int32 × (Nat → Int32) × Int32 × Int32 × Int32) := rq (inb (4 : Int32) 125) ((if (z_read (4 : Int32).toNatClampNeg) = (6 : Int32) then (m_fails (4 : Int32) x1 z_wrong).bind (fun q13 => rq (bo q13.1) (some (q13.1, z_read, z_next, q13.2, z_number))) else (m_passWord z_tape z_taped z_next).bind (fun q3 => rq (inb (4 : Int32) 125) ((m_cellHere ((119 : Int32) + (z_read (4 : Int32).toNatClampNeg)) (0 : Int32) (99 : Int32) z_tape z_taped z_read q3 z_wrong z_number).bind (fun q5 => (if q5.1 = 0 then some ((0 : Int32), q5.2.1, q5.2.2.1, q5.2.2.2.1, q5.2.2.2.2) else rq (inb (4 : Int32) 125) (rq (inb (3 : Int32) 125) ((m_cellHere ((95 : Int32) + (q5.2.1 (4 : Int32).toNatClampNeg)) (0 : Int32) ((q5.2.1 (3 : Int32).toNatClampNeg) - (1 : Int32)) z_tape z_taped q5.2.1 q5.2.2.1 q5.2.2.2.1 q5.2.2.2.2).bind (fun q9 => (if q9.1 = 0 then some ((0 : Int32), q9.2.1, q9.2.2.1, q9.2.2.2.1, q9.2.2.2.2) else rq (inb (4 : Int32) 125) (rq (inb (4 : Int32) 125) (lt (upd q9.2.1 (4 : Int32).toNatClampNeg ((q9.2.1 (4 : Int32).toNatClampNeg) + (1 : Int32))) (fun u12 => some ((1 : Int32), u12, q9.2.2.1, q9.2.2.2.1, q9.2.2.2.2))))))))))))))
set_option maxRecDepth 20000 in
theorem cm_isBuyerHere {q : Int32 × (Nat → Int32) × Int32 × Int32 × Int32} {x1 : Int32} (h : m_isBuyerHere x1 z_tape z_taped z_read z_next z_wrong z_number = some q) : rMet l D Z (ty7 K) Mm_isBuyerHere [.ref (ad 0), .int x1] (wM K ad z_tape z_taped z_rules z_sign z_length z_clause z_clauses z_read z_next z_wrong z_number z_text z_made z_deep z_lines z_open z_opened z_stack z_top z_word z_said z_force z_x z_absent z_isRaining z_wasSaid z_undone z_kept z_order z_bestOrder z_hasBy z_wealthThen z_isFit z_tillThen z_drawX z_images z_imageForce z_imageX z_isMade) (wM K ad z_tape z_taped z_rules z_sign z_length z_clause z_clauses q.2.1 q.2.2.1 q.2.2.2.1 q.2.2.2.2 z_text z_made z_deep z_lines z_open z_opened z_stack z_top z_word z_said z_force z_x z_absent z_isRaining z_wasSaid z_undone z_kept z_order z_bestOrder z_hasBy z_wealthThen z_isFit z_tillThen z_drawX z_images z_imageForce z_imageX z_isMade) (some (.int q.1)) := by
  refine rMet.of (by decide) rfl (Nat.le_of_ble_eq_true rfl) ?_
  refine r_sub (lv' := [(0, .ref (ad 0)), (1, .int x1)]) [0, 1] rfl ?_
  unfold m_isBuyerHere at h
  refine r_aload_n 0 dX12_isBuyerHere_0 rfl ?_
  refine gM_read rfl dX12_isBuyerHere_1 ?_
  refine r_iconst (x := (4 : Int32)) dX12_isBuyerHere_4 (by decide) ?_
  obtain ⟨h1, h⟩ := rq_some h
  refine lM_read (inb_in h1) dX12_isBuyerHere_5 ?_
  refine r_bipush (x := (6 : Int32)) dX12_isBuyerHere_6 (by decide) ?_
  refine r_icmp_ne 18 dX12_isBuyerHere_8 (by decide) (fun c2 => ?_) (fun c2 => ?_)
  · replace h := it_neg c2 h
    refine r_aload_n 0 dX12_isBuyerHere_18 rfl ?_
    obtain ⟨q3, h3, h⟩ := bd_some h
    refine cvM (st := []) (cm_passWord h3) rfl rfl (Nat.le_of_ble_eq_true rfl) km_passWord (tb_in (i := 18) (j := 9) rfl rfl) (by decide) rfl dX12_isBuyerHere_19 ?_
    refine r_aload_n 0 dX12_isBuyerHere_22 rfl ?_
    refine r_bipush (x := (119 : Int32)) dX12_isBuyerHere_23 (by decide) ?_
    refine r_aload_n 0 dX12_isBuyerHere_25 rfl ?_
    refine gM_read rfl dX12_isBuyerHere_26 ?_
    refine r_iconst (x := (4 : Int32)) dX12_isBuyerHere_29 (by decide) ?_
    obtain ⟨h4, h⟩ := rq_some h
    refine lM_read (inb_in h4) dX12_isBuyerHere_30 ?_
    refine r_iadd dX12_isBuyerHere_31 ?_
    refine r_iconst (x := (0 : Int32)) dX12_isBuyerHere_32 (by decide) ?_
    refine r_bipush (x := (99 : Int32)) dX12_isBuyerHere_33 (by decide) ?_
    obtain ⟨q5, h5, h⟩ := bd_some h
    refine cvM (st := []) (cm_cellHere h5) rfl rfl (Nat.le_of_ble_eq_true rfl) km_cellHere (tb_in (i := 21) (j := 10) rfl rfl) (by decide) rfl dX12_isBuyerHere_35 ?_
    refine r_if_eq 66 dX12_isBuyerHere_38 (by decide) (fun c6 => ?_) (fun c6 => ?_)
    · replace h := it_pos c6 h
      refine r_iconst (x := (0 : Int32)) dX12_isBuyerHere_66 (by decide) ?_
      have hq := Option.some.inj h
      subst hq
      exact r_zret (ty := .boolean) rfl rfl dX12_isBuyerHere_67
    · replace h := it_neg c6 h
      refine r_aload_n 0 dX12_isBuyerHere_41 rfl ?_
      refine r_bipush (x := (95 : Int32)) dX12_isBuyerHere_42 (by decide) ?_
      refine r_aload_n 0 dX12_isBuyerHere_44 rfl ?_
      refine gM_read rfl dX12_isBuyerHere_45 ?_
      refine r_iconst (x := (4 : Int32)) dX12_isBuyerHere_48 (by decide) ?_
      obtain ⟨h7, h⟩ := rq_some h
      refine lM_read (inb_in h7) dX12_isBuyerHere_49 ?_
      refine r_iadd dX12_isBuyerHere_50 ?_
      refine r_iconst (x := (0 : Int32)) dX12_isBuyerHere_51 (by decide) ?_
      refine r_aload_n 0 dX12_isBuyerHere_52 rfl ?_
      refine gM_read rfl dX12_isBuyerHere_53 ?_
      refine r_iconst (x := (3 : Int32)) dX12_isBuyerHere_56 (by decide) ?_
      obtain ⟨h8, h⟩ := rq_some h
      refine lM_read (inb_in h8) dX12_isBuyerHere_57 ?_
      refine r_iconst (x := (1 : Int32)) dX12_isBuyerHere_58 (by decide) ?_
      refine r_isub dX12_isBuyerHere_59 ?_
      obtain ⟨q9, h9, h⟩ := bd_some h
      refine cvM (st := []) (cm_cellHere h9) rfl rfl (Nat.le_of_ble_eq_true rfl) km_cellHere (tb_in (i := 21) (j := 10) rfl rfl) (by decide) rfl dX12_isBuyerHere_60 ?_
      refine r_if_ne 68 dX12_isBuyerHere_63 (by decide) (fun c10 => ?_) (fun c10 => ?_)
      · replace h := it_neg c10 h
        refine r_aload_n 0 dX12_isBuyerHere_68 rfl ?_
        refine gM_read rfl dX12_isBuyerHere_69 ?_
        refine r_iconst (x := (4 : Int32)) dX12_isBuyerHere_72 (by decide) ?_
        refine r_dup2 dX12_isBuyerHere_73 rfl rfl ?_
        obtain ⟨h11, h⟩ := rq_some h
        refine lM_read (inb_in h11) dX12_isBuyerHere_74 ?_
        refine r_iconst (x := (1 : Int32)) dX12_isBuyerHere_75 (by decide) ?_
        refine r_iadd dX12_isBuyerHere_76 ?_
        obtain ⟨h12, h⟩ := rq_some h
        obtain ⟨u12, e12, h⟩ := lt_some h
        refine sM_read e12 (inb_in h12) dX12_isBuyerHere_77 ?_
        refine r_iconst (x := (1 : Int32)) dX12_isBuyerHere_78 (by decide) ?_
        have hq := Option.some.inj h
        subst hq
        exact r_zret (ty := .boolean) rfl rfl dX12_isBuyerHere_79
      · replace h := it_pos c10 h
        refine r_iconst (x := (0 : Int32)) dX12_isBuyerHere_66 (by decide) ?_
        have hq := Option.some.inj h
        subst hq
        exact r_zret (ty := .boolean) rfl rfl dX12_isBuyerHere_67
  · replace h := it_pos c2 h
    refine r_aload_n 0 dX12_isBuyerHere_11 rfl ?_
    refine r_iconst (x := (4 : Int32)) dX12_isBuyerHere_12 (by decide) ?_
    refine r_iload_n 1 dX12_isBuyerHere_13 rfl ?_
    obtain ⟨q13, h13, h⟩ := bd_some h
    refine cvM (st := []) (cm_fails h13) rfl rfl (Nat.le_of_ble_eq_true rfl) km_fails (tb_in (i := 18) (j := 17) rfl rfl) (by decide) rfl dX12_isBuyerHere_14 ?_
    obtain ⟨h14, h⟩ := rq_some h
    have hq := Option.some.inj h
    subst hq
    exact r_zret (ty := .boolean) rfl (bo_nar h14) dX12_isBuyerHere_17
theorem dX12_fairLineHere_0 : decode cX12_fairLineHere 0 = .ok (.aload_n 0, 1) := by decide +kernel
theorem dX12_fairLineHere_1 : decode cX12_fairLineHere 1 = .ok (.ldc2_w 228, 3) := by decide +kernel
theorem dX12_fairLineHere_4 : decode cX12_fairLineHere 4 = .ok (.invokevirtual 107, 3) := by decide +kernel
theorem dX12_fairLineHere_7 : decode cX12_fairLineHere 7 = .ok (.ifCond .eq 9, 3) := by decide +kernel
theorem dX12_fairLineHere_10 : decode cX12_fairLineHere 10 = .ok (.aload_n 0, 1) := by decide +kernel
theorem dX12_fairLineHere_11 : decode cX12_fairLineHere 11 = .ok (.iload_n 1, 1) := by decide +kernel
theorem dX12_fairLineHere_12 : decode cX12_fairLineHere 12 = .ok (.invokevirtual 230, 3) := by decide +kernel
theorem dX12_fairLineHere_15 : decode cX12_fairLineHere 15 = .ok (.ireturn, 1) := by decide +kernel
theorem dX12_fairLineHere_16 : decode cX12_fairLineHere 16 = .ok (.aload_n 0, 1) := by decide +kernel
theorem dX12_fairLineHere_17 : decode cX12_fairLineHere 17 = .ok (.getfield 26, 3) := by decide +kernel
theorem dX12_fairLineHere_20 : decode cX12_fairLineHere 20 = .ok (.iconst 0, 1) := by decide +kernel
theorem dX12_fairLineHere_21 : decode cX12_fairLineHere 21 = .ok (.iaload, 1) := by decide +kernel
theorem dX12_fairLineHere_22 : decode cX12_fairLineHere 22 = .ok (.ifCond .ne 10, 3) := by decide +kernel
theorem dX12_fairLineHere_25 : decode cX12_fairLineHere 25 = .ok (.aload_n 0, 1) := by decide +kernel
theorem dX12_fairLineHere_26 : decode cX12_fairLineHere 26 = .ok (.iconst 4, 1) := by decide +kernel
theorem dX12_fairLineHere_27 : decode cX12_fairLineHere 27 = .ok (.iload_n 1, 1) := by decide +kernel
theorem dX12_fairLineHere_28 : decode cX12_fairLineHere 28 = .ok (.invokevirtual 117, 3) := by decide +kernel
theorem dX12_fairLineHere_31 : decode cX12_fairLineHere 31 = .ok (.ireturn, 1) := by decide +kernel
theorem dX12_fairLineHere_32 : decode cX12_fairLineHere 32 = .ok (.aload_n 0, 1) := by decide +kernel
theorem dX12_fairLineHere_33 : decode cX12_fairLineHere 33 = .ok (.ldc2_w 130, 3) := by decide +kernel
theorem dX12_fairLineHere_36 : decode cX12_fairLineHere 36 = .ok (.invokevirtual 107, 3) := by decide +kernel
theorem dX12_fairLineHere_39 : decode cX12_fairLineHere 39 = .ok (.ifCond .eq 9, 3) := by decide +kernel
theorem dX12_fairLineHere_42 : decode cX12_fairLineHere 42 = .ok (.aload_n 0, 1) := by decide +kernel
theorem dX12_fairLineHere_43 : decode cX12_fairLineHere 43 = .ok (.iload_n 1, 1) := by decide +kernel
theorem dX12_fairLineHere_44 : decode cX12_fairLineHere 44 = .ok (.invokevirtual 233, 3) := by decide +kernel
theorem dX12_fairLineHere_47 : decode cX12_fairLineHere 47 = .ok (.ireturn, 1) := by decide +kernel
theorem dX12_fairLineHere_48 : decode cX12_fairLineHere 48 = .ok (.aload_n 0, 1) := by decide +kernel
theorem dX12_fairLineHere_49 : decode cX12_fairLineHere 49 = .ok (.ldc2_w 146, 3) := by decide +kernel
theorem dX12_fairLineHere_52 : decode cX12_fairLineHere 52 = .ok (.invokevirtual 107, 3) := by decide +kernel
theorem dX12_fairLineHere_55 : decode cX12_fairLineHere 55 = .ok (.ifCond .eq 10, 3) := by decide +kernel
theorem dX12_fairLineHere_58 : decode cX12_fairLineHere 58 = .ok (.aload_n 0, 1) := by decide +kernel
theorem dX12_fairLineHere_59 : decode cX12_fairLineHere 59 = .ok (.invokevirtual 236, 3) := by decide +kernel
theorem dX12_fairLineHere_62 : decode cX12_fairLineHere 62 = .ok (.goto 8, 3) := by decide +kernel
theorem dX12_fairLineHere_65 : decode cX12_fairLineHere 65 = .ok (.aload_n 0, 1) := by decide +kernel
theorem dX12_fairLineHere_66 : decode cX12_fairLineHere 66 = .ok (.iload_n 1, 1) := by decide +kernel
theorem dX12_fairLineHere_67 : decode cX12_fairLineHere 67 = .ok (.invokevirtual 239, 3) := by decide +kernel
theorem dX12_fairLineHere_70 : decode cX12_fairLineHere 70 = .ok (.ireturn, 1) := by decide +kernel
abbrev Mm_fairLineHere : rx_M := (RX12, yX12_fairLineHere, cX12_fairLineHere, 2, (some .boolean), 5)
theorem km_fairLineHere : rKv Mm_fairLineHere 1 := ⟨tb_in (i := 22) (j := 6) rfl rfl, tb_in (i := 22) (j := 7) rfl rfl, tb_in (i := 17) (j := 21) rfl rfl, tb_in (i := 21) (j := 30) rfl rfl, ⟨by decide, by decide, by decide +kernel⟩, by decide⟩
def m_fairLineHere (x1 : Int32) (z_tape : Nat → Int32) (z_taped : Int32) (z_read : Nat → Int32) (z_next : Int32) (z_wrong : Int32) (z_number : Int32) : Option (Int32 × (Nat → Int32) × Int32 × Int32 × Int32) := (m_isWord (1717660018 : Int64) z_tape z_taped z_next).bind (fun q1 => (if q1.1 = 0 then rq (inb (0 : Int32) 125) ((if (z_read (0 : Int32).toNatClampNeg) = 0 then (m_fails (4 : Int32) x1 z_wrong).bind (fun q15 => rq (bo q15.1) (some (q15.1, z_read, q1.2, q15.2, z_number))) else (m_isWord (495873780844 : Int64) z_tape z_taped q1.2).bind (fun q5 => (if q5.1 = 0 then (m_isWord (113741293447013 : Int64) z_tape z_taped q5.2).bind (fun q7 => (if q7.1 = 0 then (m_isBuyerHere x1 z_tape z_taped z_read q7.2 z_wrong z_number).bind (fun q9 => rq (bo q9.1) (some (q9.1, q9.2.1, q9.2.2.1, q9.2.2.2.1, q9.2.2.2.2))) else (m_isGrudgeHere z_tape z_taped z_read q7.2 z_wrong z_number).bind (fun q11 => rq (bo q11.1) (some (q11.1, q11.2.1, q11.2.2.1, q11.2.2.2.1, q11.2.2.2.2))))) else (m_isStallHere x1 z_tape z_taped z_read q5.2 z_wrong z_number).bind (fun q13 => rq (bo q13.1) (some (q13.1, q13.2.1, q13.2.2.1, q13.2.2.2.1, q13.2.2.2.2))))))) else (m_isFairHere x1 z_tape z_taped z_read q1.2 z_wrong z_number).bind (fun q17 => rq (bo q17.1) (some (q17.1, q17.2.1, q17.2.2.1, q17.2.2.2.1, q17.2.2.2.2)))))
set_option maxRecDepth 20000 in
theorem cm_fairLineHere {q : Int32 × (Nat → Int32) × Int32 × Int32 × Int32} {x1 : Int32} (h : m_fairLineHere x1 z_tape z_taped z_read z_next z_wrong z_number = some q) : rMet l D Z (ty7 K) Mm_fairLineHere [.ref (ad 0), .int x1] (wM K ad z_tape z_taped z_rules z_sign z_length z_clause z_clauses z_read z_next z_wrong z_number z_text z_made z_deep z_lines z_open z_opened z_stack z_top z_word z_said z_force z_x z_absent z_isRaining z_wasSaid z_undone z_kept z_order z_bestOrder z_hasBy z_wealthThen z_isFit z_tillThen z_drawX z_images z_imageForce z_imageX z_isMade) (wM K ad z_tape z_taped z_rules z_sign z_length z_clause z_clauses q.2.1 q.2.2.1 q.2.2.2.1 q.2.2.2.2 z_text z_made z_deep z_lines z_open z_opened z_stack z_top z_word z_said z_force z_x z_absent z_isRaining z_wasSaid z_undone z_kept z_order z_bestOrder z_hasBy z_wealthThen z_isFit z_tillThen z_drawX z_images z_imageForce z_imageX z_isMade) (some (.int q.1)) := by
  refine rMet.of (by decide) rfl (Nat.le_of_ble_eq_true rfl) ?_
  refine r_sub (lv' := [(0, .ref (ad 0)), (1, .int x1)]) [0, 1] rfl ?_
  unfold m_fairLineHere at h
  refine r_aload_n 0 dX12_fairLineHere_0 rfl ?_
  refine r_ldc2 (x := (1717660018 : Int64)) (tb_in (i := 21) (j := 17) rfl rfl) dX12_fairLineHere_1 ?_
  obtain ⟨q1, h1, h⟩ := bd_some h
  refine cvM (st := []) (cm_isWord h1) rfl rfl (Nat.le_of_ble_eq_true rfl) km_isWord (tb_in (i := 18) (j := 6) rfl rfl) (by decide) rfl dX12_fairLineHere_4 ?_
  refine r_if_eq 16 dX12_fairLineHere_7 (by decide) (fun c2 => ?_) (fun c2 => ?_)
  · replace h := it_pos c2 h
    refine r_aload_n 0 dX12_fairLineHere_16 rfl ?_
    refine gM_read rfl dX12_fairLineHere_17 ?_
    refine r_iconst (x := (0 : Int32)) dX12_fairLineHere_20 (by decide) ?_
    obtain ⟨h3, h⟩ := rq_some h
    refine lM_read (inb_in h3) dX12_fairLineHere_21 ?_
    refine r_if_ne 32 dX12_fairLineHere_22 (by decide) (fun c4 => ?_) (fun c4 => ?_)
    · replace h := it_neg c4 h
      refine r_aload_n 0 dX12_fairLineHere_32 rfl ?_
      refine r_ldc2 (x := (495873780844 : Int64)) (tb_in (i := 18) (j := 23) rfl rfl) dX12_fairLineHere_33 ?_
      obtain ⟨q5, h5, h⟩ := bd_some h
      refine cvM (st := []) (cm_isWord h5) rfl rfl (Nat.le_of_ble_eq_true rfl) km_isWord (tb_in (i := 18) (j := 6) rfl rfl) (by decide) rfl dX12_fairLineHere_36 ?_
      refine r_if_eq 48 dX12_fairLineHere_39 (by decide) (fun c6 => ?_) (fun c6 => ?_)
      · replace h := it_pos c6 h
        refine r_aload_n 0 dX12_fairLineHere_48 rfl ?_
        refine r_ldc2 (x := (113741293447013 : Int64)) (tb_in (i := 18) (j := 31) rfl rfl) dX12_fairLineHere_49 ?_
        obtain ⟨q7, h7, h⟩ := bd_some h
        refine cvM (st := []) (cm_isWord h7) rfl rfl (Nat.le_of_ble_eq_true rfl) km_isWord (tb_in (i := 18) (j := 6) rfl rfl) (by decide) rfl dX12_fairLineHere_52 ?_
        refine r_if_eq 65 dX12_fairLineHere_55 (by decide) (fun c8 => ?_) (fun c8 => ?_)
        · replace h := it_pos c8 h
          refine r_aload_n 0 dX12_fairLineHere_65 rfl ?_
          refine r_iload_n 1 dX12_fairLineHere_66 rfl ?_
          obtain ⟨q9, h9, h⟩ := bd_some h
          refine cvM (st := []) (cm_isBuyerHere h9) rfl rfl (Nat.le_of_ble_eq_true rfl) km_isBuyerHere (tb_in (i := 21) (j := 27) rfl rfl) (by decide) rfl dX12_fairLineHere_67 ?_
          obtain ⟨h10, h⟩ := rq_some h
          have hq := Option.some.inj h
          subst hq
          exact r_zret (ty := .boolean) rfl (bo_nar h10) dX12_fairLineHere_70
        · replace h := it_neg c8 h
          refine r_aload_n 0 dX12_fairLineHere_58 rfl ?_
          obtain ⟨q11, h11, h⟩ := bd_some h
          refine cvM (st := []) (cm_isGrudgeHere h11) rfl rfl (Nat.le_of_ble_eq_true rfl) km_isGrudgeHere (tb_in (i := 21) (j := 24) rfl rfl) (by decide) rfl dX12_fairLineHere_59 ?_
          refine r_goto 70 dX12_fairLineHere_62 (by decide) ?_
          obtain ⟨h12, h⟩ := rq_some h
          have hq := Option.some.inj h
          subst hq
          exact r_zret (ty := .boolean) rfl (bo_nar h12) dX12_fairLineHere_70
      · replace h := it_neg c6 h
        refine r_aload_n 0 dX12_fairLineHere_42 rfl ?_
        refine r_iload_n 1 dX12_fairLineHere_43 rfl ?_
        obtain ⟨q13, h13, h⟩ := bd_some h
        refine cvM (st := []) (cm_isStallHere h13) rfl rfl (Nat.le_of_ble_eq_true rfl) km_isStallHere (tb_in (i := 21) (j := 21) rfl rfl) (by decide) rfl dX12_fairLineHere_44 ?_
        obtain ⟨h14, h⟩ := rq_some h
        have hq := Option.some.inj h
        subst hq
        exact r_zret (ty := .boolean) rfl (bo_nar h14) dX12_fairLineHere_47
    · replace h := it_pos c4 h
      refine r_aload_n 0 dX12_fairLineHere_25 rfl ?_
      refine r_iconst (x := (4 : Int32)) dX12_fairLineHere_26 (by decide) ?_
      refine r_iload_n 1 dX12_fairLineHere_27 rfl ?_
      obtain ⟨q15, h15, h⟩ := bd_some h
      refine cvM (st := []) (cm_fails h15) rfl rfl (Nat.le_of_ble_eq_true rfl) km_fails (tb_in (i := 18) (j := 17) rfl rfl) (by decide) rfl dX12_fairLineHere_28 ?_
      obtain ⟨h16, h⟩ := rq_some h
      have hq := Option.some.inj h
      subst hq
      exact r_zret (ty := .boolean) rfl (bo_nar h16) dX12_fairLineHere_31
  · replace h := it_neg c2 h
    refine r_aload_n 0 dX12_fairLineHere_10 rfl ?_
    refine r_iload_n 1 dX12_fairLineHere_11 rfl ?_
    obtain ⟨q17, h17, h⟩ := bd_some h
    refine cvM (st := []) (cm_isFairHere h17) rfl rfl (Nat.le_of_ble_eq_true rfl) km_isFairHere (tb_in (i := 21) (j := 18) rfl rfl) (by decide) rfl dX12_fairLineHere_12 ?_
    obtain ⟨h18, h⟩ := rq_some h
    have hq := Option.some.inj h
    subst hq
    exact r_zret (ty := .boolean) rfl (bo_nar h18) dX12_fairLineHere_15
theorem dX12_isFairWord_0 : decode cX12_isFairWord 0 = .ok (.aload_n 0, 1) := by decide +kernel
theorem dX12_isFairWord_1 : decode cX12_isFairWord 1 = .ok (.ldc2_w 228, 3) := by decide +kernel
theorem dX12_isFairWord_4 : decode cX12_isFairWord 4 = .ok (.invokevirtual 107, 3) := by decide +kernel
theorem dX12_isFairWord_7 : decode cX12_isFairWord 7 = .ok (.ifCond .ne 33, 3) := by decide +kernel
theorem dX12_isFairWord_10 : decode cX12_isFairWord 10 = .ok (.aload_n 0, 1) := by decide +kernel
theorem dX12_isFairWord_11 : decode cX12_isFairWord 11 = .ok (.ldc2_w 130, 3) := by decide +kernel
theorem dX12_isFairWord_14 : decode cX12_isFairWord 14 = .ok (.invokevirtual 107, 3) := by decide +kernel
theorem dX12_isFairWord_17 : decode cX12_isFairWord 17 = .ok (.ifCond .ne 23, 3) := by decide +kernel
theorem dX12_isFairWord_20 : decode cX12_isFairWord 20 = .ok (.aload_n 0, 1) := by decide +kernel
theorem dX12_isFairWord_21 : decode cX12_isFairWord 21 = .ok (.ldc2_w 146, 3) := by decide +kernel
theorem dX12_isFairWord_24 : decode cX12_isFairWord 24 = .ok (.invokevirtual 107, 3) := by decide +kernel
theorem dX12_isFairWord_27 : decode cX12_isFairWord 27 = .ok (.ifCond .ne 13, 3) := by decide +kernel
theorem dX12_isFairWord_30 : decode cX12_isFairWord 30 = .ok (.aload_n 0, 1) := by decide +kernel
theorem dX12_isFairWord_31 : decode cX12_isFairWord 31 = .ok (.ldc2_w 128, 3) := by decide +kernel
theorem dX12_isFairWord_34 : decode cX12_isFairWord 34 = .ok (.invokevirtual 107, 3) := by decide +kernel
theorem dX12_isFairWord_37 : decode cX12_isFairWord 37 = .ok (.ifCond .eq 7, 3) := by decide +kernel
theorem dX12_isFairWord_40 : decode cX12_isFairWord 40 = .ok (.iconst 1, 1) := by decide +kernel
theorem dX12_isFairWord_41 : decode cX12_isFairWord 41 = .ok (.goto 4, 3) := by decide +kernel
theorem dX12_isFairWord_44 : decode cX12_isFairWord 44 = .ok (.iconst 0, 1) := by decide +kernel
theorem dX12_isFairWord_45 : decode cX12_isFairWord 45 = .ok (.ireturn, 1) := by decide +kernel
abbrev Mm_isFairWord : rx_M := (RX12, yX12_isFairWord, cX12_isFairWord, 1, (some .boolean), 3)
theorem km_isFairWord : rKv Mm_isFairWord 0 := ⟨tb_in (i := 22) (j := 3) rfl rfl, tb_in (i := 22) (j := 4) rfl rfl, tb_in (i := 17) (j := 21) rfl rfl, tb_in (i := 21) (j := 31) rfl rfl, ⟨by decide, by decide, by decide +kernel⟩, by decide⟩
def m_isFairWord (z_tape : Nat → Int32) (z_taped : Int32) (z_next : Int32) : Option (Int32 × Int32) := (m_isWord (1717660018 : Int64) z_tape z_taped z_next).bind (fun q1 => (if q1.1 = 0 then (m_isWord (495873780844 : Int64) z_tape z_taped q1.2).bind (fun q3 => (if q3.1 = 0 then (m_isWord (113741293447013 : Int64) z_tape z_taped q3.2).bind (fun q5 => (if q5.1 = 0 then (m_isWord (422877685106 : Int64) z_tape z_taped q5.2).bind (fun q7 => (if q7.1 = 0 then some ((0 : Int32), q7.2) else some ((1 : Int32), q7.2))) else some ((1 : Int32), q5.2))) else some ((1 : Int32), q3.2))) else some ((1 : Int32), q1.2)))
set_option maxRecDepth 20000 in
theorem cm_isFairWord {q : Int32 × Int32}  (h : m_isFairWord z_tape z_taped z_next = some q) : rMet l D Z (ty7 K) Mm_isFairWord [.ref (ad 0)] (wM K ad z_tape z_taped z_rules z_sign z_length z_clause z_clauses z_read z_next z_wrong z_number z_text z_made z_deep z_lines z_open z_opened z_stack z_top z_word z_said z_force z_x z_absent z_isRaining z_wasSaid z_undone z_kept z_order z_bestOrder z_hasBy z_wealthThen z_isFit z_tillThen z_drawX z_images z_imageForce z_imageX z_isMade) (wM K ad z_tape z_taped z_rules z_sign z_length z_clause z_clauses z_read q.2 z_wrong z_number z_text z_made z_deep z_lines z_open z_opened z_stack z_top z_word z_said z_force z_x z_absent z_isRaining z_wasSaid z_undone z_kept z_order z_bestOrder z_hasBy z_wealthThen z_isFit z_tillThen z_drawX z_images z_imageForce z_imageX z_isMade) (some (.int q.1)) := by
  refine rMet.of (by decide) rfl (Nat.le_of_ble_eq_true rfl) ?_
  refine r_sub (lv' := [(0, .ref (ad 0))]) [0] rfl ?_
  unfold m_isFairWord at h
  refine r_aload_n 0 dX12_isFairWord_0 rfl ?_
  refine r_ldc2 (x := (1717660018 : Int64)) (tb_in (i := 21) (j := 17) rfl rfl) dX12_isFairWord_1 ?_
  obtain ⟨q1, h1, h⟩ := bd_some h
  refine cvM (st := []) (cm_isWord h1) rfl rfl (Nat.le_of_ble_eq_true rfl) km_isWord (tb_in (i := 18) (j := 6) rfl rfl) (by decide) rfl dX12_isFairWord_4 ?_
  refine r_if_ne 40 dX12_isFairWord_7 (by decide) (fun c2 => ?_) (fun c2 => ?_)
  · replace h := it_neg c2 h
    refine r_iconst (x := (1 : Int32)) dX12_isFairWord_40 (by decide) ?_
    refine r_goto 45 dX12_isFairWord_41 (by decide) ?_
    have hq := Option.some.inj h
    subst hq
    exact r_zret (ty := .boolean) rfl rfl dX12_isFairWord_45
  · replace h := it_pos c2 h
    refine r_aload_n 0 dX12_isFairWord_10 rfl ?_
    refine r_ldc2 (x := (495873780844 : Int64)) (tb_in (i := 18) (j := 23) rfl rfl) dX12_isFairWord_11 ?_
    obtain ⟨q3, h3, h⟩ := bd_some h
    refine cvM (st := []) (cm_isWord h3) rfl rfl (Nat.le_of_ble_eq_true rfl) km_isWord (tb_in (i := 18) (j := 6) rfl rfl) (by decide) rfl dX12_isFairWord_14 ?_
    refine r_if_ne 40 dX12_isFairWord_17 (by decide) (fun c4 => ?_) (fun c4 => ?_)
    · replace h := it_neg c4 h
      refine r_iconst (x := (1 : Int32)) dX12_isFairWord_40 (by decide) ?_
      refine r_goto 45 dX12_isFairWord_41 (by decide) ?_
      have hq := Option.some.inj h
      subst hq
      exact r_zret (ty := .boolean) rfl rfl dX12_isFairWord_45
    · replace h := it_pos c4 h
      refine r_aload_n 0 dX12_isFairWord_20 rfl ?_
      refine r_ldc2 (x := (113741293447013 : Int64)) (tb_in (i := 18) (j := 31) rfl rfl) dX12_isFairWord_21 ?_
      obtain ⟨q5, h5, h⟩ := bd_some h
      refine cvM (st := []) (cm_isWord h5) rfl rfl (Nat.le_of_ble_eq_true rfl) km_isWord (tb_in (i := 18) (j := 6) rfl rfl) (by decide) rfl dX12_isFairWord_24 ?_
      refine r_if_ne 40 dX12_isFairWord_27 (by decide) (fun c6 => ?_) (fun c6 => ?_)
      · replace h := it_neg c6 h
        refine r_iconst (x := (1 : Int32)) dX12_isFairWord_40 (by decide) ?_
        refine r_goto 45 dX12_isFairWord_41 (by decide) ?_
        have hq := Option.some.inj h
        subst hq
        exact r_zret (ty := .boolean) rfl rfl dX12_isFairWord_45
      · replace h := it_pos c6 h
        refine r_aload_n 0 dX12_isFairWord_30 rfl ?_
        refine r_ldc2 (x := (422877685106 : Int64)) (tb_in (i := 18) (j := 22) rfl rfl) dX12_isFairWord_31 ?_
        obtain ⟨q7, h7, h⟩ := bd_some h
        refine cvM (st := []) (cm_isWord h7) rfl rfl (Nat.le_of_ble_eq_true rfl) km_isWord (tb_in (i := 18) (j := 6) rfl rfl) (by decide) rfl dX12_isFairWord_34 ?_
        refine r_if_eq 44 dX12_isFairWord_37 (by decide) (fun c8 => ?_) (fun c8 => ?_)
        · replace h := it_pos c8 h
          refine r_iconst (x := (0 : Int32)) dX12_isFairWord_44 (by decide) ?_
          have hq := Option.some.inj h
          subst hq
          exact r_zret (ty := .boolean) rfl rfl dX12_isFairWord_45
        · replace h := it_neg c8 h
          refine r_iconst (x := (1 : Int32)) dX12_isFairWord_40 (by decide) ?_
          refine r_goto 45 dX12_isFairWord_41 (by decide) ?_
          have hq := Option.some.inj h
          subst hq
          exact r_zret (ty := .boolean) rfl rfl dX12_isFairWord_45
theorem dX12_clauseHere_0 : decode cX12_clauseHere 0 = .ok (.aload_n 0, 1) := by decide +kernel
theorem dX12_clauseHere_1 : decode cX12_clauseHere 1 = .ok (.invokevirtual 99, 3) := by decide +kernel
theorem dX12_clauseHere_4 : decode cX12_clauseHere 4 = .ok (.pop, 1) := by decide +kernel
theorem dX12_clauseHere_5 : decode cX12_clauseHere 5 = .ok (.aload_n 0, 1) := by decide +kernel
theorem dX12_clauseHere_6 : decode cX12_clauseHere 6 = .ok (.getfield 96, 3) := by decide +kernel
theorem dX12_clauseHere_9 : decode cX12_clauseHere 9 = .ok (.istore_n 1, 1) := by decide +kernel
theorem dX12_clauseHere_10 : decode cX12_clauseHere 10 = .ok (.aload_n 0, 1) := by decide +kernel
theorem dX12_clauseHere_11 : decode cX12_clauseHere 11 = .ok (.getfield 152, 3) := by decide +kernel
theorem dX12_clauseHere_14 : decode cX12_clauseHere 14 = .ok (.bipush 6, 2) := by decide +kernel
theorem dX12_clauseHere_16 : decode cX12_clauseHere 16 = .ok (.if_icmp .ne 7, 3) := by decide +kernel
theorem dX12_clauseHere_19 : decode cX12_clauseHere 19 = .ok (.iconst 1, 1) := by decide +kernel
theorem dX12_clauseHere_20 : decode cX12_clauseHere 20 = .ok (.goto 4, 3) := by decide +kernel
theorem dX12_clauseHere_23 : decode cX12_clauseHere 23 = .ok (.iconst 0, 1) := by decide +kernel
theorem dX12_clauseHere_24 : decode cX12_clauseHere 24 = .ok (.istore_n 2, 1) := by decide +kernel
theorem dX12_clauseHere_25 : decode cX12_clauseHere 25 = .ok (.iload_n 2, 1) := by decide +kernel
theorem dX12_clauseHere_26 : decode cX12_clauseHere 26 = .ok (.ifCond .eq 13, 3) := by decide +kernel
theorem dX12_clauseHere_29 : decode cX12_clauseHere 29 = .ok (.aload_n 0, 1) := by decide +kernel
theorem dX12_clauseHere_30 : decode cX12_clauseHere 30 = .ok (.invokevirtual 242, 3) := by decide +kernel
theorem dX12_clauseHere_33 : decode cX12_clauseHere 33 = .ok (.ifCond .ne 23, 3) := by decide +kernel
theorem dX12_clauseHere_36 : decode cX12_clauseHere 36 = .ok (.goto 13, 3) := by decide +kernel
theorem dX12_clauseHere_39 : decode cX12_clauseHere 39 = .ok (.aload_n 0, 1) := by decide +kernel
theorem dX12_clauseHere_40 : decode cX12_clauseHere 40 = .ok (.ldc2_w 245, 3) := by decide +kernel
theorem dX12_clauseHere_43 : decode cX12_clauseHere 43 = .ok (.invokevirtual 107, 3) := by decide +kernel
theorem dX12_clauseHere_46 : decode cX12_clauseHere 46 = .ok (.ifCond .ne 10, 3) := by decide +kernel
theorem dX12_clauseHere_49 : decode cX12_clauseHere 49 = .ok (.aload_n 0, 1) := by decide +kernel
theorem dX12_clauseHere_50 : decode cX12_clauseHere 50 = .ok (.iconst 0, 1) := by decide +kernel
theorem dX12_clauseHere_51 : decode cX12_clauseHere 51 = .ok (.iload_n 1, 1) := by decide +kernel
theorem dX12_clauseHere_52 : decode cX12_clauseHere 52 = .ok (.invokevirtual 117, 3) := by decide +kernel
theorem dX12_clauseHere_55 : decode cX12_clauseHere 55 = .ok (.ireturn, 1) := by decide +kernel
theorem dX12_clauseHere_56 : decode cX12_clauseHere 56 = .ok (.aload_n 0, 1) := by decide +kernel
theorem dX12_clauseHere_57 : decode cX12_clauseHere 57 = .ok (.getfield 247, 3) := by decide +kernel
theorem dX12_clauseHere_60 : decode cX12_clauseHere 60 = .ok (.iload_n 2, 1) := by decide +kernel
theorem dX12_clauseHere_61 : decode cX12_clauseHere 61 = .ok (.ifCond .eq 8, 3) := by decide +kernel
theorem dX12_clauseHere_64 : decode cX12_clauseHere 64 = .ok (.bipush 40, 2) := by decide +kernel
theorem dX12_clauseHere_66 : decode cX12_clauseHere 66 = .ok (.goto 5, 3) := by decide +kernel
theorem dX12_clauseHere_69 : decode cX12_clauseHere 69 = .ok (.bipush 12, 2) := by decide +kernel
theorem dX12_clauseHere_71 : decode cX12_clauseHere 71 = .ok (.if_icmp .ne 10, 3) := by decide +kernel
theorem dX12_clauseHere_74 : decode cX12_clauseHere 74 = .ok (.aload_n 0, 1) := by decide +kernel
theorem dX12_clauseHere_75 : decode cX12_clauseHere 75 = .ok (.iconst 4, 1) := by decide +kernel
theorem dX12_clauseHere_76 : decode cX12_clauseHere 76 = .ok (.iload_n 1, 1) := by decide +kernel
theorem dX12_clauseHere_77 : decode cX12_clauseHere 77 = .ok (.invokevirtual 117, 3) := by decide +kernel
theorem dX12_clauseHere_80 : decode cX12_clauseHere 80 = .ok (.ireturn, 1) := by decide +kernel
theorem dX12_clauseHere_81 : decode cX12_clauseHere 81 = .ok (.aload_n 0, 1) := by decide +kernel
theorem dX12_clauseHere_82 : decode cX12_clauseHere 82 = .ok (.dup, 1) := by decide +kernel
theorem dX12_clauseHere_83 : decode cX12_clauseHere 83 = .ok (.getfield 247, 3) := by decide +kernel
theorem dX12_clauseHere_86 : decode cX12_clauseHere 86 = .ok (.iconst 1, 1) := by decide +kernel
theorem dX12_clauseHere_87 : decode cX12_clauseHere 87 = .ok (.iadd, 1) := by decide +kernel
theorem dX12_clauseHere_88 : decode cX12_clauseHere 88 = .ok (.putfield 247, 3) := by decide +kernel
theorem dX12_clauseHere_91 : decode cX12_clauseHere 91 = .ok (.iload_n 2, 1) := by decide +kernel
theorem dX12_clauseHere_92 : decode cX12_clauseHere 92 = .ok (.ifCond .eq 11, 3) := by decide +kernel
theorem dX12_clauseHere_95 : decode cX12_clauseHere 95 = .ok (.aload_n 0, 1) := by decide +kernel
theorem dX12_clauseHere_96 : decode cX12_clauseHere 96 = .ok (.iload_n 1, 1) := by decide +kernel
theorem dX12_clauseHere_97 : decode cX12_clauseHere 97 = .ok (.invokevirtual 250, 3) := by decide +kernel
theorem dX12_clauseHere_100 : decode cX12_clauseHere 100 = .ok (.goto 7, 3) := by decide +kernel
theorem dX12_clauseHere_103 : decode cX12_clauseHere 103 = .ok (.aload_n 0, 1) := by decide +kernel
theorem dX12_clauseHere_104 : decode cX12_clauseHere 104 = .ok (.invokevirtual 253, 3) := by decide +kernel
theorem dX12_clauseHere_107 : decode cX12_clauseHere 107 = .ok (.ireturn, 1) := by decide +kernel
abbrev Mm_clauseHere : rx_M := (RX12, yX12_clauseHere, cX12_clauseHere, 3, (some .boolean), 11)
theorem km_clauseHere : rKv Mm_clauseHere 0 := ⟨tb_in (i := 22) (j := 13) rfl rfl, tb_in (i := 22) (j := 14) rfl rfl, tb_in (i := 17) (j := 21) rfl rfl, tb_in (i := 22) (j := 11) rfl rfl, ⟨by decide, by decide, by decide +kernel⟩, by decide⟩
def m_clauseHere_j56 (x1 : Int32) (x2 : Int32) (z_tape : Nat → Int32) (z_taped : Int32) (z_sign : Nat → Int32) (z_length : Nat → Int32) (z_clause : Nat → Int32) (z_clauses : Nat → Int32) (z_read : Nat → Int32) (z_next : Int32) (z_wrong : Int32) (z_number : Int32) (z_text : Int32) (z_made : Int32) (z_deep : Int32) (z_lines : Int32) (z_open : Nat → Int32) (z_opened : Int32) : Option (Int32 × (Nat → Int32) × (Nat → Int32) × (Nat → Int32) × (Nat → Int32) × (Nat → Int32) × Int32 × Int32 × Int32 × Int32 × Int32 × Int32 × (Nat → Int32) × Int32) := (if x2 = 0 then (if z_lines = (12 : Int32) then (m_fails (4 : Int32) x1 z_wrong).bind (fun q14 => rq (bo q14.1) (some (q14.1, z_sign, z_length, z_clause, z_clauses, z_read, z_next, q14.2, z_number, z_made, z_deep, z_lines, z_open, z_opened))) else lt (z_lines + (1 : Int32)) (fun y8 => (if x2 = 0 then (m_isBuyHere z_tape z_taped z_sign z_length z_clause z_clauses z_next z_wrong z_number z_text z_made z_deep z_open z_opened).bind (fun q10 => rq (bo q10.1) (some (q10.1, q10.2.1, q10.2.2.1, q10.2.2.2.1, q10.2.2.2.2.1, z_read, q10.2.2.2.2.2.1, q10.2.2.2.2.2.2.1, q10.2.2.2.2.2.2.2.1, q10.2.2.2.2.2.2.2.2.1, q10.2.2.2.2.2.2.2.2.2.1, y8, q10.2.2.2.2.2.2.2.2.2.2.1, q10.2.2.2.2.2.2.2.2.2.2.2))) else (m_fairLineHere x1 z_tape z_taped z_read z_next z_wrong z_number).bind (fun q12 => rq (bo q12.1) (some (q12.1, z_sign, z_length, z_clause, z_clauses, q12.2.1, q12.2.2.1, q12.2.2.2.1, q12.2.2.2.2, z_made, z_deep, y8, z_open, z_opened)))))) else (if z_lines = (40 : Int32) then (m_fails (4 : Int32) x1 z_wrong).bind (fun q23 => rq (bo q23.1) (some (q23.1, z_sign, z_length, z_clause, z_clauses, z_read, z_next, q23.2, z_number, z_made, z_deep, z_lines, z_open, z_opened))) else lt (z_lines + (1 : Int32)) (fun y17 => (if x2 = 0 then (m_isBuyHere z_tape z_taped z_sign z_length z_clause z_clauses z_next z_wrong z_number z_text z_made z_deep z_open z_opened).bind (fun q19 => rq (bo q19.1) (some (q19.1, q19.2.1, q19.2.2.1, q19.2.2.2.1, q19.2.2.2.2.1, z_read, q19.2.2.2.2.2.1, q19.2.2.2.2.2.2.1, q19.2.2.2.2.2.2.2.1, q19.2.2.2.2.2.2.2.2.1, q19.2.2.2.2.2.2.2.2.2.1, y17, q19.2.2.2.2.2.2.2.2.2.2.1, q19.2.2.2.2.2.2.2.2.2.2.2))) else (m_fairLineHere x1 z_tape z_taped z_read z_next z_wrong z_number).bind (fun q21 => rq (bo q21.1) (some (q21.1, z_sign, z_length, z_clause, z_clauses, q21.2.1, q21.2.2.1, q21.2.2.2.1, q21.2.2.2.2, z_made, z_deep, y17, z_open, z_opened)))))))
set_option maxRecDepth 20000 in
theorem cm_clauseHere_j56 {q : Int32 × (Nat → Int32) × (Nat → Int32) × (Nat → Int32) × (Nat → Int32) × (Nat → Int32) × Int32 × Int32 × Int32 × Int32 × Int32 × Int32 × (Nat → Int32) × Int32} {x1 : Int32} {x2 : Int32}  (h : m_clauseHere_j56 x1 x2 z_tape z_taped z_sign z_length z_clause z_clauses z_read z_next z_wrong z_number z_text z_made z_deep z_lines z_open z_opened = some q) : rW l D Z (ty7 K) Mm_clauseHere 56 [(0, .ref (ad 0)), (1, .int x1), (2, .int x2)] [] (wM K ad z_tape z_taped z_rules z_sign z_length z_clause z_clauses z_read z_next z_wrong z_number z_text z_made z_deep z_lines z_open z_opened z_stack z_top z_word z_said z_force z_x z_absent z_isRaining z_wasSaid z_undone z_kept z_order z_bestOrder z_hasBy z_wealthThen z_isFit z_tillThen z_drawX z_images z_imageForce z_imageX z_isMade) (wM K ad z_tape z_taped z_rules q.2.1 q.2.2.1 q.2.2.2.1 q.2.2.2.2.1 q.2.2.2.2.2.1 q.2.2.2.2.2.2.1 q.2.2.2.2.2.2.2.1 q.2.2.2.2.2.2.2.2.1 z_text q.2.2.2.2.2.2.2.2.2.1 q.2.2.2.2.2.2.2.2.2.2.1 q.2.2.2.2.2.2.2.2.2.2.2.1 q.2.2.2.2.2.2.2.2.2.2.2.2.1 q.2.2.2.2.2.2.2.2.2.2.2.2.2 z_stack z_top z_word z_said z_force z_x z_absent z_isRaining z_wasSaid z_undone z_kept z_order z_bestOrder z_hasBy z_wealthThen z_isFit z_tillThen z_drawX z_images z_imageForce z_imageX z_isMade) (some (.int q.1)) := by
  unfold m_clauseHere_j56 at h
  refine r_aload_n 0 dX12_clauseHere_56 rfl ?_
  refine gM_lines rfl dX12_clauseHere_57 ?_
  refine r_iload_n 2 dX12_clauseHere_60 rfl ?_
  refine r_if_eq 69 dX12_clauseHere_61 (by decide) (fun c6 => ?_) (fun c6 => ?_)
  · replace h := it_pos c6 h
    refine r_bipush (x := (12 : Int32)) dX12_clauseHere_69 (by decide) ?_
    refine r_icmp_ne 81 dX12_clauseHere_71 (by decide) (fun c7 => ?_) (fun c7 => ?_)
    · replace h := it_neg c7 h
      refine r_aload_n 0 dX12_clauseHere_81 rfl ?_
      refine r_dup dX12_clauseHere_82 rfl ?_
      refine gM_lines rfl dX12_clauseHere_83 ?_
      refine r_iconst (x := (1 : Int32)) dX12_clauseHere_86 (by decide) ?_
      refine r_iadd dX12_clauseHere_87 ?_
      obtain ⟨y8, e8, h⟩ := lt_some h
      refine r_top e8 ?_
      refine pM_lines rfl dX12_clauseHere_88 ?_
      refine r_iload_n 2 dX12_clauseHere_91 rfl ?_
      refine r_if_eq 103 dX12_clauseHere_92 (by decide) (fun c9 => ?_) (fun c9 => ?_)
      · replace h := it_pos c9 h
        refine r_aload_n 0 dX12_clauseHere_103 rfl ?_
        obtain ⟨q10, h10, h⟩ := bd_some h
        refine cvM (st := []) (cm_isBuyHere h10) rfl rfl (Nat.le_of_ble_eq_true rfl) km_isBuyHere (tb_in (i := 22) (j := 8) rfl rfl) (by decide) rfl dX12_clauseHere_104 ?_
        obtain ⟨h11, h⟩ := rq_some h
        have hq := Option.some.inj h
        subst hq
        exact r_zret (ty := .boolean) rfl (bo_nar h11) dX12_clauseHere_107
      · replace h := it_neg c9 h
        refine r_aload_n 0 dX12_clauseHere_95 rfl ?_
        refine r_iload_n 1 dX12_clauseHere_96 rfl ?_
        obtain ⟨q12, h12, h⟩ := bd_some h
        refine cvM (st := []) (cm_fairLineHere h12) rfl rfl (Nat.le_of_ble_eq_true rfl) km_fairLineHere (tb_in (i := 22) (j := 5) rfl rfl) (by decide) rfl dX12_clauseHere_97 ?_
        refine r_goto 107 dX12_clauseHere_100 (by decide) ?_
        obtain ⟨h13, h⟩ := rq_some h
        have hq := Option.some.inj h
        subst hq
        exact r_zret (ty := .boolean) rfl (bo_nar h13) dX12_clauseHere_107
    · replace h := it_pos c7 h
      refine r_aload_n 0 dX12_clauseHere_74 rfl ?_
      refine r_iconst (x := (4 : Int32)) dX12_clauseHere_75 (by decide) ?_
      refine r_iload_n 1 dX12_clauseHere_76 rfl ?_
      obtain ⟨q14, h14, h⟩ := bd_some h
      refine cvM (st := []) (cm_fails h14) rfl rfl (Nat.le_of_ble_eq_true rfl) km_fails (tb_in (i := 18) (j := 17) rfl rfl) (by decide) rfl dX12_clauseHere_77 ?_
      obtain ⟨h15, h⟩ := rq_some h
      have hq := Option.some.inj h
      subst hq
      exact r_zret (ty := .boolean) rfl (bo_nar h15) dX12_clauseHere_80
  · replace h := it_neg c6 h
    refine r_bipush (x := (40 : Int32)) dX12_clauseHere_64 (by decide) ?_
    refine r_goto 71 dX12_clauseHere_66 (by decide) ?_
    refine r_icmp_ne 81 dX12_clauseHere_71 (by decide) (fun c16 => ?_) (fun c16 => ?_)
    · replace h := it_neg c16 h
      refine r_aload_n 0 dX12_clauseHere_81 rfl ?_
      refine r_dup dX12_clauseHere_82 rfl ?_
      refine gM_lines rfl dX12_clauseHere_83 ?_
      refine r_iconst (x := (1 : Int32)) dX12_clauseHere_86 (by decide) ?_
      refine r_iadd dX12_clauseHere_87 ?_
      obtain ⟨y17, e17, h⟩ := lt_some h
      refine r_top e17 ?_
      refine pM_lines rfl dX12_clauseHere_88 ?_
      refine r_iload_n 2 dX12_clauseHere_91 rfl ?_
      refine r_if_eq 103 dX12_clauseHere_92 (by decide) (fun c18 => ?_) (fun c18 => ?_)
      · replace h := it_pos c18 h
        refine r_aload_n 0 dX12_clauseHere_103 rfl ?_
        obtain ⟨q19, h19, h⟩ := bd_some h
        refine cvM (st := []) (cm_isBuyHere h19) rfl rfl (Nat.le_of_ble_eq_true rfl) km_isBuyHere (tb_in (i := 22) (j := 8) rfl rfl) (by decide) rfl dX12_clauseHere_104 ?_
        obtain ⟨h20, h⟩ := rq_some h
        have hq := Option.some.inj h
        subst hq
        exact r_zret (ty := .boolean) rfl (bo_nar h20) dX12_clauseHere_107
      · replace h := it_neg c18 h
        refine r_aload_n 0 dX12_clauseHere_95 rfl ?_
        refine r_iload_n 1 dX12_clauseHere_96 rfl ?_
        obtain ⟨q21, h21, h⟩ := bd_some h
        refine cvM (st := []) (cm_fairLineHere h21) rfl rfl (Nat.le_of_ble_eq_true rfl) km_fairLineHere (tb_in (i := 22) (j := 5) rfl rfl) (by decide) rfl dX12_clauseHere_97 ?_
        refine r_goto 107 dX12_clauseHere_100 (by decide) ?_
        obtain ⟨h22, h⟩ := rq_some h
        have hq := Option.some.inj h
        subst hq
        exact r_zret (ty := .boolean) rfl (bo_nar h22) dX12_clauseHere_107
    · replace h := it_pos c16 h
      refine r_aload_n 0 dX12_clauseHere_74 rfl ?_
      refine r_iconst (x := (4 : Int32)) dX12_clauseHere_75 (by decide) ?_
      refine r_iload_n 1 dX12_clauseHere_76 rfl ?_
      obtain ⟨q23, h23, h⟩ := bd_some h
      refine cvM (st := []) (cm_fails h23) rfl rfl (Nat.le_of_ble_eq_true rfl) km_fails (tb_in (i := 18) (j := 17) rfl rfl) (by decide) rfl dX12_clauseHere_77 ?_
      obtain ⟨h24, h⟩ := rq_some h
      have hq := Option.some.inj h
      subst hq
      exact r_zret (ty := .boolean) rfl (bo_nar h24) dX12_clauseHere_80
def m_clauseHere_j24 (x1 : Int32) (z_tape : Nat → Int32) (z_taped : Int32) (z_sign : Nat → Int32) (z_length : Nat → Int32) (z_clause : Nat → Int32) (z_clauses : Nat → Int32) (z_read : Nat → Int32) (z_next : Int32) (z_wrong : Int32) (z_number : Int32) (z_text : Int32) (z_made : Int32) (z_deep : Int32) (z_lines : Int32) (z_open : Nat → Int32) (z_opened : Int32) (s0 : Int32) : Option (Int32 × (Nat → Int32) × (Nat → Int32) × (Nat → Int32) × (Nat → Int32) × (Nat → Int32) × Int32 × Int32 × Int32 × Int32 × Int32 × Int32 × (Nat → Int32) × Int32) := (if s0 = 0 then (m_isWord (6452601 : Int64) z_tape z_taped z_next).bind (fun q4 => (if q4.1 = 0 then (m_fails (0 : Int32) x1 z_wrong).bind (fun q25 => rq (bo q25.1) (some (q25.1, z_sign, z_length, z_clause, z_clauses, z_read, q4.2, q25.2, z_number, z_made, z_deep, z_lines, z_open, z_opened))) else m_clauseHere_j56 x1 s0 z_tape z_taped z_sign z_length z_clause z_clauses z_read q4.2 z_wrong z_number z_text z_made z_deep z_lines z_open z_opened)) else (m_isFairWord z_tape z_taped z_next).bind (fun q27 => (if q27.1 = 0 then (m_fails (0 : Int32) x1 z_wrong).bind (fun q29 => rq (bo q29.1) (some (q29.1, z_sign, z_length, z_clause, z_clauses, z_read, q27.2, q29.2, z_number, z_made, z_deep, z_lines, z_open, z_opened))) else m_clauseHere_j56 x1 s0 z_tape z_taped z_sign z_length z_clause z_clauses z_read q27.2 z_wrong z_number z_text z_made z_deep z_lines z_open z_opened)))
set_option maxRecDepth 20000 in
theorem cm_clauseHere_j24 {q : Int32 × (Nat → Int32) × (Nat → Int32) × (Nat → Int32) × (Nat → Int32) × (Nat → Int32) × Int32 × Int32 × Int32 × Int32 × Int32 × Int32 × (Nat → Int32) × Int32} {x1 : Int32} {s0 : Int32}  (h : m_clauseHere_j24 x1 z_tape z_taped z_sign z_length z_clause z_clauses z_read z_next z_wrong z_number z_text z_made z_deep z_lines z_open z_opened s0 = some q) : rW l D Z (ty7 K) Mm_clauseHere 24 [(0, .ref (ad 0)), (1, .int x1)] [.int s0] (wM K ad z_tape z_taped z_rules z_sign z_length z_clause z_clauses z_read z_next z_wrong z_number z_text z_made z_deep z_lines z_open z_opened z_stack z_top z_word z_said z_force z_x z_absent z_isRaining z_wasSaid z_undone z_kept z_order z_bestOrder z_hasBy z_wealthThen z_isFit z_tillThen z_drawX z_images z_imageForce z_imageX z_isMade) (wM K ad z_tape z_taped z_rules q.2.1 q.2.2.1 q.2.2.2.1 q.2.2.2.2.1 q.2.2.2.2.2.1 q.2.2.2.2.2.2.1 q.2.2.2.2.2.2.2.1 q.2.2.2.2.2.2.2.2.1 z_text q.2.2.2.2.2.2.2.2.2.1 q.2.2.2.2.2.2.2.2.2.2.1 q.2.2.2.2.2.2.2.2.2.2.2.1 q.2.2.2.2.2.2.2.2.2.2.2.2.1 q.2.2.2.2.2.2.2.2.2.2.2.2.2 z_stack z_top z_word z_said z_force z_x z_absent z_isRaining z_wasSaid z_undone z_kept z_order z_bestOrder z_hasBy z_wealthThen z_isFit z_tillThen z_drawX z_images z_imageForce z_imageX z_isMade) (some (.int q.1)) := by
  unfold m_clauseHere_j24 at h
  refine r_istore_n (lv' := [(2, .int s0), (0, .ref (ad 0)), (1, .int x1)]) dX12_clauseHere_24 (by decide) rfl ?_
  refine r_iload_n 0 dX12_clauseHere_25 rfl ?_
  refine r_if_eq 39 dX12_clauseHere_26 (by decide) (fun c3 => ?_) (fun c3 => ?_)
  · replace h := it_pos c3 h
    refine r_aload_n 1 dX12_clauseHere_39 rfl ?_
    refine r_ldc2 (x := (6452601 : Int64)) (tb_in (i := 22) (j := 0) rfl rfl) dX12_clauseHere_40 ?_
    obtain ⟨q4, h4, h⟩ := bd_some h
    refine cvM (st := []) (cm_isWord h4) rfl rfl (Nat.le_of_ble_eq_true rfl) km_isWord (tb_in (i := 18) (j := 6) rfl rfl) (by decide) rfl dX12_clauseHere_43 ?_
    refine r_if_ne 56 dX12_clauseHere_46 (by decide) (fun c5 => ?_) (fun c5 => ?_)
    · replace h := it_neg c5 h
      refine r_sub (lv' := [(0, .ref (ad 0)), (1, .int x1), (2, .int s0)]) [1, 2, 0] rfl ?_
      exact cm_clauseHere_j56  h
    · replace h := it_pos c5 h
      refine r_aload_n 1 dX12_clauseHere_49 rfl ?_
      refine r_iconst (x := (0 : Int32)) dX12_clauseHere_50 (by decide) ?_
      refine r_iload_n 2 dX12_clauseHere_51 rfl ?_
      obtain ⟨q25, h25, h⟩ := bd_some h
      refine cvM (st := []) (cm_fails h25) rfl rfl (Nat.le_of_ble_eq_true rfl) km_fails (tb_in (i := 18) (j := 17) rfl rfl) (by decide) rfl dX12_clauseHere_52 ?_
      obtain ⟨h26, h⟩ := rq_some h
      have hq := Option.some.inj h
      subst hq
      exact r_zret (ty := .boolean) rfl (bo_nar h26) dX12_clauseHere_55
  · replace h := it_neg c3 h
    refine r_aload_n 1 dX12_clauseHere_29 rfl ?_
    obtain ⟨q27, h27, h⟩ := bd_some h
    refine cvM (st := []) (cm_isFairWord h27) rfl rfl (Nat.le_of_ble_eq_true rfl) km_isFairWord (tb_in (i := 22) (j := 2) rfl rfl) (by decide) rfl dX12_clauseHere_30 ?_
    refine r_if_ne 56 dX12_clauseHere_33 (by decide) (fun c28 => ?_) (fun c28 => ?_)
    · replace h := it_neg c28 h
      refine r_sub (lv' := [(0, .ref (ad 0)), (1, .int x1), (2, .int s0)]) [1, 2, 0] rfl ?_
      exact cm_clauseHere_j56  h
    · replace h := it_pos c28 h
      refine r_goto 49 dX12_clauseHere_36 (by decide) ?_
      refine r_aload_n 1 dX12_clauseHere_49 rfl ?_
      refine r_iconst (x := (0 : Int32)) dX12_clauseHere_50 (by decide) ?_
      refine r_iload_n 2 dX12_clauseHere_51 rfl ?_
      obtain ⟨q29, h29, h⟩ := bd_some h
      refine cvM (st := []) (cm_fails h29) rfl rfl (Nat.le_of_ble_eq_true rfl) km_fails (tb_in (i := 18) (j := 17) rfl rfl) (by decide) rfl dX12_clauseHere_52 ?_
      obtain ⟨h30, h⟩ := rq_some h
      have hq := Option.some.inj h
      subst hq
      exact r_zret (ty := .boolean) rfl (bo_nar h30) dX12_clauseHere_55
def m_clauseHere (z_tape : Nat → Int32) (z_taped : Int32) (z_sign : Nat → Int32) (z_length : Nat → Int32) (z_clause : Nat → Int32) (z_clauses : Nat → Int32) (z_read : Nat → Int32) (z_next : Int32) (z_wrong : Int32) (z_number : Int32) (z_text : Int32) (z_made : Int32) (z_deep : Int32) (z_lines : Int32) (z_open : Nat → Int32) (z_opened : Int32) : Option (Int32 × (Nat → Int32) × (Nat → Int32) × (Nat → Int32) × (Nat → Int32) × (Nat → Int32) × Int32 × Int32 × Int32 × Int32 × Int32 × Int32 × (Nat → Int32) × Int32) := (m_see z_tape z_taped z_next).bind (fun q1 => (if z_text = (6 : Int32) then m_clauseHere_j24 q1.2 z_tape z_taped z_sign z_length z_clause z_clauses z_read q1.2 z_wrong z_number z_text z_made z_deep z_lines z_open z_opened (1 : Int32) else m_clauseHere_j24 q1.2 z_tape z_taped z_sign z_length z_clause z_clauses z_read q1.2 z_wrong z_number z_text z_made z_deep z_lines z_open z_opened (0 : Int32)))
set_option maxRecDepth 20000 in
theorem cm_clauseHere {q : Int32 × (Nat → Int32) × (Nat → Int32) × (Nat → Int32) × (Nat → Int32) × (Nat → Int32) × Int32 × Int32 × Int32 × Int32 × Int32 × Int32 × (Nat → Int32) × Int32}  (h : m_clauseHere z_tape z_taped z_sign z_length z_clause z_clauses z_read z_next z_wrong z_number z_text z_made z_deep z_lines z_open z_opened = some q) : rMet l D Z (ty7 K) Mm_clauseHere [.ref (ad 0)] (wM K ad z_tape z_taped z_rules z_sign z_length z_clause z_clauses z_read z_next z_wrong z_number z_text z_made z_deep z_lines z_open z_opened z_stack z_top z_word z_said z_force z_x z_absent z_isRaining z_wasSaid z_undone z_kept z_order z_bestOrder z_hasBy z_wealthThen z_isFit z_tillThen z_drawX z_images z_imageForce z_imageX z_isMade) (wM K ad z_tape z_taped z_rules q.2.1 q.2.2.1 q.2.2.2.1 q.2.2.2.2.1 q.2.2.2.2.2.1 q.2.2.2.2.2.2.1 q.2.2.2.2.2.2.2.1 q.2.2.2.2.2.2.2.2.1 z_text q.2.2.2.2.2.2.2.2.2.1 q.2.2.2.2.2.2.2.2.2.2.1 q.2.2.2.2.2.2.2.2.2.2.2.1 q.2.2.2.2.2.2.2.2.2.2.2.2.1 q.2.2.2.2.2.2.2.2.2.2.2.2.2 z_stack z_top z_word z_said z_force z_x z_absent z_isRaining z_wasSaid z_undone z_kept z_order z_bestOrder z_hasBy z_wealthThen z_isFit z_tillThen z_drawX z_images z_imageForce z_imageX z_isMade) (some (.int q.1)) := by
  refine rMet.of (by decide) rfl (Nat.le_of_ble_eq_true rfl) ?_
  refine r_sub (lv' := [(0, .ref (ad 0))]) [0] rfl ?_
  unfold m_clauseHere at h
  refine r_aload_n 0 dX12_clauseHere_0 rfl ?_
  obtain ⟨q1, h1, h⟩ := bd_some h
  refine cvM (st := []) (cm_see h1) rfl rfl (Nat.le_of_ble_eq_true rfl) km_see (tb_in (i := 17) (j := 30) rfl rfl) (by decide) rfl dX12_clauseHere_1 ?_
  refine r_pop dX12_clauseHere_4 rfl ?_
  refine r_aload_n 0 dX12_clauseHere_5 rfl ?_
  refine gM_next rfl dX12_clauseHere_6 ?_
  refine r_istore_n (lv' := [(1, .int q1.2), (0, .ref (ad 0))]) dX12_clauseHere_9 (by decide) rfl ?_
  refine r_aload_n 1 dX12_clauseHere_10 rfl ?_
  refine gM_text rfl dX12_clauseHere_11 ?_
  refine r_bipush (x := (6 : Int32)) dX12_clauseHere_14 (by decide) ?_
  refine r_icmp_ne 23 dX12_clauseHere_16 (by decide) (fun c2 => ?_) (fun c2 => ?_)
  · replace h := it_neg c2 h
    refine r_iconst (x := (0 : Int32)) dX12_clauseHere_23 (by decide) ?_
    refine r_sub (lv' := [(0, .ref (ad 0)), (1, .int q1.2)]) [1, 0] rfl ?_
    exact cm_clauseHere_j24  h
  · replace h := it_pos c2 h
    refine r_iconst (x := (1 : Int32)) dX12_clauseHere_19 (by decide) ?_
    refine r_goto 24 dX12_clauseHere_20 (by decide) ?_
    refine r_sub (lv' := [(0, .ref (ad 0)), (1, .int q1.2)]) [1, 0] rfl ?_
    exact cm_clauseHere_j24  h
theorem dX12_readsAll_0 : decode cX12_readsAll 0 = .ok (.aload_n 0, 1) := by decide +kernel
theorem dX12_readsAll_1 : decode cX12_readsAll 1 = .ok (.getfield 17, 3) := by decide +kernel
theorem dX12_readsAll_4 : decode cX12_readsAll 4 = .ok (.aload_n 0, 1) := by decide +kernel
theorem dX12_readsAll_5 : decode cX12_readsAll 5 = .ok (.getfield 152, 3) := by decide +kernel
theorem dX12_readsAll_8 : decode cX12_readsAll 8 = .ok (.iconst 0, 1) := by decide +kernel
theorem dX12_readsAll_9 : decode cX12_readsAll 9 = .ok (.iastore, 1) := by decide +kernel
theorem dX12_readsAll_10 : decode cX12_readsAll 10 = .ok (.aload_n 0, 1) := by decide +kernel
theorem dX12_readsAll_11 : decode cX12_readsAll 11 = .ok (.iconst 0, 1) := by decide +kernel
theorem dX12_readsAll_12 : decode cX12_readsAll 12 = .ok (.putfield 247, 3) := by decide +kernel
theorem dX12_readsAll_15 : decode cX12_readsAll 15 = .ok (.aload_n 0, 1) := by decide +kernel
theorem dX12_readsAll_16 : decode cX12_readsAll 16 = .ok (.iconst 0, 1) := by decide +kernel
theorem dX12_readsAll_17 : decode cX12_readsAll 17 = .ok (.putfield 96, 3) := by decide +kernel
theorem dX12_readsAll_20 : decode cX12_readsAll 20 = .ok (.aload_n 0, 1) := by decide +kernel
theorem dX12_readsAll_21 : decode cX12_readsAll 21 = .ok (.iconst 0, 1) := by decide +kernel
theorem dX12_readsAll_22 : decode cX12_readsAll 22 = .ok (.putfield 93, 3) := by decide +kernel
theorem dX12_readsAll_25 : decode cX12_readsAll 25 = .ok (.aload_n 0, 1) := by decide +kernel
theorem dX12_readsAll_26 : decode cX12_readsAll 26 = .ok (.iconst 0, 1) := by decide +kernel
theorem dX12_readsAll_27 : decode cX12_readsAll 27 = .ok (.putfield 155, 3) := by decide +kernel
theorem dX12_readsAll_30 : decode cX12_readsAll 30 = .ok (.aload_n 0, 1) := by decide +kernel
theorem dX12_readsAll_31 : decode cX12_readsAll 31 = .ok (.invokevirtual 256, 3) := by decide +kernel
theorem dX12_readsAll_34 : decode cX12_readsAll 34 = .ok (.istore_n 1, 1) := by decide +kernel
theorem dX12_readsAll_35 : decode cX12_readsAll 35 = .ok (.iload_n 1, 1) := by decide +kernel
theorem dX12_readsAll_36 : decode cX12_readsAll 36 = .ok (.ifCond .eq 30, 3) := by decide +kernel
theorem dX12_readsAll_39 : decode cX12_readsAll 39 = .ok (.aload_n 0, 1) := by decide +kernel
theorem dX12_readsAll_40 : decode cX12_readsAll 40 = .ok (.invokevirtual 99, 3) := by decide +kernel
theorem dX12_readsAll_43 : decode cX12_readsAll 43 = .ok (.bipush 59, 2) := by decide +kernel
theorem dX12_readsAll_45 : decode cX12_readsAll 45 = .ok (.if_icmp .ne 21, 3) := by decide +kernel
theorem dX12_readsAll_48 : decode cX12_readsAll 48 = .ok (.aload_n 0, 1) := by decide +kernel
theorem dX12_readsAll_49 : decode cX12_readsAll 49 = .ok (.dup, 1) := by decide +kernel
theorem dX12_readsAll_50 : decode cX12_readsAll 50 = .ok (.getfield 96, 3) := by decide +kernel
theorem dX12_readsAll_53 : decode cX12_readsAll 53 = .ok (.iconst 1, 1) := by decide +kernel
theorem dX12_readsAll_54 : decode cX12_readsAll 54 = .ok (.iadd, 1) := by decide +kernel
theorem dX12_readsAll_55 : decode cX12_readsAll 55 = .ok (.putfield 96, 3) := by decide +kernel
theorem dX12_readsAll_58 : decode cX12_readsAll 58 = .ok (.aload_n 0, 1) := by decide +kernel
theorem dX12_readsAll_59 : decode cX12_readsAll 59 = .ok (.invokevirtual 256, 3) := by decide +kernel
theorem dX12_readsAll_62 : decode cX12_readsAll 62 = .ok (.istore_n 1, 1) := by decide +kernel
theorem dX12_readsAll_63 : decode cX12_readsAll 63 = .ok (.goto (-28), 3) := by decide +kernel
theorem dX12_readsAll_66 : decode cX12_readsAll 66 = .ok (.iload_n 1, 1) := by decide +kernel
theorem dX12_readsAll_67 : decode cX12_readsAll 67 = .ok (.ifCond .eq 21, 3) := by decide +kernel
theorem dX12_readsAll_70 : decode cX12_readsAll 70 = .ok (.aload_n 0, 1) := by decide +kernel
theorem dX12_readsAll_71 : decode cX12_readsAll 71 = .ok (.invokevirtual 99, 3) := by decide +kernel
theorem dX12_readsAll_74 : decode cX12_readsAll 74 = .ok (.iconst (-1), 1) := by decide +kernel
theorem dX12_readsAll_75 : decode cX12_readsAll 75 = .ok (.if_icmp .eq 13, 3) := by decide +kernel
theorem dX12_readsAll_78 : decode cX12_readsAll 78 = .ok (.aload_n 0, 1) := by decide +kernel
theorem dX12_readsAll_79 : decode cX12_readsAll 79 = .ok (.iconst 0, 1) := by decide +kernel
theorem dX12_readsAll_80 : decode cX12_readsAll 80 = .ok (.aload_n 0, 1) := by decide +kernel
theorem dX12_readsAll_81 : decode cX12_readsAll 81 = .ok (.getfield 96, 3) := by decide +kernel
theorem dX12_readsAll_84 : decode cX12_readsAll 84 = .ok (.invokevirtual 117, 3) := by decide +kernel
theorem dX12_readsAll_87 : decode cX12_readsAll 87 = .ok (.pop, 1) := by decide +kernel
theorem dX12_readsAll_88 : decode cX12_readsAll 88 = .ok (.aload_n 0, 1) := by decide +kernel
theorem dX12_readsAll_89 : decode cX12_readsAll 89 = .ok (.iconst 0, 1) := by decide +kernel
theorem dX12_readsAll_90 : decode cX12_readsAll 90 = .ok (.putfield 86, 3) := by decide +kernel
theorem dX12_readsAll_93 : decode cX12_readsAll 93 = .ok (.aload_n 0, 1) := by decide +kernel
theorem dX12_readsAll_94 : decode cX12_readsAll 94 = .ok (.getfield 93, 3) := by decide +kernel
theorem dX12_readsAll_97 : decode cX12_readsAll 97 = .ok (.ifCond .ne 7, 3) := by decide +kernel
theorem dX12_readsAll_100 : decode cX12_readsAll 100 = .ok (.iconst 1, 1) := by decide +kernel
theorem dX12_readsAll_101 : decode cX12_readsAll 101 = .ok (.goto 4, 3) := by decide +kernel
theorem dX12_readsAll_104 : decode cX12_readsAll 104 = .ok (.iconst 0, 1) := by decide +kernel
theorem dX12_readsAll_105 : decode cX12_readsAll 105 = .ok (.ireturn, 1) := by decide +kernel
abbrev Mm_readsAll : rx_M := (RX12, yX12_readsAll, cX12_readsAll, 2, (some .boolean), 12)
theorem km_readsAll : rKv Mm_readsAll 0 := ⟨tb_in (i := 22) (j := 18) rfl rfl, tb_in (i := 22) (j := 19) rfl rfl, tb_in (i := 17) (j := 21) rfl rfl, tb_in (i := 22) (j := 15) rfl rfl, ⟨by decide, by decide, by decide +kernel⟩, by decide⟩
def m_readsAll_j66 (x1 : Int32) (z_tape : Nat → Int32) (z_taped : Int32) (z_sign : Nat → Int32) (z_length : Nat → Int32) (z_clause : Nat → Int32) (z_clauses : Nat → Int32) (z_read : Nat → Int32) (z_next : Int32) (z_wrong : Int32) (z_number : Int32) (z_text : Int32) (z_made : Int32) (z_deep : Int32) (z_lines : Int32) (z_open : Nat → Int32) (z_opened : Int32) : Option (Int32 × Int32 × (Nat → Int32) × (Nat → Int32) × (Nat → Int32) × (Nat → Int32) × (Nat → Int32) × Int32 × Int32 × Int32 × Int32 × Int32 × Int32 × (Nat → Int32) × Int32) := (if x1 = 0 then (if z_wrong = 0 then some ((1 : Int32), (0 : Int32), z_sign, z_length, z_clause, z_clauses, z_read, z_next, z_wrong, z_number, z_made, z_deep, z_lines, z_open, z_opened) else some ((0 : Int32), (0 : Int32), z_sign, z_length, z_clause, z_clauses, z_read, z_next, z_wrong, z_number, z_made, z_deep, z_lines, z_open, z_opened)) else (m_see z_tape z_taped z_next).bind (fun q6 => (if q6.1 = (-1 : Int32) then (if z_wrong = 0 then some ((1 : Int32), (0 : Int32), z_sign, z_length, z_clause, z_clauses, z_read, q6.2, z_wrong, z_number, z_made, z_deep, z_lines, z_open, z_opened) else some ((0 : Int32), (0 : Int32), z_sign, z_length, z_clause, z_clauses, z_read, q6.2, z_wrong, z_number, z_made, z_deep, z_lines, z_open, z_opened)) else (m_fails (0 : Int32) q6.2 z_wrong).bind (fun q9 => (if q9.2 = 0 then some ((1 : Int32), (0 : Int32), z_sign, z_length, z_clause, z_clauses, z_read, q6.2, q9.2, z_number, z_made, z_deep, z_lines, z_open, z_opened) else some ((0 : Int32), (0 : Int32), z_sign, z_length, z_clause, z_clauses, z_read, q6.2, q9.2, z_number, z_made, z_deep, z_lines, z_open, z_opened))))))
set_option maxRecDepth 20000 in
theorem cm_readsAll_j66 {q : Int32 × Int32 × (Nat → Int32) × (Nat → Int32) × (Nat → Int32) × (Nat → Int32) × (Nat → Int32) × Int32 × Int32 × Int32 × Int32 × Int32 × Int32 × (Nat → Int32) × Int32} {x1 : Int32}  (h : m_readsAll_j66 x1 z_tape z_taped z_sign z_length z_clause z_clauses z_read z_next z_wrong z_number z_text z_made z_deep z_lines z_open z_opened = some q) : rW l D Z (ty7 K) Mm_readsAll 66 [(0, .ref (ad 0)), (1, .int x1)] [] (wM K ad z_tape z_taped z_rules z_sign z_length z_clause z_clauses z_read z_next z_wrong z_number z_text z_made z_deep z_lines z_open z_opened z_stack z_top z_word z_said z_force z_x z_absent z_isRaining z_wasSaid z_undone z_kept z_order z_bestOrder z_hasBy z_wealthThen z_isFit z_tillThen z_drawX z_images z_imageForce z_imageX z_isMade) (wM K ad z_tape q.2.1 z_rules q.2.2.1 q.2.2.2.1 q.2.2.2.2.1 q.2.2.2.2.2.1 q.2.2.2.2.2.2.1 q.2.2.2.2.2.2.2.1 q.2.2.2.2.2.2.2.2.1 q.2.2.2.2.2.2.2.2.2.1 z_text q.2.2.2.2.2.2.2.2.2.2.1 q.2.2.2.2.2.2.2.2.2.2.2.1 q.2.2.2.2.2.2.2.2.2.2.2.2.1 q.2.2.2.2.2.2.2.2.2.2.2.2.2.1 q.2.2.2.2.2.2.2.2.2.2.2.2.2.2 z_stack z_top z_word z_said z_force z_x z_absent z_isRaining z_wasSaid z_undone z_kept z_order z_bestOrder z_hasBy z_wealthThen z_isFit z_tillThen z_drawX z_images z_imageForce z_imageX z_isMade) (some (.int q.1)) := by
  unfold m_readsAll_j66 at h
  refine r_iload_n 1 dX12_readsAll_66 rfl ?_
  refine r_if_eq 88 dX12_readsAll_67 (by decide) (fun c4 => ?_) (fun c4 => ?_)
  · replace h := it_pos c4 h
    refine r_aload_n 0 dX12_readsAll_88 rfl ?_
    refine r_iconst (x := (0 : Int32)) dX12_readsAll_89 (by decide) ?_
    refine pM_taped rfl dX12_readsAll_90 ?_
    refine r_aload_n 0 dX12_readsAll_93 rfl ?_
    refine gM_wrong rfl dX12_readsAll_94 ?_
    refine r_if_ne 104 dX12_readsAll_97 (by decide) (fun c5 => ?_) (fun c5 => ?_)
    · replace h := it_neg c5 h
      refine r_iconst (x := (0 : Int32)) dX12_readsAll_104 (by decide) ?_
      have hq := Option.some.inj h
      subst hq
      exact r_zret (ty := .boolean) rfl rfl dX12_readsAll_105
    · replace h := it_pos c5 h
      refine r_iconst (x := (1 : Int32)) dX12_readsAll_100 (by decide) ?_
      refine r_goto 105 dX12_readsAll_101 (by decide) ?_
      have hq := Option.some.inj h
      subst hq
      exact r_zret (ty := .boolean) rfl rfl dX12_readsAll_105
  · replace h := it_neg c4 h
    refine r_aload_n 0 dX12_readsAll_70 rfl ?_
    obtain ⟨q6, h6, h⟩ := bd_some h
    refine cvM (st := []) (cm_see h6) rfl rfl (Nat.le_of_ble_eq_true rfl) km_see (tb_in (i := 17) (j := 30) rfl rfl) (by decide) rfl dX12_readsAll_71 ?_
    refine r_iconst (x := (-1 : Int32)) dX12_readsAll_74 (by decide) ?_
    refine r_icmp_eq 88 dX12_readsAll_75 (by decide) (fun c7 => ?_) (fun c7 => ?_)
    · replace h := it_pos c7 h
      refine r_aload_n 0 dX12_readsAll_88 rfl ?_
      refine r_iconst (x := (0 : Int32)) dX12_readsAll_89 (by decide) ?_
      refine pM_taped rfl dX12_readsAll_90 ?_
      refine r_aload_n 0 dX12_readsAll_93 rfl ?_
      refine gM_wrong rfl dX12_readsAll_94 ?_
      refine r_if_ne 104 dX12_readsAll_97 (by decide) (fun c8 => ?_) (fun c8 => ?_)
      · replace h := it_neg c8 h
        refine r_iconst (x := (0 : Int32)) dX12_readsAll_104 (by decide) ?_
        have hq := Option.some.inj h
        subst hq
        exact r_zret (ty := .boolean) rfl rfl dX12_readsAll_105
      · replace h := it_pos c8 h
        refine r_iconst (x := (1 : Int32)) dX12_readsAll_100 (by decide) ?_
        refine r_goto 105 dX12_readsAll_101 (by decide) ?_
        have hq := Option.some.inj h
        subst hq
        exact r_zret (ty := .boolean) rfl rfl dX12_readsAll_105
    · replace h := it_neg c7 h
      refine r_aload_n 0 dX12_readsAll_78 rfl ?_
      refine r_iconst (x := (0 : Int32)) dX12_readsAll_79 (by decide) ?_
      refine r_aload_n 0 dX12_readsAll_80 rfl ?_
      refine gM_next rfl dX12_readsAll_81 ?_
      obtain ⟨q9, h9, h⟩ := bd_some h
      refine cvM (st := []) (cm_fails h9) rfl rfl (Nat.le_of_ble_eq_true rfl) km_fails (tb_in (i := 18) (j := 17) rfl rfl) (by decide) rfl dX12_readsAll_84 ?_
      refine r_pop dX12_readsAll_87 rfl ?_
      refine r_aload_n 0 dX12_readsAll_88 rfl ?_
      refine r_iconst (x := (0 : Int32)) dX12_readsAll_89 (by decide) ?_
      refine pM_taped rfl dX12_readsAll_90 ?_
      refine r_aload_n 0 dX12_readsAll_93 rfl ?_
      refine gM_wrong rfl dX12_readsAll_94 ?_
      refine r_if_ne 104 dX12_readsAll_97 (by decide) (fun c10 => ?_) (fun c10 => ?_)
      · replace h := it_neg c10 h
        refine r_iconst (x := (0 : Int32)) dX12_readsAll_104 (by decide) ?_
        have hq := Option.some.inj h
        subst hq
        exact r_zret (ty := .boolean) rfl rfl dX12_readsAll_105
      · replace h := it_pos c10 h
        refine r_iconst (x := (1 : Int32)) dX12_readsAll_100 (by decide) ?_
        refine r_goto 105 dX12_readsAll_101 (by decide) ?_
        have hq := Option.some.inj h
        subst hq
        exact r_zret (ty := .boolean) rfl rfl dX12_readsAll_105
def m_readsAll_l35 (z_tape : Nat → Int32) (z_taped : Int32) (z_text : Int32) : Nat → Int32 → (Nat → Int32) → (Nat → Int32) → (Nat → Int32) → (Nat → Int32) → (Nat → Int32) → Int32 → Int32 → Int32 → Int32 → Int32 → Int32 → (Nat → Int32) → Int32 → Option (Int32 × Int32 × (Nat → Int32) × (Nat → Int32) × (Nat → Int32) × (Nat → Int32) × (Nat → Int32) × Int32 × Int32 × Int32 × Int32 × Int32 × Int32 × (Nat → Int32) × Int32)
  | 0, _, _, _, _, _, _, _, _, _, _, _, _, _, _ => none
  | n + 1, x1, z_sign, z_length, z_clause, z_clauses, z_read, z_next, z_wrong, z_number, z_made, z_deep, z_lines, z_open, z_opened => (if x1 = 0 then m_readsAll_j66 x1 z_tape z_taped z_sign z_length z_clause z_clauses z_read z_next z_wrong z_number z_text z_made z_deep z_lines z_open z_opened else (m_see z_tape z_taped z_next).bind (fun q11 => (if q11.1 = (59 : Int32) then lt (q11.2 + (1 : Int32)) (fun y13 => (m_clauseHere z_tape z_taped z_sign z_length z_clause z_clauses z_read y13 z_wrong z_number z_text z_made z_deep z_lines z_open z_opened).bind (fun q14 => m_readsAll_l35 z_tape z_taped z_text n q14.1 q14.2.1 q14.2.2.1 q14.2.2.2.1 q14.2.2.2.2.1 q14.2.2.2.2.2.1 q14.2.2.2.2.2.2.1 q14.2.2.2.2.2.2.2.1 q14.2.2.2.2.2.2.2.2.1 q14.2.2.2.2.2.2.2.2.2.1 q14.2.2.2.2.2.2.2.2.2.2.1 q14.2.2.2.2.2.2.2.2.2.2.2.1 q14.2.2.2.2.2.2.2.2.2.2.2.2.1 q14.2.2.2.2.2.2.2.2.2.2.2.2.2)) else m_readsAll_j66 x1 z_tape z_taped z_sign z_length z_clause z_clauses z_read q11.2 z_wrong z_number z_text z_made z_deep z_lines z_open z_opened)))
set_option maxRecDepth 20000 in
theorem cm_readsAll_l35 {q : Int32 × Int32 × (Nat → Int32) × (Nat → Int32) × (Nat → Int32) × (Nat → Int32) × (Nat → Int32) × Int32 × Int32 × Int32 × Int32 × Int32 × Int32 × (Nat → Int32) × Int32}   : ∀ (n : Nat) (x1 : Int32) (z_sign : Nat → Int32) (z_length : Nat → Int32) (z_clause : Nat → Int32) (z_clauses : Nat → Int32) (z_read : Nat → Int32) (z_next : Int32) (z_wrong : Int32) (z_number : Int32) (z_made : Int32) (z_deep : Int32) (z_lines : Int32) (z_open : Nat → Int32) (z_opened : Int32), m_readsAll_l35 z_tape z_taped z_text n x1 z_sign z_length z_clause z_clauses z_read z_next z_wrong z_number z_made z_deep z_lines z_open z_opened = some q → rW l D Z (ty7 K) Mm_readsAll 35 [(0, .ref (ad 0)), (1, .int x1)] [] (wM K ad z_tape z_taped z_rules z_sign z_length z_clause z_clauses z_read z_next z_wrong z_number z_text z_made z_deep z_lines z_open z_opened z_stack z_top z_word z_said z_force z_x z_absent z_isRaining z_wasSaid z_undone z_kept z_order z_bestOrder z_hasBy z_wealthThen z_isFit z_tillThen z_drawX z_images z_imageForce z_imageX z_isMade) (wM K ad z_tape q.2.1 z_rules q.2.2.1 q.2.2.2.1 q.2.2.2.2.1 q.2.2.2.2.2.1 q.2.2.2.2.2.2.1 q.2.2.2.2.2.2.2.1 q.2.2.2.2.2.2.2.2.1 q.2.2.2.2.2.2.2.2.2.1 z_text q.2.2.2.2.2.2.2.2.2.2.1 q.2.2.2.2.2.2.2.2.2.2.2.1 q.2.2.2.2.2.2.2.2.2.2.2.2.1 q.2.2.2.2.2.2.2.2.2.2.2.2.2.1 q.2.2.2.2.2.2.2.2.2.2.2.2.2.2 z_stack z_top z_word z_said z_force z_x z_absent z_isRaining z_wasSaid z_undone z_kept z_order z_bestOrder z_hasBy z_wealthThen z_isFit z_tillThen z_drawX z_images z_imageForce z_imageX z_isMade) (some (.int q.1)) := by
  intro n
  induction n with
  | zero => intro x1 z_sign z_length z_clause z_clauses z_read z_next z_wrong z_number z_made z_deep z_lines z_open z_opened h; unfold m_readsAll_l35 at h; cases h
  | succ n ih =>
    intro x1 z_sign z_length z_clause z_clauses z_read z_next z_wrong z_number z_made z_deep z_lines z_open z_opened h
    unfold m_readsAll_l35 at h
    refine r_iload_n 1 dX12_readsAll_35 rfl ?_
    refine r_if_eq 66 dX12_readsAll_36 (by decide) (fun c3 => ?_) (fun c3 => ?_)
    · replace h := it_pos c3 h
      exact cm_readsAll_j66  h
    · replace h := it_neg c3 h
      refine r_aload_n 0 dX12_readsAll_39 rfl ?_
      obtain ⟨q11, h11, h⟩ := bd_some h
      refine cvM (st := []) (cm_see h11) rfl rfl (Nat.le_of_ble_eq_true rfl) km_see (tb_in (i := 17) (j := 30) rfl rfl) (by decide) rfl dX12_readsAll_40 ?_
      refine r_bipush (x := (59 : Int32)) dX12_readsAll_43 (by decide) ?_
      refine r_icmp_ne 66 dX12_readsAll_45 (by decide) (fun c12 => ?_) (fun c12 => ?_)
      · replace h := it_neg c12 h
        exact cm_readsAll_j66  h
      · replace h := it_pos c12 h
        refine r_aload_n 0 dX12_readsAll_48 rfl ?_
        refine r_dup dX12_readsAll_49 rfl ?_
        refine gM_next rfl dX12_readsAll_50 ?_
        refine r_iconst (x := (1 : Int32)) dX12_readsAll_53 (by decide) ?_
        refine r_iadd dX12_readsAll_54 ?_
        obtain ⟨y13, e13, h⟩ := lt_some h
        refine r_top e13 ?_
        refine pM_next rfl dX12_readsAll_55 ?_
        refine r_aload_n 0 dX12_readsAll_58 rfl ?_
        obtain ⟨q14, h14, h⟩ := bd_some h
        refine cvM (st := []) (cm_clauseHere h14) rfl rfl (Nat.le_of_ble_eq_true rfl) km_clauseHere (tb_in (i := 22) (j := 12) rfl rfl) (by decide) rfl dX12_readsAll_59 ?_
        refine r_istore_n (lv' := [(1, .int q14.1), (0, .ref (ad 0))]) dX12_readsAll_62 (by decide) rfl ?_
        refine r_goto 35 dX12_readsAll_63 (by decide) ?_
        refine r_sub (lv' := [(0, .ref (ad 0)), (1, .int q14.1)]) [1, 0] rfl ?_
        exact ih _ _ _ _ _ _ _ _ _ _ _ _ _ _ h
def m_readsAll (z_tape : Nat → Int32) (z_taped : Int32) (z_sign : Nat → Int32) (z_length : Nat → Int32) (z_clause : Nat → Int32) (z_clauses : Nat → Int32) (z_read : Nat → Int32) (z_next : Int32) (z_wrong : Int32) (z_number : Int32) (z_text : Int32) (z_made : Int32) (z_deep : Int32) (z_lines : Int32) (z_open : Nat → Int32) (z_opened : Int32) : Option (Int32 × Int32 × (Nat → Int32) × (Nat → Int32) × (Nat → Int32) × (Nat → Int32) × (Nat → Int32) × Int32 × Int32 × Int32 × Int32 × Int32 × Int32 × (Nat → Int32) × Int32) := rq (inb z_text 7) (lt (upd z_length z_text.toNatClampNeg (0 : Int32)) (fun u1 => (m_clauseHere z_tape z_taped z_sign u1 z_clause z_clauses z_read (0 : Int32) (0 : Int32) z_number z_text (0 : Int32) z_deep (0 : Int32) z_open z_opened).bind (fun q2 => m_readsAll_l35 z_tape z_taped z_text FU q2.1 q2.2.1 q2.2.2.1 q2.2.2.2.1 q2.2.2.2.2.1 q2.2.2.2.2.2.1 q2.2.2.2.2.2.2.1 q2.2.2.2.2.2.2.2.1 q2.2.2.2.2.2.2.2.2.1 q2.2.2.2.2.2.2.2.2.2.1 q2.2.2.2.2.2.2.2.2.2.2.1 q2.2.2.2.2.2.2.2.2.2.2.2.1 q2.2.2.2.2.2.2.2.2.2.2.2.2.1 q2.2.2.2.2.2.2.2.2.2.2.2.2.2)))
set_option maxRecDepth 20000 in
theorem cm_readsAll {q : Int32 × Int32 × (Nat → Int32) × (Nat → Int32) × (Nat → Int32) × (Nat → Int32) × (Nat → Int32) × Int32 × Int32 × Int32 × Int32 × Int32 × Int32 × (Nat → Int32) × Int32}  (h : m_readsAll z_tape z_taped z_sign z_length z_clause z_clauses z_read z_next z_wrong z_number z_text z_made z_deep z_lines z_open z_opened = some q) : rMet l D Z (ty7 K) Mm_readsAll [.ref (ad 0)] (wM K ad z_tape z_taped z_rules z_sign z_length z_clause z_clauses z_read z_next z_wrong z_number z_text z_made z_deep z_lines z_open z_opened z_stack z_top z_word z_said z_force z_x z_absent z_isRaining z_wasSaid z_undone z_kept z_order z_bestOrder z_hasBy z_wealthThen z_isFit z_tillThen z_drawX z_images z_imageForce z_imageX z_isMade) (wM K ad z_tape q.2.1 z_rules q.2.2.1 q.2.2.2.1 q.2.2.2.2.1 q.2.2.2.2.2.1 q.2.2.2.2.2.2.1 q.2.2.2.2.2.2.2.1 q.2.2.2.2.2.2.2.2.1 q.2.2.2.2.2.2.2.2.2.1 z_text q.2.2.2.2.2.2.2.2.2.2.1 q.2.2.2.2.2.2.2.2.2.2.2.1 q.2.2.2.2.2.2.2.2.2.2.2.2.1 q.2.2.2.2.2.2.2.2.2.2.2.2.2.1 q.2.2.2.2.2.2.2.2.2.2.2.2.2.2 z_stack z_top z_word z_said z_force z_x z_absent z_isRaining z_wasSaid z_undone z_kept z_order z_bestOrder z_hasBy z_wealthThen z_isFit z_tillThen z_drawX z_images z_imageForce z_imageX z_isMade) (some (.int q.1)) := by
  refine rMet.of (by decide) rfl (Nat.le_of_ble_eq_true rfl) ?_
  refine r_sub (lv' := [(0, .ref (ad 0))]) [0] rfl ?_
  unfold m_readsAll at h
  refine r_aload_n 0 dX12_readsAll_0 rfl ?_
  refine gM_length rfl dX12_readsAll_1 ?_
  refine r_aload_n 0 dX12_readsAll_4 rfl ?_
  refine gM_text rfl dX12_readsAll_5 ?_
  refine r_iconst (x := (0 : Int32)) dX12_readsAll_8 (by decide) ?_
  obtain ⟨h1, h⟩ := rq_some h
  obtain ⟨u1, e1, h⟩ := lt_some h
  refine sM_length e1 (inb_in h1) dX12_readsAll_9 ?_
  refine r_aload_n 0 dX12_readsAll_10 rfl ?_
  refine r_iconst (x := (0 : Int32)) dX12_readsAll_11 (by decide) ?_
  refine pM_lines rfl dX12_readsAll_12 ?_
  refine r_aload_n 0 dX12_readsAll_15 rfl ?_
  refine r_iconst (x := (0 : Int32)) dX12_readsAll_16 (by decide) ?_
  refine pM_next rfl dX12_readsAll_17 ?_
  refine r_aload_n 0 dX12_readsAll_20 rfl ?_
  refine r_iconst (x := (0 : Int32)) dX12_readsAll_21 (by decide) ?_
  refine pM_wrong rfl dX12_readsAll_22 ?_
  refine r_aload_n 0 dX12_readsAll_25 rfl ?_
  refine r_iconst (x := (0 : Int32)) dX12_readsAll_26 (by decide) ?_
  refine pM_made rfl dX12_readsAll_27 ?_
  refine r_aload_n 0 dX12_readsAll_30 rfl ?_
  obtain ⟨q2, h2, h⟩ := bd_some h
  refine cvM (st := []) (cm_clauseHere h2) rfl rfl (Nat.le_of_ble_eq_true rfl) km_clauseHere (tb_in (i := 22) (j := 12) rfl rfl) (by decide) rfl dX12_readsAll_31 ?_
  refine r_istore_n (lv' := [(1, .int q2.1), (0, .ref (ad 0))]) dX12_readsAll_34 (by decide) rfl ?_
  refine r_sub (lv' := [(0, .ref (ad 0)), (1, .int q2.1)]) [1, 0] rfl ?_
  exact cm_readsAll_l35  FU _ _ _ _ _ _ _ _ _ _ _ _ _ _ h
theorem dX12_rule_0 : decode cX12_rule 0 = .ok (.aload_n 0, 1) := by decide +kernel
theorem dX12_rule_1 : decode cX12_rule 1 = .ok (.getfield 259, 3) := by decide +kernel
theorem dX12_rule_4 : decode cX12_rule 4 = .ok (.bipush 6, 2) := by decide +kernel
theorem dX12_rule_6 : decode cX12_rule 6 = .ok (.if_icmp .ne 5, 3) := by decide +kernel
theorem dX12_rule_9 : decode cX12_rule 9 = .ok (.iconst (-1), 1) := by decide +kernel
theorem dX12_rule_10 : decode cX12_rule 10 = .ok (.ireturn, 1) := by decide +kernel
theorem dX12_rule_11 : decode cX12_rule 11 = .ok (.aload_n 0, 1) := by decide +kernel
theorem dX12_rule_12 : decode cX12_rule 12 = .ok (.aload_n 0, 1) := by decide +kernel
theorem dX12_rule_13 : decode cX12_rule 13 = .ok (.getfield 259, 3) := by decide +kernel
theorem dX12_rule_16 : decode cX12_rule 16 = .ok (.putfield 152, 3) := by decide +kernel
theorem dX12_rule_19 : decode cX12_rule 19 = .ok (.aload_n 0, 1) := by decide +kernel
theorem dX12_rule_20 : decode cX12_rule 20 = .ok (.getfield 23, 3) := by decide +kernel
theorem dX12_rule_23 : decode cX12_rule 23 = .ok (.aload_n 0, 1) := by decide +kernel
theorem dX12_rule_24 : decode cX12_rule 24 = .ok (.getfield 152, 3) := by decide +kernel
theorem dX12_rule_27 : decode cX12_rule 27 = .ok (.iconst 0, 1) := by decide +kernel
theorem dX12_rule_28 : decode cX12_rule 28 = .ok (.iastore, 1) := by decide +kernel
theorem dX12_rule_29 : decode cX12_rule 29 = .ok (.aload_n 0, 1) := by decide +kernel
theorem dX12_rule_30 : decode cX12_rule 30 = .ok (.invokevirtual 262, 3) := by decide +kernel
theorem dX12_rule_33 : decode cX12_rule 33 = .ok (.ifCond .ne 11, 3) := by decide +kernel
theorem dX12_rule_36 : decode cX12_rule 36 = .ok (.bipush (-2), 2) := by decide +kernel
theorem dX12_rule_38 : decode cX12_rule 38 = .ok (.aload_n 0, 1) := by decide +kernel
theorem dX12_rule_39 : decode cX12_rule 39 = .ok (.getfield 93, 3) := by decide +kernel
theorem dX12_rule_42 : decode cX12_rule 42 = .ok (.isub, 1) := by decide +kernel
theorem dX12_rule_43 : decode cX12_rule 43 = .ok (.ireturn, 1) := by decide +kernel
theorem dX12_rule_44 : decode cX12_rule 44 = .ok (.aload_n 0, 1) := by decide +kernel
theorem dX12_rule_45 : decode cX12_rule 45 = .ok (.dup, 1) := by decide +kernel
theorem dX12_rule_46 : decode cX12_rule 46 = .ok (.getfield 259, 3) := by decide +kernel
theorem dX12_rule_49 : decode cX12_rule 49 = .ok (.iconst 1, 1) := by decide +kernel
theorem dX12_rule_50 : decode cX12_rule 50 = .ok (.iadd, 1) := by decide +kernel
theorem dX12_rule_51 : decode cX12_rule 51 = .ok (.putfield 259, 3) := by decide +kernel
theorem dX12_rule_54 : decode cX12_rule 54 = .ok (.aload_n 0, 1) := by decide +kernel
theorem dX12_rule_55 : decode cX12_rule 55 = .ok (.getfield 259, 3) := by decide +kernel
theorem dX12_rule_58 : decode cX12_rule 58 = .ok (.iconst 1, 1) := by decide +kernel
theorem dX12_rule_59 : decode cX12_rule 59 = .ok (.isub, 1) := by decide +kernel
theorem dX12_rule_60 : decode cX12_rule 60 = .ok (.ireturn, 1) := by decide +kernel
abbrev Mm_rule : rx_M := (RX12, yX12_rule, cX12_rule, 1, (some .int), 13)
theorem km_rule : rKv Mm_rule 0 := ⟨tb_in (i := 31) (j := 6) rfl rfl, tb_in (i := 31) (j := 7) rfl rfl, tb_in (i := 17) (j := 21) rfl rfl, tb_in (i := 22) (j := 20) rfl rfl, ⟨by decide, by decide, by decide +kernel⟩, by decide⟩
def m_rule (z_tape : Nat → Int32) (z_taped : Int32) (z_rules : Int32) (z_sign : Nat → Int32) (z_length : Nat → Int32) (z_clause : Nat → Int32) (z_clauses : Nat → Int32) (z_read : Nat → Int32) (z_next : Int32) (z_wrong : Int32) (z_number : Int32) (z_text : Int32) (z_made : Int32) (z_deep : Int32) (z_lines : Int32) (z_open : Nat → Int32) (z_opened : Int32) : Option (Int32 × Int32 × Int32 × (Nat → Int32) × (Nat → Int32) × (Nat → Int32) × (Nat → Int32) × (Nat → Int32) × Int32 × Int32 × Int32 × Int32 × Int32 × Int32 × Int32 × (Nat → Int32) × Int32) := (if z_rules = (6 : Int32) then some ((-1 : Int32), z_taped, z_rules, z_sign, z_length, z_clause, z_clauses, z_read, z_next, z_wrong, z_number, z_text, z_made, z_deep, z_lines, z_open, z_opened) else rq (inb z_rules 6) (lt (upd z_clauses z_rules.toNatClampNeg (0 : Int32)) (fun u2 => (m_readsAll z_tape z_taped z_sign z_length z_clause u2 z_read z_next z_wrong z_number z_rules z_made z_deep z_lines z_open z_opened).bind (fun q3 => (if q3.1 = 0 then some (((-2 : Int32) - q3.2.2.2.2.2.2.2.2.1), q3.2.1, z_rules, q3.2.2.1, q3.2.2.2.1, q3.2.2.2.2.1, q3.2.2.2.2.2.1, q3.2.2.2.2.2.2.1, q3.2.2.2.2.2.2.2.1, q3.2.2.2.2.2.2.2.2.1, q3.2.2.2.2.2.2.2.2.2.1, z_rules, q3.2.2.2.2.2.2.2.2.2.2.1, q3.2.2.2.2.2.2.2.2.2.2.2.1, q3.2.2.2.2.2.2.2.2.2.2.2.2.1, q3.2.2.2.2.2.2.2.2.2.2.2.2.2.1, q3.2.2.2.2.2.2.2.2.2.2.2.2.2.2) else lt (z_rules + (1 : Int32)) (fun y5 => some ((y5 - (1 : Int32)), q3.2.1, y5, q3.2.2.1, q3.2.2.2.1, q3.2.2.2.2.1, q3.2.2.2.2.2.1, q3.2.2.2.2.2.2.1, q3.2.2.2.2.2.2.2.1, q3.2.2.2.2.2.2.2.2.1, q3.2.2.2.2.2.2.2.2.2.1, z_rules, q3.2.2.2.2.2.2.2.2.2.2.1, q3.2.2.2.2.2.2.2.2.2.2.2.1, q3.2.2.2.2.2.2.2.2.2.2.2.2.1, q3.2.2.2.2.2.2.2.2.2.2.2.2.2.1, q3.2.2.2.2.2.2.2.2.2.2.2.2.2.2)))))))
set_option maxRecDepth 20000 in
theorem cm_rule {q : Int32 × Int32 × Int32 × (Nat → Int32) × (Nat → Int32) × (Nat → Int32) × (Nat → Int32) × (Nat → Int32) × Int32 × Int32 × Int32 × Int32 × Int32 × Int32 × Int32 × (Nat → Int32) × Int32}  (h : m_rule z_tape z_taped z_rules z_sign z_length z_clause z_clauses z_read z_next z_wrong z_number z_text z_made z_deep z_lines z_open z_opened = some q) : rMet l D Z (ty7 K) Mm_rule [.ref (ad 0)] (wM K ad z_tape z_taped z_rules z_sign z_length z_clause z_clauses z_read z_next z_wrong z_number z_text z_made z_deep z_lines z_open z_opened z_stack z_top z_word z_said z_force z_x z_absent z_isRaining z_wasSaid z_undone z_kept z_order z_bestOrder z_hasBy z_wealthThen z_isFit z_tillThen z_drawX z_images z_imageForce z_imageX z_isMade) (wM K ad z_tape q.2.1 q.2.2.1 q.2.2.2.1 q.2.2.2.2.1 q.2.2.2.2.2.1 q.2.2.2.2.2.2.1 q.2.2.2.2.2.2.2.1 q.2.2.2.2.2.2.2.2.1 q.2.2.2.2.2.2.2.2.2.1 q.2.2.2.2.2.2.2.2.2.2.1 q.2.2.2.2.2.2.2.2.2.2.2.1 q.2.2.2.2.2.2.2.2.2.2.2.2.1 q.2.2.2.2.2.2.2.2.2.2.2.2.2.1 q.2.2.2.2.2.2.2.2.2.2.2.2.2.2.1 q.2.2.2.2.2.2.2.2.2.2.2.2.2.2.2.1 q.2.2.2.2.2.2.2.2.2.2.2.2.2.2.2.2 z_stack z_top z_word z_said z_force z_x z_absent z_isRaining z_wasSaid z_undone z_kept z_order z_bestOrder z_hasBy z_wealthThen z_isFit z_tillThen z_drawX z_images z_imageForce z_imageX z_isMade) (some (.int q.1)) := by
  refine rMet.of (by decide) rfl (Nat.le_of_ble_eq_true rfl) ?_
  refine r_sub (lv' := [(0, .ref (ad 0))]) [0] rfl ?_
  unfold m_rule at h
  refine r_aload_n 0 dX12_rule_0 rfl ?_
  refine gM_rules rfl dX12_rule_1 ?_
  refine r_bipush (x := (6 : Int32)) dX12_rule_4 (by decide) ?_
  refine r_icmp_ne 11 dX12_rule_6 (by decide) (fun c1 => ?_) (fun c1 => ?_)
  · replace h := it_neg c1 h
    refine r_aload_n 0 dX12_rule_11 rfl ?_
    refine r_aload_n 0 dX12_rule_12 rfl ?_
    refine gM_rules rfl dX12_rule_13 ?_
    refine pM_text rfl dX12_rule_16 ?_
    refine r_aload_n 0 dX12_rule_19 rfl ?_
    refine gM_clauses rfl dX12_rule_20 ?_
    refine r_aload_n 0 dX12_rule_23 rfl ?_
    refine gM_text rfl dX12_rule_24 ?_
    refine r_iconst (x := (0 : Int32)) dX12_rule_27 (by decide) ?_
    obtain ⟨h2, h⟩ := rq_some h
    obtain ⟨u2, e2, h⟩ := lt_some h
    refine sM_clauses e2 (inb_in h2) dX12_rule_28 ?_
    refine r_aload_n 0 dX12_rule_29 rfl ?_
    obtain ⟨q3, h3, h⟩ := bd_some h
    refine cvM (st := []) (cm_readsAll h3) rfl rfl (Nat.le_of_ble_eq_true rfl) km_readsAll (tb_in (i := 22) (j := 17) rfl rfl) (by decide) rfl dX12_rule_30 ?_
    refine r_if_ne 44 dX12_rule_33 (by decide) (fun c4 => ?_) (fun c4 => ?_)
    · replace h := it_neg c4 h
      refine r_aload_n 0 dX12_rule_44 rfl ?_
      refine r_dup dX12_rule_45 rfl ?_
      refine gM_rules rfl dX12_rule_46 ?_
      refine r_iconst (x := (1 : Int32)) dX12_rule_49 (by decide) ?_
      refine r_iadd dX12_rule_50 ?_
      obtain ⟨y5, e5, h⟩ := lt_some h
      refine r_top e5 ?_
      refine pM_rules rfl dX12_rule_51 ?_
      refine r_aload_n 0 dX12_rule_54 rfl ?_
      refine gM_rules rfl dX12_rule_55 ?_
      refine r_iconst (x := (1 : Int32)) dX12_rule_58 (by decide) ?_
      refine r_isub dX12_rule_59 ?_
      have hq := Option.some.inj h
      subst hq
      exact r_iret rfl dX12_rule_60
    · replace h := it_pos c4 h
      refine r_bipush (x := (-2 : Int32)) dX12_rule_36 (by decide) ?_
      refine r_aload_n 0 dX12_rule_38 rfl ?_
      refine gM_wrong rfl dX12_rule_39 ?_
      refine r_isub dX12_rule_42 ?_
      have hq := Option.some.inj h
      subst hq
      exact r_iret rfl dX12_rule_43
  · replace h := it_pos c1 h
    refine r_iconst (x := (-1 : Int32)) dX12_rule_9 (by decide) ?_
    have hq := Option.some.inj h
    subst hq
    exact r_iret rfl dX12_rule_10
theorem dX12_begins_0 : decode cX12_begins 0 = .ok (.aload_n 0, 1) := by decide +kernel
theorem dX12_begins_1 : decode cX12_begins 1 = .ok (.getfield 39, 3) := by decide +kernel
theorem dX12_begins_4 : decode cX12_begins 4 = .ok (.bipush 10, 2) := by decide +kernel
theorem dX12_begins_6 : decode cX12_begins 6 = .ok (.iconst 0, 1) := by decide +kernel
theorem dX12_begins_7 : decode cX12_begins 7 = .ok (.iastore, 1) := by decide +kernel
theorem dX12_begins_8 : decode cX12_begins 8 = .ok (.iconst 0, 1) := by decide +kernel
theorem dX12_begins_9 : decode cX12_begins 9 = .ok (.istore_n 1, 1) := by decide +kernel
theorem dX12_begins_10 : decode cX12_begins 10 = .ok (.iload_n 1, 1) := by decide +kernel
theorem dX12_begins_11 : decode cX12_begins 11 = .ok (.bipush 6, 2) := by decide +kernel
theorem dX12_begins_13 : decode cX12_begins 13 = .ok (.if_icmp .ge 112, 3) := by decide +kernel
theorem dX12_begins_16 : decode cX12_begins 16 = .ok (.bipush 11, 2) := by decide +kernel
theorem dX12_begins_18 : decode cX12_begins 18 = .ok (.iconst 4, 1) := by decide +kernel
theorem dX12_begins_19 : decode cX12_begins 19 = .ok (.iload_n 1, 1) := by decide +kernel
theorem dX12_begins_20 : decode cX12_begins 20 = .ok (.imul, 1) := by decide +kernel
theorem dX12_begins_21 : decode cX12_begins 21 = .ok (.iadd, 1) := by decide +kernel
theorem dX12_begins_22 : decode cX12_begins 22 = .ok (.istore_n 2, 1) := by decide +kernel
theorem dX12_begins_23 : decode cX12_begins 23 = .ok (.aload_n 0, 1) := by decide +kernel
theorem dX12_begins_24 : decode cX12_begins 24 = .ok (.getfield 39, 3) := by decide +kernel
theorem dX12_begins_27 : decode cX12_begins 27 = .ok (.iload_n 2, 1) := by decide +kernel
theorem dX12_begins_28 : decode cX12_begins 28 = .ok (.aload_n 0, 1) := by decide +kernel
theorem dX12_begins_29 : decode cX12_begins 29 = .ok (.getfield 39, 3) := by decide +kernel
theorem dX12_begins_32 : decode cX12_begins 32 = .ok (.bipush 101, 2) := by decide +kernel
theorem dX12_begins_34 : decode cX12_begins 34 = .ok (.iload_n 1, 1) := by decide +kernel
theorem dX12_begins_35 : decode cX12_begins 35 = .ok (.iadd, 1) := by decide +kernel
theorem dX12_begins_36 : decode cX12_begins 36 = .ok (.iaload, 1) := by decide +kernel
theorem dX12_begins_37 : decode cX12_begins 37 = .ok (.iastore, 1) := by decide +kernel
theorem dX12_begins_38 : decode cX12_begins 38 = .ok (.aload_n 0, 1) := by decide +kernel
theorem dX12_begins_39 : decode cX12_begins 39 = .ok (.getfield 39, 3) := by decide +kernel
theorem dX12_begins_42 : decode cX12_begins 42 = .ok (.iload_n 2, 1) := by decide +kernel
theorem dX12_begins_43 : decode cX12_begins 43 = .ok (.iconst 1, 1) := by decide +kernel
theorem dX12_begins_44 : decode cX12_begins 44 = .ok (.iadd, 1) := by decide +kernel
theorem dX12_begins_45 : decode cX12_begins 45 = .ok (.aload_n 0, 1) := by decide +kernel
theorem dX12_begins_46 : decode cX12_begins 46 = .ok (.getfield 39, 3) := by decide +kernel
theorem dX12_begins_49 : decode cX12_begins 49 = .ok (.bipush 107, 2) := by decide +kernel
theorem dX12_begins_51 : decode cX12_begins 51 = .ok (.iload_n 1, 1) := by decide +kernel
theorem dX12_begins_52 : decode cX12_begins 52 = .ok (.iadd, 1) := by decide +kernel
theorem dX12_begins_53 : decode cX12_begins 53 = .ok (.iaload, 1) := by decide +kernel
theorem dX12_begins_54 : decode cX12_begins 54 = .ok (.iastore, 1) := by decide +kernel
theorem dX12_begins_55 : decode cX12_begins 55 = .ok (.aload_n 0, 1) := by decide +kernel
theorem dX12_begins_56 : decode cX12_begins 56 = .ok (.getfield 39, 3) := by decide +kernel
theorem dX12_begins_59 : decode cX12_begins 59 = .ok (.iload_n 2, 1) := by decide +kernel
theorem dX12_begins_60 : decode cX12_begins 60 = .ok (.iconst 2, 1) := by decide +kernel
theorem dX12_begins_61 : decode cX12_begins 61 = .ok (.iadd, 1) := by decide +kernel
theorem dX12_begins_62 : decode cX12_begins 62 = .ok (.iconst 0, 1) := by decide +kernel
theorem dX12_begins_63 : decode cX12_begins 63 = .ok (.iastore, 1) := by decide +kernel
theorem dX12_begins_64 : decode cX12_begins 64 = .ok (.aload_n 0, 1) := by decide +kernel
theorem dX12_begins_65 : decode cX12_begins 65 = .ok (.getfield 39, 3) := by decide +kernel
theorem dX12_begins_68 : decode cX12_begins 68 = .ok (.iload_n 2, 1) := by decide +kernel
theorem dX12_begins_69 : decode cX12_begins 69 = .ok (.iconst 3, 1) := by decide +kernel
theorem dX12_begins_70 : decode cX12_begins 70 = .ok (.iadd, 1) := by decide +kernel
theorem dX12_begins_71 : decode cX12_begins 71 = .ok (.iconst 0, 1) := by decide +kernel
theorem dX12_begins_72 : decode cX12_begins 72 = .ok (.iastore, 1) := by decide +kernel
theorem dX12_begins_73 : decode cX12_begins 73 = .ok (.aload_n 0, 1) := by decide +kernel
theorem dX12_begins_74 : decode cX12_begins 74 = .ok (.getfield 39, 3) := by decide +kernel
theorem dX12_begins_77 : decode cX12_begins 77 = .ok (.bipush 35, 2) := by decide +kernel
theorem dX12_begins_79 : decode cX12_begins 79 = .ok (.iload_n 1, 1) := by decide +kernel
theorem dX12_begins_80 : decode cX12_begins 80 = .ok (.iadd, 1) := by decide +kernel
theorem dX12_begins_81 : decode cX12_begins 81 = .ok (.iload_n 1, 1) := by decide +kernel
theorem dX12_begins_82 : decode cX12_begins 82 = .ok (.iastore, 1) := by decide +kernel
theorem dX12_begins_83 : decode cX12_begins 83 = .ok (.aload_n 0, 1) := by decide +kernel
theorem dX12_begins_84 : decode cX12_begins 84 = .ok (.getfield 39, 3) := by decide +kernel
theorem dX12_begins_87 : decode cX12_begins 87 = .ok (.bipush 41, 2) := by decide +kernel
theorem dX12_begins_89 : decode cX12_begins 89 = .ok (.iload_n 1, 1) := by decide +kernel
theorem dX12_begins_90 : decode cX12_begins 90 = .ok (.iadd, 1) := by decide +kernel
theorem dX12_begins_91 : decode cX12_begins 91 = .ok (.aload_n 0, 1) := by decide +kernel
theorem dX12_begins_92 : decode cX12_begins 92 = .ok (.getfield 39, 3) := by decide +kernel
theorem dX12_begins_95 : decode cX12_begins 95 = .ok (.bipush 113, 2) := by decide +kernel
theorem dX12_begins_97 : decode cX12_begins 97 = .ok (.iload_n 1, 1) := by decide +kernel
theorem dX12_begins_98 : decode cX12_begins 98 = .ok (.iadd, 1) := by decide +kernel
theorem dX12_begins_99 : decode cX12_begins 99 = .ok (.iaload, 1) := by decide +kernel
theorem dX12_begins_100 : decode cX12_begins 100 = .ok (.iastore, 1) := by decide +kernel
theorem dX12_begins_101 : decode cX12_begins 101 = .ok (.aload_n 0, 1) := by decide +kernel
theorem dX12_begins_102 : decode cX12_begins 102 = .ok (.getfield 39, 3) := by decide +kernel
theorem dX12_begins_105 : decode cX12_begins 105 = .ok (.bipush 47, 2) := by decide +kernel
theorem dX12_begins_107 : decode cX12_begins 107 = .ok (.iload_n 1, 1) := by decide +kernel
theorem dX12_begins_108 : decode cX12_begins 108 = .ok (.iadd, 1) := by decide +kernel
theorem dX12_begins_109 : decode cX12_begins 109 = .ok (.aload_n 0, 1) := by decide +kernel
theorem dX12_begins_110 : decode cX12_begins 110 = .ok (.getfield 39, 3) := by decide +kernel
theorem dX12_begins_113 : decode cX12_begins 113 = .ok (.bipush 119, 2) := by decide +kernel
theorem dX12_begins_115 : decode cX12_begins 115 = .ok (.iload_n 1, 1) := by decide +kernel
theorem dX12_begins_116 : decode cX12_begins 116 = .ok (.iadd, 1) := by decide +kernel
theorem dX12_begins_117 : decode cX12_begins 117 = .ok (.iaload, 1) := by decide +kernel
theorem dX12_begins_118 : decode cX12_begins 118 = .ok (.iastore, 1) := by decide +kernel
theorem dX12_begins_119 : decode cX12_begins 119 = .ok (.iinc 1 1, 3) := by decide +kernel
theorem dX12_begins_122 : decode cX12_begins 122 = .ok (.goto (-112), 3) := by decide +kernel
theorem dX12_begins_125 : decode cX12_begins 125 = .ok (.iconst 0, 1) := by decide +kernel
theorem dX12_begins_126 : decode cX12_begins 126 = .ok (.istore_n 1, 1) := by decide +kernel
theorem dX12_begins_127 : decode cX12_begins 127 = .ok (.iload_n 1, 1) := by decide +kernel
theorem dX12_begins_128 : decode cX12_begins 128 = .ok (.bipush 36, 2) := by decide +kernel
theorem dX12_begins_130 : decode cX12_begins 130 = .ok (.if_icmp .ge 19, 3) := by decide +kernel
theorem dX12_begins_133 : decode cX12_begins 133 = .ok (.aload_n 0, 1) := by decide +kernel
theorem dX12_begins_134 : decode cX12_begins 134 = .ok (.getfield 39, 3) := by decide +kernel
theorem dX12_begins_137 : decode cX12_begins 137 = .ok (.bipush 53, 2) := by decide +kernel
theorem dX12_begins_139 : decode cX12_begins 139 = .ok (.iload_n 1, 1) := by decide +kernel
theorem dX12_begins_140 : decode cX12_begins 140 = .ok (.iadd, 1) := by decide +kernel
theorem dX12_begins_141 : decode cX12_begins 141 = .ok (.iconst 0, 1) := by decide +kernel
theorem dX12_begins_142 : decode cX12_begins 142 = .ok (.iastore, 1) := by decide +kernel
theorem dX12_begins_143 : decode cX12_begins 143 = .ok (.iinc 1 1, 3) := by decide +kernel
theorem dX12_begins_146 : decode cX12_begins 146 = .ok (.goto (-19), 3) := by decide +kernel
theorem dX12_begins_149 : decode cX12_begins 149 = .ok (.return_, 1) := by decide +kernel
abbrev Mm_begins : rx_M := (RX12, yX12_begins, cX12_begins, 3, none, 1)
theorem km_begins : rKv Mm_begins 0 := ⟨tb_in (i := 22) (j := 24) rfl rfl, tb_in (i := 22) (j := 25) rfl rfl, tb_in (i := 17) (j := 21) rfl rfl, tb_in (i := 22) (j := 21) rfl rfl, ⟨by decide, by decide, by decide +kernel⟩, by decide⟩
def m_begins_l127  : Nat → Int32 → (Nat → Int32) → Option ((Nat → Int32))
  | 0, _, _ => none
  | n + 1, x1, z_said => (if (36 : Int32) ≤ x1 then some (z_said) else rq (inb ((53 : Int32) + x1) 156) (lt (upd z_said ((53 : Int32) + x1).toNatClampNeg (0 : Int32)) (fun u4 => m_begins_l127 n (x1 + (1 : Int32)) u4)))
set_option maxRecDepth 20000 in
theorem cm_begins_l127 {q : (Nat → Int32)}   : ∀ (n : Nat) (x1 : Int32) (z_said : Nat → Int32), m_begins_l127 n x1 z_said = some q → rW l D Z (ty7 K) Mm_begins 127 [(0, .ref (ad 0)), (1, .int x1)] [] (wM K ad z_tape z_taped z_rules z_sign z_length z_clause z_clauses z_read z_next z_wrong z_number z_text z_made z_deep z_lines z_open z_opened z_stack z_top z_word z_said z_force z_x z_absent z_isRaining z_wasSaid z_undone z_kept z_order z_bestOrder z_hasBy z_wealthThen z_isFit z_tillThen z_drawX z_images z_imageForce z_imageX z_isMade) (wM K ad z_tape z_taped z_rules z_sign z_length z_clause z_clauses z_read z_next z_wrong z_number z_text z_made z_deep z_lines z_open z_opened z_stack z_top z_word q z_force z_x z_absent z_isRaining z_wasSaid z_undone z_kept z_order z_bestOrder z_hasBy z_wealthThen z_isFit z_tillThen z_drawX z_images z_imageForce z_imageX z_isMade) none := by
  intro n
  induction n with
  | zero => intro x1 z_said h; unfold m_begins_l127 at h; cases h
  | succ n ih =>
    intro x1 z_said h
    unfold m_begins_l127 at h
    refine r_iload_n 1 dX12_begins_127 rfl ?_
    refine r_bipush (x := (36 : Int32)) dX12_begins_128 (by decide) ?_
    refine r_icmp_ge 149 dX12_begins_130 (by decide) (fun c3 => ?_) (fun c3 => ?_)
    · replace h := it_pos c3 h
      have hq := Option.some.inj h
      subst hq
      exact r_vret rfl dX12_begins_149
    · replace h := it_neg c3 h
      refine r_aload_n 0 dX12_begins_133 rfl ?_
      refine gM_said rfl dX12_begins_134 ?_
      refine r_bipush (x := (53 : Int32)) dX12_begins_137 (by decide) ?_
      refine r_iload_n 1 dX12_begins_139 rfl ?_
      refine r_iadd dX12_begins_140 ?_
      refine r_iconst (x := (0 : Int32)) dX12_begins_141 (by decide) ?_
      obtain ⟨h4, h⟩ := rq_some h
      obtain ⟨u4, e4, h⟩ := lt_some h
      refine sM_said e4 (inb_in h4) dX12_begins_142 ?_
      refine r_iinc (y := (x1 + (1 : Int32))) (lv' := [(1, .int (x1 + (1 : Int32))), (0, .ref (ad 0))]) 1 dX12_begins_143 rfl rfl (by decide) rfl ?_
      refine r_goto 127 dX12_begins_146 (by decide) ?_
      refine r_sub (lv' := [(0, .ref (ad 0)), (1, .int (x1 + (1 : Int32)))]) [1, 0] rfl ?_
      exact ih _ _ h
def m_begins_l10  : Nat → Int32 → (Nat → Int32) → Option ((Nat → Int32))
  | 0, _, _ => none
  | n + 1, x1, z_said => (if (6 : Int32) ≤ x1 then m_begins_l127 FU (0 : Int32) z_said else lt ((11 : Int32) + ((4 : Int32) * x1)) (fun y5 => rq (inb ((101 : Int32) + x1) 156) (rq (inb y5 156) (lt (upd z_said y5.toNatClampNeg (z_said ((101 : Int32) + x1).toNatClampNeg)) (fun u7 => rq (inb ((107 : Int32) + x1) 156) (rq (inb (y5 + (1 : Int32)) 156) (lt (upd u7 (y5 + (1 : Int32)).toNatClampNeg (u7 ((107 : Int32) + x1).toNatClampNeg)) (fun u9 => rq (inb (y5 + (2 : Int32)) 156) (lt (upd u9 (y5 + (2 : Int32)).toNatClampNeg (0 : Int32)) (fun u10 => rq (inb (y5 + (3 : Int32)) 156) (lt (upd u10 (y5 + (3 : Int32)).toNatClampNeg (0 : Int32)) (fun u11 => rq (inb ((35 : Int32) + x1) 156) (lt (upd u11 ((35 : Int32) + x1).toNatClampNeg x1) (fun u12 => rq (inb ((113 : Int32) + x1) 156) (rq (inb ((41 : Int32) + x1) 156) (lt (upd u12 ((41 : Int32) + x1).toNatClampNeg (u12 ((113 : Int32) + x1).toNatClampNeg)) (fun u14 => rq (inb ((119 : Int32) + x1) 156) (rq (inb ((47 : Int32) + x1) 156) (lt (upd u14 ((47 : Int32) + x1).toNatClampNeg (u14 ((119 : Int32) + x1).toNatClampNeg)) (fun u16 => m_begins_l10 n (x1 + (1 : Int32)) u16))))))))))))))))))))
set_option maxRecDepth 20000 in
theorem cm_begins_l10 {q : (Nat → Int32)}   : ∀ (n : Nat) (x1 : Int32) (z_said : Nat → Int32), m_begins_l10 n x1 z_said = some q → rW l D Z (ty7 K) Mm_begins 10 [(0, .ref (ad 0)), (1, .int x1)] [] (wM K ad z_tape z_taped z_rules z_sign z_length z_clause z_clauses z_read z_next z_wrong z_number z_text z_made z_deep z_lines z_open z_opened z_stack z_top z_word z_said z_force z_x z_absent z_isRaining z_wasSaid z_undone z_kept z_order z_bestOrder z_hasBy z_wealthThen z_isFit z_tillThen z_drawX z_images z_imageForce z_imageX z_isMade) (wM K ad z_tape z_taped z_rules z_sign z_length z_clause z_clauses z_read z_next z_wrong z_number z_text z_made z_deep z_lines z_open z_opened z_stack z_top z_word q z_force z_x z_absent z_isRaining z_wasSaid z_undone z_kept z_order z_bestOrder z_hasBy z_wealthThen z_isFit z_tillThen z_drawX z_images z_imageForce z_imageX z_isMade) none := by
  intro n
  induction n with
  | zero => intro x1 z_said h; unfold m_begins_l10 at h; cases h
  | succ n ih =>
    intro x1 z_said h
    unfold m_begins_l10 at h
    refine r_iload_n 1 dX12_begins_10 rfl ?_
    refine r_bipush (x := (6 : Int32)) dX12_begins_11 (by decide) ?_
    refine r_icmp_ge 125 dX12_begins_13 (by decide) (fun c2 => ?_) (fun c2 => ?_)
    · replace h := it_pos c2 h
      refine r_iconst (x := (0 : Int32)) dX12_begins_125 (by decide) ?_
      refine r_istore_n (lv' := [(1, .int (0 : Int32)), (0, .ref (ad 0))]) dX12_begins_126 (by decide) rfl ?_
      refine r_sub (lv' := [(0, .ref (ad 0)), (1, .int (0 : Int32))]) [1, 0] rfl ?_
      exact cm_begins_l127  FU _ _ h
    · replace h := it_neg c2 h
      refine r_bipush (x := (11 : Int32)) dX12_begins_16 (by decide) ?_
      refine r_iconst (x := (4 : Int32)) dX12_begins_18 (by decide) ?_
      refine r_iload_n 1 dX12_begins_19 rfl ?_
      refine r_imul dX12_begins_20 ?_
      refine r_iadd dX12_begins_21 ?_
      obtain ⟨y5, e5, h⟩ := lt_some h
      refine r_top e5 ?_
      refine r_istore_n (lv' := [(2, .int y5), (0, .ref (ad 0)), (1, .int x1)]) dX12_begins_22 (by decide) rfl ?_
      refine r_aload_n 1 dX12_begins_23 rfl ?_
      refine gM_said rfl dX12_begins_24 ?_
      refine r_iload_n 0 dX12_begins_27 rfl ?_
      refine r_aload_n 1 dX12_begins_28 rfl ?_
      refine gM_said rfl dX12_begins_29 ?_
      refine r_bipush (x := (101 : Int32)) dX12_begins_32 (by decide) ?_
      refine r_iload_n 2 dX12_begins_34 rfl ?_
      refine r_iadd dX12_begins_35 ?_
      obtain ⟨h6, h⟩ := rq_some h
      refine lM_said (inb_in h6) dX12_begins_36 ?_
      obtain ⟨h7, h⟩ := rq_some h
      obtain ⟨u7, e7, h⟩ := lt_some h
      refine sM_said e7 (inb_in h7) dX12_begins_37 ?_
      refine r_aload_n 1 dX12_begins_38 rfl ?_
      refine gM_said rfl dX12_begins_39 ?_
      refine r_iload_n 0 dX12_begins_42 rfl ?_
      refine r_iconst (x := (1 : Int32)) dX12_begins_43 (by decide) ?_
      refine r_iadd dX12_begins_44 ?_
      refine r_aload_n 1 dX12_begins_45 rfl ?_
      refine gM_said rfl dX12_begins_46 ?_
      refine r_bipush (x := (107 : Int32)) dX12_begins_49 (by decide) ?_
      refine r_iload_n 2 dX12_begins_51 rfl ?_
      refine r_iadd dX12_begins_52 ?_
      obtain ⟨h8, h⟩ := rq_some h
      refine lM_said (inb_in h8) dX12_begins_53 ?_
      obtain ⟨h9, h⟩ := rq_some h
      obtain ⟨u9, e9, h⟩ := lt_some h
      refine sM_said e9 (inb_in h9) dX12_begins_54 ?_
      refine r_aload_n 1 dX12_begins_55 rfl ?_
      refine gM_said rfl dX12_begins_56 ?_
      refine r_iload_n 0 dX12_begins_59 rfl ?_
      refine r_iconst (x := (2 : Int32)) dX12_begins_60 (by decide) ?_
      refine r_iadd dX12_begins_61 ?_
      refine r_iconst (x := (0 : Int32)) dX12_begins_62 (by decide) ?_
      obtain ⟨h10, h⟩ := rq_some h
      obtain ⟨u10, e10, h⟩ := lt_some h
      refine sM_said e10 (inb_in h10) dX12_begins_63 ?_
      refine r_aload_n 1 dX12_begins_64 rfl ?_
      refine gM_said rfl dX12_begins_65 ?_
      refine r_iload_n 0 dX12_begins_68 rfl ?_
      refine r_iconst (x := (3 : Int32)) dX12_begins_69 (by decide) ?_
      refine r_iadd dX12_begins_70 ?_
      refine r_iconst (x := (0 : Int32)) dX12_begins_71 (by decide) ?_
      obtain ⟨h11, h⟩ := rq_some h
      obtain ⟨u11, e11, h⟩ := lt_some h
      refine sM_said e11 (inb_in h11) dX12_begins_72 ?_
      refine r_aload_n 1 dX12_begins_73 rfl ?_
      refine gM_said rfl dX12_begins_74 ?_
      refine r_bipush (x := (35 : Int32)) dX12_begins_77 (by decide) ?_
      refine r_iload_n 2 dX12_begins_79 rfl ?_
      refine r_iadd dX12_begins_80 ?_
      refine r_iload_n 2 dX12_begins_81 rfl ?_
      obtain ⟨h12, h⟩ := rq_some h
      obtain ⟨u12, e12, h⟩ := lt_some h
      refine sM_said e12 (inb_in h12) dX12_begins_82 ?_
      refine r_aload_n 1 dX12_begins_83 rfl ?_
      refine gM_said rfl dX12_begins_84 ?_
      refine r_bipush (x := (41 : Int32)) dX12_begins_87 (by decide) ?_
      refine r_iload_n 2 dX12_begins_89 rfl ?_
      refine r_iadd dX12_begins_90 ?_
      refine r_aload_n 1 dX12_begins_91 rfl ?_
      refine gM_said rfl dX12_begins_92 ?_
      refine r_bipush (x := (113 : Int32)) dX12_begins_95 (by decide) ?_
      refine r_iload_n 2 dX12_begins_97 rfl ?_
      refine r_iadd dX12_begins_98 ?_
      obtain ⟨h13, h⟩ := rq_some h
      refine lM_said (inb_in h13) dX12_begins_99 ?_
      obtain ⟨h14, h⟩ := rq_some h
      obtain ⟨u14, e14, h⟩ := lt_some h
      refine sM_said e14 (inb_in h14) dX12_begins_100 ?_
      refine r_aload_n 1 dX12_begins_101 rfl ?_
      refine gM_said rfl dX12_begins_102 ?_
      refine r_bipush (x := (47 : Int32)) dX12_begins_105 (by decide) ?_
      refine r_iload_n 2 dX12_begins_107 rfl ?_
      refine r_iadd dX12_begins_108 ?_
      refine r_aload_n 1 dX12_begins_109 rfl ?_
      refine gM_said rfl dX12_begins_110 ?_
      refine r_bipush (x := (119 : Int32)) dX12_begins_113 (by decide) ?_
      refine r_iload_n 2 dX12_begins_115 rfl ?_
      refine r_iadd dX12_begins_116 ?_
      obtain ⟨h15, h⟩ := rq_some h
      refine lM_said (inb_in h15) dX12_begins_117 ?_
      obtain ⟨h16, h⟩ := rq_some h
      obtain ⟨u16, e16, h⟩ := lt_some h
      refine sM_said e16 (inb_in h16) dX12_begins_118 ?_
      refine r_iinc (y := (x1 + (1 : Int32))) (lv' := [(1, .int (x1 + (1 : Int32))), (2, .int y5), (0, .ref (ad 0))]) 2 dX12_begins_119 rfl rfl (by decide) rfl ?_
      refine r_goto 10 dX12_begins_122 (by decide) ?_
      refine r_sub (lv' := [(0, .ref (ad 0)), (1, .int (x1 + (1 : Int32)))]) [2, 0] rfl ?_
      exact ih _ _ h
def m_begins (z_said : Nat → Int32) : Option ((Nat → Int32)) := rq (inb (10 : Int32) 156) (lt (upd z_said (10 : Int32).toNatClampNeg (0 : Int32)) (fun u1 => m_begins_l10 FU (0 : Int32) u1))
set_option maxRecDepth 20000 in
theorem cm_begins {q : (Nat → Int32)}  (h : m_begins z_said = some q) : rMet l D Z (ty7 K) Mm_begins [.ref (ad 0)] (wM K ad z_tape z_taped z_rules z_sign z_length z_clause z_clauses z_read z_next z_wrong z_number z_text z_made z_deep z_lines z_open z_opened z_stack z_top z_word z_said z_force z_x z_absent z_isRaining z_wasSaid z_undone z_kept z_order z_bestOrder z_hasBy z_wealthThen z_isFit z_tillThen z_drawX z_images z_imageForce z_imageX z_isMade) (wM K ad z_tape z_taped z_rules z_sign z_length z_clause z_clauses z_read z_next z_wrong z_number z_text z_made z_deep z_lines z_open z_opened z_stack z_top z_word q z_force z_x z_absent z_isRaining z_wasSaid z_undone z_kept z_order z_bestOrder z_hasBy z_wealthThen z_isFit z_tillThen z_drawX z_images z_imageForce z_imageX z_isMade) none := by
  refine rMet.of (by decide) rfl (Nat.le_of_ble_eq_true rfl) ?_
  refine r_sub (lv' := [(0, .ref (ad 0))]) [0] rfl ?_
  unfold m_begins at h
  refine r_aload_n 0 dX12_begins_0 rfl ?_
  refine gM_said rfl dX12_begins_1 ?_
  refine r_bipush (x := (10 : Int32)) dX12_begins_4 (by decide) ?_
  refine r_iconst (x := (0 : Int32)) dX12_begins_6 (by decide) ?_
  obtain ⟨h1, h⟩ := rq_some h
  obtain ⟨u1, e1, h⟩ := lt_some h
  refine sM_said e1 (inb_in h1) dX12_begins_7 ?_
  refine r_iconst (x := (0 : Int32)) dX12_begins_8 (by decide) ?_
  refine r_istore_n (lv' := [(1, .int (0 : Int32)), (0, .ref (ad 0))]) dX12_begins_9 (by decide) rfl ?_
  refine r_sub (lv' := [(0, .ref (ad 0)), (1, .int (0 : Int32))]) [1, 0] rfl ?_
  exact cm_begins_l10  FU _ _ h
end PM1
