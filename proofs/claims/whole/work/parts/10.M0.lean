section PM0
variable {l : Launch} {D : va_G} {K : Nat → ClassId} {ad : Nat → Nat} {tys : List (ClassId × FieldType)} {ws : va_W}
variable {z_tape : Nat → Int32} {z_taped : Int32} {z_rules : Int32} {z_sign : Nat → Int32} {z_length : Nat → Int32} {z_clause : Nat → Int32} {z_clauses : Nat → Int32} {z_read : Nat → Int32} {z_next : Int32} {z_wrong : Int32} {z_number : Int32} {z_text : Int32} {z_made : Int32} {z_deep : Int32} {z_lines : Int32} {z_open : Nat → Int32} {z_opened : Int32} {z_stack : Nat → Int64} {z_top : Int32} {z_word : Nat → Int64} {z_said : Nat → Int32} {z_force : Int32} {z_x : Int32} {z_absent : Int32} {z_isRaining : Int32} {z_wasSaid : Nat → Int32} {z_undone : Int32} {z_kept : Nat → Int32} {z_order : Nat → Int32} {z_bestOrder : Nat → Int32} {z_hasBy : Nat → Int32} {z_wealthThen : Nat → Int32} {z_isFit : Nat → Int32} {z_tillThen : Nat → Int32} {z_drawX : Int64} {z_images : Nat → Int32} {z_imageForce : Nat → Int32} {z_imageX : Nat → Int32} {z_isMade : Nat → Int32}
theorem dX12_in_0 : decode cX12_in 0 = .ok (.lload_n 0, 1) := by decide +kernel
theorem dX12_in_1 : decode cX12_in 1 = .ok (.lload_n 2, 1) := by decide +kernel
theorem dX12_in_2 : decode cX12_in 2 = .ok (.lcmp, 1) := by decide +kernel
theorem dX12_in_3 : decode cX12_in 3 = .ok (.ifCond .lt 14, 3) := by decide +kernel
theorem dX12_in_6 : decode cX12_in 6 = .ok (.lload_n 0, 1) := by decide +kernel
theorem dX12_in_7 : decode cX12_in 7 = .ok (.lload 4, 2) := by decide +kernel
theorem dX12_in_9 : decode cX12_in 9 = .ok (.lcmp, 1) := by decide +kernel
theorem dX12_in_10 : decode cX12_in 10 = .ok (.ifCond .gt 7, 3) := by decide +kernel
theorem dX12_in_13 : decode cX12_in 13 = .ok (.iconst 1, 1) := by decide +kernel
theorem dX12_in_14 : decode cX12_in 14 = .ok (.goto 4, 3) := by decide +kernel
theorem dX12_in_17 : decode cX12_in 17 = .ok (.iconst 0, 1) := by decide +kernel
theorem dX12_in_18 : decode cX12_in 18 = .ok (.ireturn, 1) := by decide +kernel
abbrev Mm_in : rx_M := (RX12, yX12_in, cX12_in, 6, (some .boolean), 1)
theorem km_in : rKs Mm_in 3 := ⟨tb_in (i := 18) (j := 23) rfl rfl, tb_in (i := 17) (j := 23) rfl rfl, tb_in (i := 17) (j := 15) rfl rfl, ⟨by decide, by decide, by decide +kernel⟩, by decide⟩
def m_in (x0 : Int64) (x2 : Int64) (x4 : Int64) : Option (Int32) := (if (lg_cmp x0 x2) < 0 then some ((0 : Int32)) else (if 0 < (lg_cmp x0 x4) then some ((0 : Int32)) else some ((1 : Int32))))
set_option maxRecDepth 20000 in
theorem cm_in {q : Int32} {x0 : Int64} {x2 : Int64} {x4 : Int64} (h : m_in x0 x2 x4 = some q) : rMet l D tys Mm_in [.long x0, .long x2, .long x4] ws ws (some (.int q)) := by
  refine rMet.of (by decide) rfl (Nat.le_of_ble_eq_true rfl) ?_
  refine r_sub (lv' := [(0, .long x0), (2, .long x2), (4, .long x4)]) [0, 1, 2] rfl ?_
  unfold m_in at h
  refine r_lload_n 0 dX12_in_0 rfl ?_
  refine r_lload_n 1 dX12_in_1 rfl ?_
  refine r_lcmp dX12_in_2 ?_
  refine r_if_lt 17 dX12_in_3 (by decide) (fun c1 => ?_) (fun c1 => ?_)
  · replace h := it_pos c1 h
    refine r_iconst (x := (0 : Int32)) dX12_in_17 (by decide) ?_
    have hq := Option.some.inj h
    subst hq
    exact r_zret (ty := .boolean) rfl rfl dX12_in_18
  · replace h := it_neg c1 h
    refine r_lload_n 0 dX12_in_6 rfl ?_
    refine r_lload 2 dX12_in_7 rfl ?_
    refine r_lcmp dX12_in_9 ?_
    refine r_if_gt 17 dX12_in_10 (by decide) (fun c2 => ?_) (fun c2 => ?_)
    · replace h := it_pos c2 h
      refine r_iconst (x := (0 : Int32)) dX12_in_17 (by decide) ?_
      have hq := Option.some.inj h
      subst hq
      exact r_zret (ty := .boolean) rfl rfl dX12_in_18
    · replace h := it_neg c2 h
      refine r_iconst (x := (1 : Int32)) dX12_in_13 (by decide) ?_
      refine r_goto 18 dX12_in_14 (by decide) ?_
      have hq := Option.some.inj h
      subst hq
      exact r_zret (ty := .boolean) rfl rfl dX12_in_18
theorem dX12_isOf_0 : decode cX12_isOf 0 = .ok (.iload_n 0, 1) := by decide +kernel
theorem dX12_isOf_1 : decode cX12_isOf 1 = .ok (.iload_n 1, 1) := by decide +kernel
theorem dX12_isOf_2 : decode cX12_isOf 2 = .ok (.ishr, 1) := by decide +kernel
theorem dX12_isOf_3 : decode cX12_isOf 3 = .ok (.iconst 1, 1) := by decide +kernel
theorem dX12_isOf_4 : decode cX12_isOf 4 = .ok (.iand, 1) := by decide +kernel
theorem dX12_isOf_5 : decode cX12_isOf 5 = .ok (.iconst 1, 1) := by decide +kernel
theorem dX12_isOf_6 : decode cX12_isOf 6 = .ok (.if_icmp .ne 7, 3) := by decide +kernel
theorem dX12_isOf_9 : decode cX12_isOf 9 = .ok (.iconst 1, 1) := by decide +kernel
theorem dX12_isOf_10 : decode cX12_isOf 10 = .ok (.goto 4, 3) := by decide +kernel
theorem dX12_isOf_13 : decode cX12_isOf 13 = .ok (.iconst 0, 1) := by decide +kernel
theorem dX12_isOf_14 : decode cX12_isOf 14 = .ok (.ireturn, 1) := by decide +kernel
abbrev Mm_isOf : rx_M := (RX12, yX12_isOf, cX12_isOf, 2, (some .boolean), 1)
theorem km_isOf : rKs Mm_isOf 2 := ⟨tb_in (i := 23) (j := 29) rfl rfl, tb_in (i := 17) (j := 23) rfl rfl, tb_in (i := 17) (j := 16) rfl rfl, ⟨by decide, by decide, by decide +kernel⟩, by decide⟩
def m_isOf (x0 : Int32) (x1 : Int32) : Option (Int32) := (if ((x0 >>> (x1 &&& 31)) &&& (1 : Int32)) = (1 : Int32) then some ((1 : Int32)) else some ((0 : Int32)))
set_option maxRecDepth 20000 in
theorem cm_isOf {q : Int32} {x0 : Int32} {x1 : Int32} (h : m_isOf x0 x1 = some q) : rMet l D tys Mm_isOf [.int x0, .int x1] ws ws (some (.int q)) := by
  refine rMet.of (by decide) rfl (Nat.le_of_ble_eq_true rfl) ?_
  refine r_sub (lv' := [(0, .int x0), (1, .int x1)]) [0, 1] rfl ?_
  unfold m_isOf at h
  refine r_iload_n 0 dX12_isOf_0 rfl ?_
  refine r_iload_n 1 dX12_isOf_1 rfl ?_
  refine r_ishr dX12_isOf_2 ?_
  refine r_iconst (x := (1 : Int32)) dX12_isOf_3 (by decide) ?_
  refine r_iand dX12_isOf_4 ?_
  refine r_iconst (x := (1 : Int32)) dX12_isOf_5 (by decide) ?_
  refine r_icmp_ne 13 dX12_isOf_6 (by decide) (fun c1 => ?_) (fun c1 => ?_)
  · replace h := it_neg c1 h
    refine r_iconst (x := (0 : Int32)) dX12_isOf_13 (by decide) ?_
    have hq := Option.some.inj h
    subst hq
    exact r_zret (ty := .boolean) rfl rfl dX12_isOf_14
  · replace h := it_pos c1 h
    refine r_iconst (x := (1 : Int32)) dX12_isOf_9 (by decide) ?_
    refine r_goto 14 dX12_isOf_10 (by decide) ?_
    have hq := Option.some.inj h
    subst hq
    exact r_zret (ty := .boolean) rfl rfl dX12_isOf_14
theorem dX12_four_0 : decode cX12_four 0 = .ok (.bipush 24, 2) := by decide +kernel
theorem dX12_four_2 : decode cX12_four 2 = .ok (.istore_n 2, 1) := by decide +kernel
theorem dX12_four_3 : decode cX12_four 3 = .ok (.iload_n 2, 1) := by decide +kernel
theorem dX12_four_4 : decode cX12_four 4 = .ok (.ifCond .lt 32, 3) := by decide +kernel
theorem dX12_four_7 : decode cX12_four 7 = .ok (.aload_n 0, 1) := by decide +kernel
theorem dX12_four_8 : decode cX12_four 8 = .ok (.getfield 7, 3) := by decide +kernel
theorem dX12_four_11 : decode cX12_four 11 = .ok (.aload_n 0, 1) := by decide +kernel
theorem dX12_four_12 : decode cX12_four 12 = .ok (.getfield 86, 3) := by decide +kernel
theorem dX12_four_15 : decode cX12_four 15 = .ok (.iload_n 1, 1) := by decide +kernel
theorem dX12_four_16 : decode cX12_four 16 = .ok (.iload_n 2, 1) := by decide +kernel
theorem dX12_four_17 : decode cX12_four 17 = .ok (.ishr, 1) := by decide +kernel
theorem dX12_four_18 : decode cX12_four 18 = .ok (.i2b, 1) := by decide +kernel
theorem dX12_four_19 : decode cX12_four 19 = .ok (.bastore, 1) := by decide +kernel
theorem dX12_four_20 : decode cX12_four 20 = .ok (.aload_n 0, 1) := by decide +kernel
theorem dX12_four_21 : decode cX12_four 21 = .ok (.dup, 1) := by decide +kernel
theorem dX12_four_22 : decode cX12_four 22 = .ok (.getfield 86, 3) := by decide +kernel
theorem dX12_four_25 : decode cX12_four 25 = .ok (.iconst 1, 1) := by decide +kernel
theorem dX12_four_26 : decode cX12_four 26 = .ok (.iadd, 1) := by decide +kernel
theorem dX12_four_27 : decode cX12_four 27 = .ok (.putfield 86, 3) := by decide +kernel
theorem dX12_four_30 : decode cX12_four 30 = .ok (.iinc 2 (-8), 3) := by decide +kernel
theorem dX12_four_33 : decode cX12_four 33 = .ok (.goto (-30), 3) := by decide +kernel
theorem dX12_four_36 : decode cX12_four 36 = .ok (.return_, 1) := by decide +kernel
abbrev Mm_four : rx_M := (RX12, yX12_four, cX12_four, 3, none, 1)
theorem km_four : rKv Mm_four 1 := ⟨tb_in (i := 17) (j := 21) rfl rfl, tb_in (i := 17) (j := 22) rfl rfl, tb_in (i := 17) (j := 23) rfl rfl, tb_in (i := 17) (j := 17) rfl rfl, ⟨by decide, by decide, by decide +kernel⟩, by decide⟩
def m_four_l3 (x1 : Int32) : Nat → Int32 → (Nat → Int32) → Int32 → Option ((Nat → Int32) × Int32)
  | 0, _, _, _ => none
  | n + 1, x2, z_tape, z_taped => (if x2 < 0 then some (z_tape, z_taped) else rq (inb z_taped 400) (m_four_l3 x1 n (x2 + (-8 : Int32)) (upd z_tape z_taped.toNatClampNeg (vp_nar .byte ((x1 >>> (x2 &&& 31)).toInt8.toInt32))) (z_taped + (1 : Int32))))
set_option maxRecDepth 20000 in
theorem cm_four_l3 {q : (Nat → Int32) × Int32} {x1 : Int32}  : ∀ (n : Nat) (x2 : Int32) (z_tape : Nat → Int32) (z_taped : Int32), m_four_l3 x1 n x2 z_tape z_taped = some q → rW l D (ty7 K) Mm_four 3 [(0, .ref (ad 0)), (1, .int x1), (2, .int x2)] [] (wM K ad z_tape z_taped z_rules z_sign z_length z_clause z_clauses z_read z_next z_wrong z_number z_text z_made z_deep z_lines z_open z_opened z_stack z_top z_word z_said z_force z_x z_absent z_isRaining z_wasSaid z_undone z_kept z_order z_bestOrder z_hasBy z_wealthThen z_isFit z_tillThen z_drawX z_images z_imageForce z_imageX z_isMade) (wM K ad q.1 q.2 z_rules z_sign z_length z_clause z_clauses z_read z_next z_wrong z_number z_text z_made z_deep z_lines z_open z_opened z_stack z_top z_word z_said z_force z_x z_absent z_isRaining z_wasSaid z_undone z_kept z_order z_bestOrder z_hasBy z_wealthThen z_isFit z_tillThen z_drawX z_images z_imageForce z_imageX z_isMade) none := by
  intro n
  induction n with
  | zero => intro x2 z_tape z_taped h; unfold m_four_l3 at h; cases h
  | succ n ih =>
    intro x2 z_tape z_taped h
    unfold m_four_l3 at h
    refine r_iload_n 2 dX12_four_3 rfl ?_
    refine r_if_lt 36 dX12_four_4 (by decide) (fun c1 => ?_) (fun c1 => ?_)
    · replace h := it_pos c1 h
      have hq := Option.some.inj h
      subst hq
      exact r_vret rfl dX12_four_36
    · replace h := it_neg c1 h
      refine r_aload_n 0 dX12_four_7 rfl ?_
      refine gM_tape rfl dX12_four_8 ?_
      refine r_aload_n 0 dX12_four_11 rfl ?_
      refine gM_taped rfl dX12_four_12 ?_
      refine r_iload_n 1 dX12_four_15 rfl ?_
      refine r_iload_n 2 dX12_four_16 rfl ?_
      refine r_ishr dX12_four_17 ?_
      refine r_i2b dX12_four_18 ?_
      obtain ⟨h2, h⟩ := rq_some h
      refine sM_tape (inb_in h2) dX12_four_19 ?_
      refine r_aload_n 0 dX12_four_20 rfl ?_
      refine r_dup dX12_four_21 rfl ?_
      refine gM_taped rfl dX12_four_22 ?_
      refine r_iconst (x := (1 : Int32)) dX12_four_25 (by decide) ?_
      refine r_iadd dX12_four_26 ?_
      refine pM_taped rfl dX12_four_27 ?_
      refine r_iinc (y := (x2 + (-8 : Int32))) (lv' := [(2, .int (x2 + (-8 : Int32))), (0, .ref (ad 0)), (1, .int x1)]) 2 dX12_four_30 rfl rfl (by decide) rfl ?_
      refine r_goto 3 dX12_four_33 (by decide) ?_
      refine r_sub (lv' := [(0, .ref (ad 0)), (1, .int x1), (2, .int (x2 + (-8 : Int32)))]) [1, 2, 0] rfl ?_
      exact ih _ _ _ h
def m_four (x1 : Int32) (z_tape : Nat → Int32) (z_taped : Int32) : Option ((Nat → Int32) × Int32) := m_four_l3 x1 FU (24 : Int32) z_tape z_taped
set_option maxRecDepth 20000 in
theorem cm_four {q : (Nat → Int32) × Int32} {x1 : Int32} (h : m_four x1 z_tape z_taped = some q) : rMet l D (ty7 K) Mm_four [.ref (ad 0), .int x1] (wM K ad z_tape z_taped z_rules z_sign z_length z_clause z_clauses z_read z_next z_wrong z_number z_text z_made z_deep z_lines z_open z_opened z_stack z_top z_word z_said z_force z_x z_absent z_isRaining z_wasSaid z_undone z_kept z_order z_bestOrder z_hasBy z_wealthThen z_isFit z_tillThen z_drawX z_images z_imageForce z_imageX z_isMade) (wM K ad q.1 q.2 z_rules z_sign z_length z_clause z_clauses z_read z_next z_wrong z_number z_text z_made z_deep z_lines z_open z_opened z_stack z_top z_word z_said z_force z_x z_absent z_isRaining z_wasSaid z_undone z_kept z_order z_bestOrder z_hasBy z_wealthThen z_isFit z_tillThen z_drawX z_images z_imageForce z_imageX z_isMade) none := by
  refine rMet.of (by decide) rfl (Nat.le_of_ble_eq_true rfl) ?_
  refine r_sub (lv' := [(0, .ref (ad 0)), (1, .int x1)]) [0, 1] rfl ?_
  unfold m_four at h
  refine r_bipush (x := (24 : Int32)) dX12_four_0 (by decide) ?_
  refine r_istore_n (lv' := [(2, .int (24 : Int32)), (0, .ref (ad 0)), (1, .int x1)]) dX12_four_2 (by decide) rfl ?_
  refine r_sub (lv' := [(0, .ref (ad 0)), (1, .int x1), (2, .int (24 : Int32))]) [1, 2, 0] rfl ?_
  exact cm_four_l3  FU _ _ _ h
theorem dX12_feed_0 : decode cX12_feed 0 = .ok (.aload_n 0, 1) := by decide +kernel
theorem dX12_feed_1 : decode cX12_feed 1 = .ok (.getfield 86, 3) := by decide +kernel
theorem dX12_feed_4 : decode cX12_feed 4 = .ok (.bipush 20, 2) := by decide +kernel
theorem dX12_feed_6 : decode cX12_feed 6 = .ok (.iadd, 1) := by decide +kernel
theorem dX12_feed_7 : decode cX12_feed 7 = .ok (.sipush 400, 3) := by decide +kernel
theorem dX12_feed_10 : decode cX12_feed 10 = .ok (.if_icmp .le 5, 3) := by decide +kernel
theorem dX12_feed_13 : decode cX12_feed 13 = .ok (.iconst (-1), 1) := by decide +kernel
theorem dX12_feed_14 : decode cX12_feed 14 = .ok (.ireturn, 1) := by decide +kernel
theorem dX12_feed_15 : decode cX12_feed 15 = .ok (.aload_n 0, 1) := by decide +kernel
theorem dX12_feed_16 : decode cX12_feed 16 = .ok (.iload_n 1, 1) := by decide +kernel
theorem dX12_feed_17 : decode cX12_feed 17 = .ok (.invokevirtual 89, 3) := by decide +kernel
theorem dX12_feed_20 : decode cX12_feed 20 = .ok (.aload_n 0, 1) := by decide +kernel
theorem dX12_feed_21 : decode cX12_feed 21 = .ok (.iload_n 2, 1) := by decide +kernel
theorem dX12_feed_22 : decode cX12_feed 22 = .ok (.invokevirtual 89, 3) := by decide +kernel
theorem dX12_feed_25 : decode cX12_feed 25 = .ok (.aload_n 0, 1) := by decide +kernel
theorem dX12_feed_26 : decode cX12_feed 26 = .ok (.iload_n 3, 1) := by decide +kernel
theorem dX12_feed_27 : decode cX12_feed 27 = .ok (.invokevirtual 89, 3) := by decide +kernel
theorem dX12_feed_30 : decode cX12_feed 30 = .ok (.aload_n 0, 1) := by decide +kernel
theorem dX12_feed_31 : decode cX12_feed 31 = .ok (.iload 4, 2) := by decide +kernel
theorem dX12_feed_33 : decode cX12_feed 33 = .ok (.invokevirtual 89, 3) := by decide +kernel
theorem dX12_feed_36 : decode cX12_feed 36 = .ok (.aload_n 0, 1) := by decide +kernel
theorem dX12_feed_37 : decode cX12_feed 37 = .ok (.iload 5, 2) := by decide +kernel
theorem dX12_feed_39 : decode cX12_feed 39 = .ok (.invokevirtual 89, 3) := by decide +kernel
theorem dX12_feed_42 : decode cX12_feed 42 = .ok (.aload_n 0, 1) := by decide +kernel
theorem dX12_feed_43 : decode cX12_feed 43 = .ok (.getfield 86, 3) := by decide +kernel
theorem dX12_feed_46 : decode cX12_feed 46 = .ok (.ireturn, 1) := by decide +kernel
abbrev Mm_feed : rx_M := (RX12, yX12_feed, cX12_feed, 6, (some .int), 2)
theorem km_feed : rKv Mm_feed 5 := ⟨tb_in (i := 30) (j := 22) rfl rfl, tb_in (i := 30) (j := 23) rfl rfl, tb_in (i := 17) (j := 23) rfl rfl, tb_in (i := 17) (j := 19) rfl rfl, ⟨by decide, by decide, by decide +kernel⟩, by decide⟩
def m_feed (x1 : Int32) (x2 : Int32) (x3 : Int32) (x4 : Int32) (x5 : Int32) (z_tape : Nat → Int32) (z_taped : Int32) : Option (Int32 × (Nat → Int32) × Int32) := (if (z_taped + (20 : Int32)) ≤ (400 : Int32) then (m_four x1 z_tape z_taped).bind (fun q2 => (m_four x2 q2.1 q2.2).bind (fun q3 => (m_four x3 q3.1 q3.2).bind (fun q4 => (m_four x4 q4.1 q4.2).bind (fun q5 => (m_four x5 q5.1 q5.2).bind (fun q6 => some (q6.2, q6.1, q6.2)))))) else some ((-1 : Int32), z_tape, z_taped))
set_option maxRecDepth 20000 in
theorem cm_feed {q : Int32 × (Nat → Int32) × Int32} {x1 : Int32} {x2 : Int32} {x3 : Int32} {x4 : Int32} {x5 : Int32} (h : m_feed x1 x2 x3 x4 x5 z_tape z_taped = some q) : rMet l D (ty7 K) Mm_feed [.ref (ad 0), .int x1, .int x2, .int x3, .int x4, .int x5] (wM K ad z_tape z_taped z_rules z_sign z_length z_clause z_clauses z_read z_next z_wrong z_number z_text z_made z_deep z_lines z_open z_opened z_stack z_top z_word z_said z_force z_x z_absent z_isRaining z_wasSaid z_undone z_kept z_order z_bestOrder z_hasBy z_wealthThen z_isFit z_tillThen z_drawX z_images z_imageForce z_imageX z_isMade) (wM K ad q.2.1 q.2.2 z_rules z_sign z_length z_clause z_clauses z_read z_next z_wrong z_number z_text z_made z_deep z_lines z_open z_opened z_stack z_top z_word z_said z_force z_x z_absent z_isRaining z_wasSaid z_undone z_kept z_order z_bestOrder z_hasBy z_wealthThen z_isFit z_tillThen z_drawX z_images z_imageForce z_imageX z_isMade) (some (.int q.1)) := by
  refine rMet.of (by decide) rfl (Nat.le_of_ble_eq_true rfl) ?_
  refine r_sub (lv' := [(0, .ref (ad 0)), (1, .int x1), (2, .int x2), (3, .int x3), (4, .int x4), (5, .int x5)]) [0, 1, 2, 3, 4, 5] rfl ?_
  unfold m_feed at h
  refine r_aload_n 0 dX12_feed_0 rfl ?_
  refine gM_taped rfl dX12_feed_1 ?_
  refine r_bipush (x := (20 : Int32)) dX12_feed_4 (by decide) ?_
  refine r_iadd dX12_feed_6 ?_
  refine r_sipush (x := (400 : Int32)) dX12_feed_7 (by decide) ?_
  refine r_icmp_le 15 dX12_feed_10 (by decide) (fun c1 => ?_) (fun c1 => ?_)
  · replace h := it_pos c1 h
    refine r_aload_n 0 dX12_feed_15 rfl ?_
    refine r_iload_n 1 dX12_feed_16 rfl ?_
    obtain ⟨q2, h2, h⟩ := bd_some h
    refine cvM (st := []) (cm_four h2) rfl rfl (Nat.le_of_ble_eq_true rfl) km_four (tb_in (i := 17) (j := 20) rfl rfl) (by decide) rfl dX12_feed_17 ?_
    refine r_aload_n 0 dX12_feed_20 rfl ?_
    refine r_iload_n 2 dX12_feed_21 rfl ?_
    obtain ⟨q3, h3, h⟩ := bd_some h
    refine cvM (st := []) (cm_four h3) rfl rfl (Nat.le_of_ble_eq_true rfl) km_four (tb_in (i := 17) (j := 20) rfl rfl) (by decide) rfl dX12_feed_22 ?_
    refine r_aload_n 0 dX12_feed_25 rfl ?_
    refine r_iload_n 3 dX12_feed_26 rfl ?_
    obtain ⟨q4, h4, h⟩ := bd_some h
    refine cvM (st := []) (cm_four h4) rfl rfl (Nat.le_of_ble_eq_true rfl) km_four (tb_in (i := 17) (j := 20) rfl rfl) (by decide) rfl dX12_feed_27 ?_
    refine r_aload_n 0 dX12_feed_30 rfl ?_
    refine r_iload 4 dX12_feed_31 rfl ?_
    obtain ⟨q5, h5, h⟩ := bd_some h
    refine cvM (st := []) (cm_four h5) rfl rfl (Nat.le_of_ble_eq_true rfl) km_four (tb_in (i := 17) (j := 20) rfl rfl) (by decide) rfl dX12_feed_33 ?_
    refine r_aload_n 0 dX12_feed_36 rfl ?_
    refine r_iload 5 dX12_feed_37 rfl ?_
    obtain ⟨q6, h6, h⟩ := bd_some h
    refine cvM (st := []) (cm_four h6) rfl rfl (Nat.le_of_ble_eq_true rfl) km_four (tb_in (i := 17) (j := 20) rfl rfl) (by decide) rfl dX12_feed_39 ?_
    refine r_aload_n 0 dX12_feed_42 rfl ?_
    refine gM_taped rfl dX12_feed_43 ?_
    have hq := Option.some.inj h
    subst hq
    exact r_iret rfl dX12_feed_46
  · replace h := it_neg c1 h
    refine r_iconst (x := (-1 : Int32)) dX12_feed_13 (by decide) ?_
    have hq := Option.some.inj h
    subst hq
    exact r_iret rfl dX12_feed_14
theorem dX12_end_0 : decode cX12_end 0 = .ok (.iload_n 1, 1) := by decide +kernel
theorem dX12_end_1 : decode cX12_end 1 = .ok (.ifCond .lt 11, 3) := by decide +kernel
theorem dX12_end_4 : decode cX12_end 4 = .ok (.iload_n 1, 1) := by decide +kernel
theorem dX12_end_5 : decode cX12_end 5 = .ok (.aload_n 0, 1) := by decide +kernel
theorem dX12_end_6 : decode cX12_end 6 = .ok (.getfield 86, 3) := by decide +kernel
theorem dX12_end_9 : decode cX12_end 9 = .ok (.if_icmp .le 5, 3) := by decide +kernel
theorem dX12_end_12 : decode cX12_end 12 = .ok (.iconst (-1), 1) := by decide +kernel
theorem dX12_end_13 : decode cX12_end 13 = .ok (.ireturn, 1) := by decide +kernel
theorem dX12_end_14 : decode cX12_end 14 = .ok (.aload_n 0, 1) := by decide +kernel
theorem dX12_end_15 : decode cX12_end 15 = .ok (.iload_n 1, 1) := by decide +kernel
theorem dX12_end_16 : decode cX12_end 16 = .ok (.putfield 86, 3) := by decide +kernel
theorem dX12_end_19 : decode cX12_end 19 = .ok (.iload_n 1, 1) := by decide +kernel
theorem dX12_end_20 : decode cX12_end 20 = .ok (.ireturn, 1) := by decide +kernel
abbrev Mm_end : rx_M := (RX12, yX12_end, cX12_end, 2, (some .int), 1)
theorem km_end : rKv Mm_end 1 := ⟨tb_in (i := 30) (j := 28) rfl rfl, tb_in (i := 30) (j := 29) rfl rfl, tb_in (i := 17) (j := 23) rfl rfl, tb_in (i := 17) (j := 24) rfl rfl, ⟨by decide, by decide, by decide +kernel⟩, by decide⟩
def m_end (x1 : Int32) (z_taped : Int32) : Option (Int32 × Int32) := (if x1 < 0 then some ((-1 : Int32), z_taped) else (if x1 ≤ z_taped then some (x1, x1) else some ((-1 : Int32), z_taped)))
set_option maxRecDepth 20000 in
theorem cm_end {q : Int32 × Int32} {x1 : Int32} (h : m_end x1 z_taped = some q) : rMet l D (ty7 K) Mm_end [.ref (ad 0), .int x1] (wM K ad z_tape z_taped z_rules z_sign z_length z_clause z_clauses z_read z_next z_wrong z_number z_text z_made z_deep z_lines z_open z_opened z_stack z_top z_word z_said z_force z_x z_absent z_isRaining z_wasSaid z_undone z_kept z_order z_bestOrder z_hasBy z_wealthThen z_isFit z_tillThen z_drawX z_images z_imageForce z_imageX z_isMade) (wM K ad z_tape q.2 z_rules z_sign z_length z_clause z_clauses z_read z_next z_wrong z_number z_text z_made z_deep z_lines z_open z_opened z_stack z_top z_word z_said z_force z_x z_absent z_isRaining z_wasSaid z_undone z_kept z_order z_bestOrder z_hasBy z_wealthThen z_isFit z_tillThen z_drawX z_images z_imageForce z_imageX z_isMade) (some (.int q.1)) := by
  refine rMet.of (by decide) rfl (Nat.le_of_ble_eq_true rfl) ?_
  refine r_sub (lv' := [(0, .ref (ad 0)), (1, .int x1)]) [0, 1] rfl ?_
  unfold m_end at h
  refine r_iload_n 1 dX12_end_0 rfl ?_
  refine r_if_lt 12 dX12_end_1 (by decide) (fun c1 => ?_) (fun c1 => ?_)
  · replace h := it_pos c1 h
    refine r_iconst (x := (-1 : Int32)) dX12_end_12 (by decide) ?_
    have hq := Option.some.inj h
    subst hq
    exact r_iret rfl dX12_end_13
  · replace h := it_neg c1 h
    refine r_iload_n 1 dX12_end_4 rfl ?_
    refine r_aload_n 0 dX12_end_5 rfl ?_
    refine gM_taped rfl dX12_end_6 ?_
    refine r_icmp_le 14 dX12_end_9 (by decide) (fun c2 => ?_) (fun c2 => ?_)
    · replace h := it_pos c2 h
      refine r_aload_n 0 dX12_end_14 rfl ?_
      refine r_iload_n 1 dX12_end_15 rfl ?_
      refine pM_taped rfl dX12_end_16 ?_
      refine r_iload_n 1 dX12_end_19 rfl ?_
      have hq := Option.some.inj h
      subst hq
      exact r_iret rfl dX12_end_20
    · replace h := it_neg c2 h
      refine r_iconst (x := (-1 : Int32)) dX12_end_12 (by decide) ?_
      have hq := Option.some.inj h
      subst hq
      exact r_iret rfl dX12_end_13
theorem dX12_goodsOf_0 : decode cX12_goodsOf 0 = .ok (.aload_n 0, 1) := by decide +kernel
theorem dX12_goodsOf_1 : decode cX12_goodsOf 1 = .ok (.getfield 39, 3) := by decide +kernel
theorem dX12_goodsOf_4 : decode cX12_goodsOf 4 = .ok (.bipush 11, 2) := by decide +kernel
theorem dX12_goodsOf_6 : decode cX12_goodsOf 6 = .ok (.iconst 4, 1) := by decide +kernel
theorem dX12_goodsOf_7 : decode cX12_goodsOf 7 = .ok (.iload_n 1, 1) := by decide +kernel
theorem dX12_goodsOf_8 : decode cX12_goodsOf 8 = .ok (.imul, 1) := by decide +kernel
theorem dX12_goodsOf_9 : decode cX12_goodsOf 9 = .ok (.iadd, 1) := by decide +kernel
theorem dX12_goodsOf_10 : decode cX12_goodsOf 10 = .ok (.iaload, 1) := by decide +kernel
theorem dX12_goodsOf_11 : decode cX12_goodsOf 11 = .ok (.ireturn, 1) := by decide +kernel
abbrev Mm_goodsOf : rx_M := (RX12, yX12_goodsOf, cX12_goodsOf, 2, (some .int), 1)
theorem km_goodsOf : rKv Mm_goodsOf 1 := ⟨tb_in (i := 24) (j := 7) rfl rfl, tb_in (i := 24) (j := 8) rfl rfl, tb_in (i := 17) (j := 23) rfl rfl, tb_in (i := 23) (j := 14) rfl rfl, ⟨by decide, by decide, by decide +kernel⟩, by decide⟩
def m_goodsOf (x1 : Int32) (z_said : Nat → Int32) : Option (Int32) := rq (inb ((11 : Int32) + ((4 : Int32) * x1)) 156) (some ((z_said ((11 : Int32) + ((4 : Int32) * x1)).toNatClampNeg)))
set_option maxRecDepth 20000 in
theorem cm_goodsOf {q : Int32} {x1 : Int32} (h : m_goodsOf x1 z_said = some q) : rMet l D (ty7 K) Mm_goodsOf [.ref (ad 0), .int x1] (wM K ad z_tape z_taped z_rules z_sign z_length z_clause z_clauses z_read z_next z_wrong z_number z_text z_made z_deep z_lines z_open z_opened z_stack z_top z_word z_said z_force z_x z_absent z_isRaining z_wasSaid z_undone z_kept z_order z_bestOrder z_hasBy z_wealthThen z_isFit z_tillThen z_drawX z_images z_imageForce z_imageX z_isMade) (wM K ad z_tape z_taped z_rules z_sign z_length z_clause z_clauses z_read z_next z_wrong z_number z_text z_made z_deep z_lines z_open z_opened z_stack z_top z_word z_said z_force z_x z_absent z_isRaining z_wasSaid z_undone z_kept z_order z_bestOrder z_hasBy z_wealthThen z_isFit z_tillThen z_drawX z_images z_imageForce z_imageX z_isMade) (some (.int q)) := by
  refine rMet.of (by decide) rfl (Nat.le_of_ble_eq_true rfl) ?_
  refine r_sub (lv' := [(0, .ref (ad 0)), (1, .int x1)]) [0, 1] rfl ?_
  unfold m_goodsOf at h
  refine r_aload_n 0 dX12_goodsOf_0 rfl ?_
  refine gM_said rfl dX12_goodsOf_1 ?_
  refine r_bipush (x := (11 : Int32)) dX12_goodsOf_4 (by decide) ?_
  refine r_iconst (x := (4 : Int32)) dX12_goodsOf_6 (by decide) ?_
  refine r_iload_n 1 dX12_goodsOf_7 rfl ?_
  refine r_imul dX12_goodsOf_8 ?_
  refine r_iadd dX12_goodsOf_9 ?_
  obtain ⟨h1, h⟩ := rq_some h
  refine lM_said (inb_in h1) dX12_goodsOf_10 ?_
  have hq := Option.some.inj h
  subst hq
  exact r_iret rfl dX12_goodsOf_11
end PM0
