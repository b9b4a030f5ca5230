section PM0
variable {l : Launch} {D : va_G} {Z : (Nat → Nat) × (Nat → Nat)} {K : Nat → ClassId} {ad : Nat → Nat} {tys : List (ClassId × FieldType)} {ws : va_W}
variable {z_tape : Nat → Int32} {z_taped : Int32} {z_rules : Int32} {z_sign : Nat → Int32} {z_length : Nat → Int32} {z_clause : Nat → Int32} {z_clauses : Nat → Int32} {z_read : Nat → Int32} {z_next : Int32} {z_wrong : Int32} {z_number : Int32} {z_text : Int32} {z_made : Int32} {z_deep : Int32} {z_lines : Int32} {z_open : Nat → Int32} {z_opened : Int32} {z_stack : Nat → Int64} {z_top : Int32} {z_word : Nat → Int64} {z_said : Nat → Int32} {z_force : Int32} {z_x : Int32} {z_absent : Int32} {z_isRaining : Int32} {z_wasSaid : Nat → Int32} {z_undone : Int32} {z_kept : Nat → Int32} {z_order : Nat → Int32} {z_bestOrder : Nat → Int32} {z_hasBy : Nat → Int32} {z_wealthThen : Nat → Int32} {z_isFit : Nat → Int32} {z_tillThen : Nat → Int32} {z_drawX : Int64} {z_images : Nat → Int32} {z_imageForce : Nat → Int32} {z_imageX : Nat → Int32} {z_isMade : Nat → Int32}
theorem dX12_in_0 : decode cX12_in 0 = .ok (.lload_n 0, 1) := by decide +kernel
theorem dX12_in_1 : decode cX12_in 1 = .ok (.lload_n 2, 1) := by decide +kernel
theorem dX12_in_2 : decode cX12_in 2 = .ok (.lcmp, 1) := by decide +kernel
theorem dX12_in_3 : decode cX12_in 3 = .ok (.ifCond .lt 14, 3) := by decide +kernel
theorem dX12_in_6 : decode cX12_in 6 = .ok (.lload_n 0, 1) := by decide +kernel
theorem dX12_in_7 : decode cX12_in 7 = .ok (.lload 4, 2) := by decide +kernel
theorem dX12_in_9 : decode cX12_in 9 = .ok (.lcmp, 1) := by decide +kernel
theorem dX12_in_10 : decode cX12_in 10 = .ok (.ifCond .gt 7, 3) := by decide +kernel
theorem dX12_in_13 : decode cX12_in 13 = .ok (.iconst 1, 1) := by decide +kernel
theorem dX12_in_14 : decode cX12_in 14 = .ok (.goto 4, 3) := by decide +kernel
theorem dX12_in_17 : decode cX12_in 17 = .ok (.iconst 0, 1) := by decide +kernel
theorem dX12_in_18 : decode cX12_in 18 = .ok (.ireturn, 1) := by decide +kernel
abbrev Mm_in : rx_M := (RX12, yX12_in, cX12_in, 6, (some .boolean), 1)
theorem km_in : rKs Mm_in 3 := ⟨tb_in (i := 18) (j := 21) rfl rfl, tb_in (i := 17) (j := 21) rfl rfl, tb_in (i := 17) (j := 13) rfl rfl, ⟨by decide, by decide, by decide +kernel⟩, by decide⟩
def m_in (x0 : Int64) (x2 : Int64) (x4 : Int64) : Option (Int32) := (if (lg_cmp x0 x2) < 0 then some ((0 : Int32)) else (if 0 < (lg_cmp x0 x4) then some ((0 : Int32)) else some ((1 : Int32))))
set_option maxRecDepth 20000 in
theorem cm_in {q : Int32} {x0 : Int64} {x2 : Int64} {x4 : Int64} (h : m_in x0 x2 x4 = some q) : rMet l D Z tys Mm_in [.long x0, .long x2, .long x4] ws ws (some (.int q)) := by
  refine rMet.of (by decide) rfl (Nat.le_of_ble_eq_true rfl) ?_
  refine r_sub (lv' := [(0, .long x0), (2, .long x2), (4, .long x4)]) [0, 1, 2] rfl ?_
  unfold m_in at h
  refine r_lload_n 0 dX12_in_0 rfl ?_
  refine r_lload_n 1 dX12_in_1 rfl ?_
  refine r_lcmp dX12_in_2 ?_
  refine r_if_lt 17 dX12_in_3 (by decide) (fun c1 => ?_) (fun c1 => ?_)
  · replace h := it_pos c1 h
    refine r_iconst (x := (0 : Int32)) dX12_in_17 (by decide) ?_
    have hq := Option.some.inj h
    subst hq
    exact r_zret (ty := .boolean) rfl rfl dX12_in_18
  · replace h := it_neg c1 h
    refine r_lload_n 0 dX12_in_6 rfl ?_
    refine r_lload 2 dX12_in_7 rfl ?_
    refine r_lcmp dX12_in_9 ?_
    refine r_if_gt 17 dX12_in_10 (by decide) (fun c2 => ?_) (fun c2 => ?_)
    · replace h := it_pos c2 h
      refine r_iconst (x := (0 : Int32)) dX12_in_17 (by decide) ?_
      have hq := Option.some.inj h
      subst hq
      exact r_zret (ty := .boolean) rfl rfl dX12_in_18
    · replace h := it_neg c2 h
      refine r_iconst (x := (1 : Int32)) dX12_in_13 (by decide) ?_
      refine r_goto 18 dX12_in_14 (by decide) ?_
      have hq := Option.some.inj h
      subst hq
      exact r_zret (ty := .boolean) rfl rfl dX12_in_18
theorem dX12_isOf_0 : decode cX12_isOf 0 = .ok (.iload_n 0, 1) := by decide +kernel
theorem dX12_isOf_1 : decode cX12_isOf 1 = .ok (.iload_n 1, 1) := by decide +kernel
theorem dX12_isOf_2 : decode cX12_isOf 2 = .ok (.ishr, 1) := by decide +kernel
theorem dX12_isOf_3 : decode cX12_isOf 3 = .ok (.iconst 1, 1) := by decide +kernel
theorem dX12_isOf_4 : decode cX12_isOf 4 = .ok (.iand, 1) := by decide +kernel
theorem dX12_isOf_5 : decode cX12_isOf 5 = .ok (.iconst 1, 1) := by decide +kernel
theorem dX12_isOf_6 : decode cX12_isOf 6 = .ok (.if_icmp .ne 7, 3) := by decide +kernel
theorem dX12_isOf_9 : decode cX12_isOf 9 = .ok (.iconst 1, 1) := by decide +kernel
theorem dX12_isOf_10 : decode cX12_isOf 10 = .ok (.goto 4, 3) := by decide +kernel
theorem dX12_isOf_13 : decode cX12_isOf 13 = .ok (.iconst 0, 1) := by decide +kernel
theorem dX12_isOf_14 : decode cX12_isOf 14 = .ok (.ireturn, 1) := by decide +kernel
abbrev Mm_isOf : rx_M := (RX12, yX12_isOf, cX12_isOf, 2, (some .boolean), 1)
theorem km_isOf : rKs Mm_isOf 2 := ⟨tb_in (i := 23) (j := 27) rfl rfl, tb_in (i := 17) (j := 21) rfl rfl, tb_in (i := 17) (j := 14) rfl rfl, ⟨by decide, by decide, by decide +kernel⟩, by decide⟩
def m_isOf (x0 : Int32) (x1 : Int32) : Option (Int32) := (if ((x0 >>> (x1 &&& 31)) &&& (1 : Int32)) = (1 : Int32) then some ((1 : Int32)) else some ((0 : Int32)))
set_option maxRecDepth 20000 in
theorem cm_isOf {q : Int32} {x0 : Int32} {x1 : Int32} (h : m_isOf x0 x1 = some q) : rMet l D Z tys Mm_isOf [.int x0, .int x1] ws ws (some (.int q)) := by
  refine rMet.of (by decide) rfl (Nat.le_of_ble_eq_true rfl) ?_
  refine r_sub (lv' := [(0, .int x0), (1, .int x1)]) [0, 1] rfl ?_
  unfold m_isOf at h
  refine r_iload_n 0 dX12_isOf_0 rfl ?_
  refine r_iload_n 1 dX12_isOf_1 rfl ?_
  refine r_ishr dX12_isOf_2 ?_
  refine r_iconst (x := (1 : Int32)) dX12_isOf_3 (by decide) ?_
  refine r_iand dX12_isOf_4 ?_
  refine r_iconst (x := (1 : Int32)) dX12_isOf_5 (by decide) ?_
  refine r_icmp_ne 13 dX12_isOf_6 (by decide) (fun c1 => ?_) (fun c1 => ?_)
  · replace h := it_neg c1 h
    refine r_iconst (x := (0 : Int32)) dX12_isOf_13 (by decide) ?_
    have hq := Option.some.inj h
    subst hq
    exact r_zret (ty := .boolean) rfl rfl dX12_isOf_14
  · replace h := it_pos c1 h
    refine r_iconst (x := (1 : Int32)) dX12_isOf_9 (by decide) ?_
    refine r_goto 14 dX12_isOf_10 (by decide) ?_
    have hq := Option.some.inj h
    subst hq
    exact r_zret (ty := .boolean) rfl rfl dX12_isOf_14
theorem dX12_four_0 : decode cX12_four 0 = .ok (.bipush 24, 2) := by decide +kernel
theorem dX12_four_2 : decode cX12_four 2 = .ok (.istore_n 2, 1) := by decide +kernel
theorem dX12_four_3 : decode cX12_four 3 = .ok (.iload_n 2, 1) := by decide +kernel
theorem dX12_four_4 : decode cX12_four 4 = .ok (.ifCond .lt 32, 3) := by decide +kernel
theorem dX12_four_7 : decode cX12_four 7 = .ok (.aload_n 0, 1) := by decide +kernel
theorem dX12_four_8 : decode cX12_four 8 = .ok (.getfield 7, 3) := by decide +kernel
theorem dX12_four_11 : decode cX12_four 11 = .ok (.aload_n 0, 1) := by decide +kernel
theorem dX12_four_12 : decode cX12_four 12 = .ok (.getfield 86, 3) := by decide +kernel
theorem dX12_four_15 : decode cX12_four 15 = .ok (.iload_n 1, 1) := by decide +kernel
theorem dX12_four_16 : decode cX12_four 16 = .ok (.iload_n 2, 1) := by decide +kernel
theorem dX12_four_17 : decode cX12_four 17 = .ok (.ishr, 1) := by decide +kernel
theorem dX12_four_18 : decode cX12_four 18 = .ok (.i2b, 1) := by decide +kernel
theorem dX12_four_19 : decode cX12_four 19 = .ok (.bastore, 1) := by decide +kernel
theorem dX12_four_20 : decode cX12_four 20 = .ok (.aload_n 0, 1) := by decide +kernel
theorem dX12_four_21 : decode cX12_four 21 = .ok (.dup, 1) := by decide +kernel
theorem dX12_four_22 : decode cX12_four 22 = .ok (.getfield 86, 3) := by decide +kernel
theorem dX12_four_25 : decode cX12_four 25 = .ok (.iconst 1, 1) := by decide +kernel
theorem dX12_four_26 : decode cX12_four 26 = .ok (.iadd, 1) := by decide +kernel
theorem dX12_four_27 : decode cX12_four 27 = .ok (.putfield 86, 3) := by decide +kernel
theorem dX12_four_30 : decode cX12_four 30 = .ok (.iinc 2 (-8), 3) := by decide +kernel
theorem dX12_four_33 : decode cX12_four 33 = .ok (.goto (-30), 3) := by decide +kernel
theorem dX12_four_36 : decode cX12_four 36 = .ok (.return_, 1) := by decide +kernel
abbrev Mm_four : rx_M := (RX12, yX12_four, cX12_four, 3, none, 1)
theorem km_four : rKv Mm_four 1 := ⟨tb_in (i := 17) (j := 19) rfl rfl, tb_in (i := 17) (j := 20) rfl rfl, tb_in (i := 17) (j := 21) rfl rfl, tb_in (i := 17) (j := 15) rfl rfl, ⟨by decide, by decide, by decide +kernel⟩, by decide⟩
def m_four_l3 (x1 : Int32) : Nat → Int32 → (Nat → Int32) → Int32 → Option ((Nat → Int32) × Int32)
  | 0, _, _, _ => none
  | n + 1, x2, z_tape, z_taped => (if x2 < 0 then some (z_tape, z_taped) else rq (inb z_taped 400) (lt (upd z_tape z_taped.toNatClampNeg (vp_nar .byte ((x1 >>> (x2 &&& 31)).toInt8.toInt32))) (fun u2 => lt (z_taped + (1 : Int32)) (fun y3 => m_four_l3 x1 n (x2 + (-8 : Int32)) u2 y3))))
set_option maxRecDepth 20000 in
theorem cm_four_l3 {q : (Nat → Int32) × Int32} {x1 : Int32}  : ∀ (n : Nat) (x2 : Int32) (z_tape : Nat → Int32) (z_taped : Int32), m_four_l3 x1 n x2 z_tape z_taped = some q → rW l D Z (ty7 K) Mm_four 3 [(0, .ref (ad 0)), (1, .int x1), (2, .int x2)] [] (wM K ad z_tape z_taped z_rules z_sign z_length z_clause z_clauses z_read z_next z_wrong z_number z_text z_made z_deep z_lines z_open z_opened z_stack z_top z_word z_said z_force z_x z_absent z_isRaining z_wasSaid z_undone z_kept z_order z_bestOrder z_hasBy z_wealthThen z_isFit z_tillThen z_drawX z_images z_imageForce z_imageX z_isMade) (wM K ad q.1 q.2 z_rules z_sign z_length z_clause z_clauses z_read z_next z_wrong z_number z_text z_made z_deep z_lines z_open z_opened z_stack z_top z_word z_said z_force z_x z_absent z_isRaining z_wasSaid z_undone z_kept z_order z_bestOrder z_hasBy z_wealthThen z_isFit z_tillThen z_drawX z_images z_imageForce z_imageX z_isMade) none := by
  intro n
  induction n with
  | zero => intro x2 z_tape z_taped h; unfold m_four_l3 at h; cases h
  | succ n ih =>
    intro x2 z_tape z_taped h
    unfold m_four_l3 at h
    refine r_iload_n 2 dX12_four_3 rfl ?_
    refine r_if_lt 36 dX12_four_4 (by decide) (fun c1 => ?_) (fun c1 => ?_)
    · replace h := it_pos c1 h
      have hq := Option.some.inj h
      subst hq
      exact r_vret rfl dX12_four_36
    · replace h := it_neg c1 h
      refine r_aload_n 0 dX12_four_7 rfl ?_
      refine gM_tape rfl dX12_four_8 ?_
      refine r_aload_n 0 dX12_four_11 rfl ?_
      refine gM_taped rfl dX12_four_12 ?_
      refine r_iload_n 1 dX12_four_15 rfl ?_
      refine r_iload_n 2 dX12_four_16 rfl ?_
      refine r_ishr dX12_four_17 ?_
      refine r_i2b dX12_four_18 ?_
      obtain ⟨h2, h⟩ := rq_some h
      obtain ⟨u2, e2, h⟩ := lt_some h
      refine sM_tape e2 (inb_in h2) dX12_four_19 ?_
      refine r_aload_n 0 dX12_four_20 rfl ?_
      refine r_dup dX12_four_21 rfl ?_
      refine gM_taped rfl dX12_four_22 ?_
      refine r_iconst (x := (1 : Int32)) dX12_four_25 (by decide) ?_
      refine r_iadd dX12_four_26 ?_
      obtain ⟨y3, e3, h⟩ := lt_some h
      refine r_top e3 ?_
      refine pM_taped rfl dX12_four_27 ?_
      refine r_iinc (y := (x2 + (-8 : Int32))) (lv' := [(2, .int (x2 + (-8 : Int32))), (0, .ref (ad 0)), (1, .int x1)]) 2 dX12_four_30 rfl rfl (by decide) rfl ?_
      refine r_goto 3 dX12_four_33 (by decide) ?_
      refine r_sub (lv' := [(0, .ref (ad 0)), (1, .int x1), (2, .int (x2 + (-8 : Int32)))]) [1, 2, 0] rfl ?_
      exact ih _ _ _ h
def m_four (x1 : Int32) (z_tape : Nat → Int32) (z_taped : Int32) : Option ((Nat → Int32) × Int32) := m_four_l3 x1 FU (24 : Int32) z_tape z_taped
set_option maxRecDepth 20000 in
theorem cm_four {q : (Nat → Int32) × Int32} {x1 : Int32} (h : m_four x1 z_tape z_taped = some q) : rMet l D Z (ty7 K) Mm_four [.ref (ad 0), .int x1] (wM K ad z_tape z_taped z_rules z_sign z_length z_clause z_clauses z_read z_next z_wrong z_number z_text z_made z_deep z_lines z_open z_opened z_stack z_top z_word z_said z_force z_x z_absent z_isRaining z_wasSaid z_undone z_kept z_order z_bestOrder z_hasBy z_wealthThen z_isFit z_tillThen z_drawX z_images z_imageForce z_imageX z_isMade) (wM K ad q.1 q.2 z_rules z_sign z_length z_clause z_clauses z_read z_next z_wrong z_number z_text z_made z_deep z_lines z_open z_opened z_stack z_top z_word z_said z_force z_x z_absent z_isRaining z_wasSaid z_undone z_kept z_order z_bestOrder z_hasBy z_wealthThen z_isFit z_tillThen z_drawX z_images z_imageForce z_imageX z_isMade) none := by
  refine rMet.of (by decide) rfl (Nat.le_of_ble_eq_true rfl) ?_
  refine r_sub (lv' := [(0, .ref (ad 0)), (1, .int x1)]) [0, 1] rfl ?_
  unfold m_four at h
  refine r_bipush (x := (24 : Int32)) dX12_four_0 (by decide) ?_
  refine r_istore_n (lv' := [(2, .int (24 : Int32)), (0, .ref (ad 0)), (1, .int x1)]) dX12_four_2 (by decide) rfl ?_
  refine r_sub (lv' := [(0, .ref (ad 0)), (1, .int x1), (2, .int (24 : Int32))]) [1, 2, 0] rfl ?_
  exact cm_four_l3  FU _ _ _ h
theorem dX12_feed_0 : decode cX12_feed 0 = .ok (.aload_n 0, 1) := by decide +kernel
theorem dX12_feed_1 : decode cX12_feed 1 = .ok (.getfield 86, 3) := by decide +kernel
theorem dX12_feed_4 : decode cX12_feed 4 = .ok (.bipush 20, 2) := by decide +kernel
theorem dX12_feed_6 : decode cX12_feed 6 = .ok (.iadd, 1) := by decide +kernel
theorem dX12_feed_7 : decode cX12_feed 7 = .ok (.sipush 400, 3) := by decide +kernel
theorem dX12_feed_10 : decode cX12_feed 10 = .ok (.if_icmp .le 5, 3) := by decide +kernel
theorem dX12_feed_13 : decode cX12_feed 13 = .ok (.iconst (-1), 1) := by decide +kernel
theorem dX12_feed_14 : decode cX12_feed 14 = .ok (.ireturn, 1) := by decide +kernel
theorem dX12_feed_15 : decode cX12_feed 15 = .ok (.aload_n 0, 1) := by decide +kernel
theorem dX12_feed_16 : decode cX12_feed 16 = .ok (.iload_n 1, 1) := by decide +kernel
theorem dX12_feed_17 : decode cX12_feed 17 = .ok (.invokevirtual 89, 3) := by decide +kernel
theorem dX12_feed_20 : decode cX12_feed 20 = .ok (.aload_n 0, 1) := by decide +kernel
theorem dX12_feed_21 : decode cX12_feed 21 = .ok (.iload_n 2, 1) := by decide +kernel
theorem dX12_feed_22 : decode cX12_feed 22 = .ok (.invokevirtual 89, 3) := by decide +kernel
theorem dX12_feed_25 : decode cX12_feed 25 = .ok (.aload_n 0, 1) := by decide +kernel
theorem dX12_feed_26 : decode cX12_feed 26 = .ok (.iload_n 3, 1) := by decide +kernel
theorem dX12_feed_27 : decode cX12_feed 27 = .ok (.invokevirtual 89, 3) := by decide +kernel
theorem dX12_feed_30 : decode cX12_feed 30 = .ok (.aload_n 0, 1) := by decide +kernel
theorem dX12_feed_31 : decode cX12_feed 31 = .ok (.iload 4, 2) := by decide +kernel
theorem dX12_feed_33 : decode cX12_feed 33 = .ok (.invokevirtual 89, 3) := by decide +kernel
theorem dX12_feed_36 : decode cX12_feed 36 = .ok (.aload_n 0, 1) := by decide +kernel
theorem dX12_feed_37 : decode cX12_feed 37 = .ok (.iload 5, 2) := by decide +kernel
theorem dX12_feed_39 : decode cX12_feed 39 = .ok (.invokevirtual 89, 3) := by decide +kernel
theorem dX12_feed_42 : decode cX12_feed 42 = .ok (.aload_n 0, 1) := by decide +kernel
theorem dX12_feed_43 : decode cX12_feed 43 = .ok (.getfield 86, 3) := by decide +kernel
theorem dX12_feed_46 : decode cX12_feed 46 = .ok (.ireturn, 1) := by decide +kernel
abbrev Mm_feed : rx_M := (RX12, yX12_feed, cX12_feed, 6, (some .int), 2)
theorem km_feed : rKv Mm_feed 5 := ⟨tb_in (i := 30) (j := 20) rfl rfl, tb_in (i := 30) (j := 21) rfl rfl, tb_in (i := 17) (j := 21) rfl rfl, tb_in (i := 17) (j := 17) rfl rfl, ⟨by decide, by decide, by decide +kernel⟩, by decide⟩
def m_feed (x1 : Int32) (x2 : Int32) (x3 : Int32) (x4 : Int32) (x5 : Int32) (z_tape : Nat → Int32) (z_taped : Int32) : Option (Int32 × (Nat → Int32) × Int32) := (if (z_taped + (20 : Int32)) ≤ (400 : Int32) then (m_four x1 z_tape z_taped).bind (fun q2 => (m_four x2 q2.1 q2.2).bind (fun q3 => (m_four x3 q3.1 q3.2).bind (fun q4 => (m_four x4 q4.1 q4.2).bind (fun q5 => (m_four x5 q5.1 q5.2).bind (fun q6 => some (q6.2, q6.1, q6.2)))))) else some ((-1 : Int32), z_tape, z_taped))
set_option maxRecDepth 20000 in
theorem cm_feed {q : Int32 × (Nat → Int32) × Int32} {x1 : Int32} {x2 : Int32} {x3 : Int32} {x4 : Int32} {x5 : Int32} (h : m_feed x1 x2 x3 x4 x5 z_tape z_taped = some q) : rMet l D Z (ty7 K) Mm_feed [.ref (ad 0), .int x1, .int x2, .int x3, .int x4, .int x5] (wM K ad z_tape z_taped z_rules z_sign z_length z_clause z_clauses z_read z_next z_wrong z_number z_text z_made z_deep z_lines z_open z_opened z_stack z_top z_word z_said z_force z_x z_absent z_isRaining z_wasSaid z_undone z_kept z_order z_bestOrder z_hasBy z_wealthThen z_isFit z_tillThen z_drawX z_images z_imageForce z_imageX z_isMade) (wM K ad q.2.1 q.2.2 z_rules z_sign z_length z_clause z_clauses z_read z_next z_wrong z_number z_text z_made z_deep z_lines z_open z_opened z_stack z_top z_word z_said z_force z_x z_absent z_isRaining z_wasSaid z_undone z_kept z_order z_bestOrder z_hasBy z_wealthThen z_isFit z_tillThen z_drawX z_images z_imageForce z_imageX z_isMade) (some (.int q.1)) := by
  refine rMet.of (by decide) rfl (Nat.le_of_ble_eq_true rfl) ?_
  refine r_sub (lv' := [(0, .ref (ad 0)), (1, .int x1), (2, .int x2), (3, .int x3), (4, .int x4), (5, .int x5)]) [0, 1, 2, 3, 4, 5] rfl ?_
  unfold m_feed at h
  refine r_aload_n 0 dX12_feed_0 rfl ?_
  refine gM_taped rfl dX12_feed_1 ?_
  refine r_bipush (x := (20 : Int32)) dX12_feed_4 (by decide) ?_
  refine r_iadd dX12_feed_6 ?_
  refine r_sipush (x := (400 : Int32)) dX12_feed_7 (by decide) ?_
  refine r_icmp_le 15 dX12_feed_10 (by decide) (fun c1 => ?_) (fun c1 => ?_)
  · replace h := it_pos c1 h
    refine r_aload_n 0 dX12_feed_15 rfl ?_
    refine r_iload_n 1 dX12_feed_16 rfl ?_
    obtain ⟨q2, h2, h⟩ := bd_some h
    refine cvM (st := []) (cm_four h2) rfl rfl (Nat.le_of_ble_eq_true rfl) km_four (tb_in (i := 17) (j := 18) rfl rfl) (by decide) rfl dX12_feed_17 ?_
    refine r_aload_n 0 dX12_feed_20 rfl ?_
    refine r_iload_n 2 dX12_feed_21 rfl ?_
    obtain ⟨q3, h3, h⟩ := bd_some h
    refine cvM (st := []) (cm_four h3) rfl rfl (Nat.le_of_ble_eq_true rfl) km_four (tb_in (i := 17) (j := 18) rfl rfl) (by decide) rfl dX12_feed_22 ?_
    refine r_aload_n 0 dX12_feed_25 rfl ?_
    refine r_iload_n 3 dX12_feed_26 rfl ?_
    obtain ⟨q4, h4, h⟩ := bd_some h
    refine cvM (st := []) (cm_four h4) rfl rfl (Nat.le_of_ble_eq_true rfl) km_four (tb_in (i := 17) (j := 18) rfl rfl) (by decide) rfl dX12_feed_27 ?_
    refine r_aload_n 0 dX12_feed_30 rfl ?_
    refine r_iload 4 dX12_feed_31 rfl ?_
    obtain ⟨q5, h5, h⟩ := bd_some h
    refine cvM (st := []) (cm_four h5) rfl rfl (Nat.le_of_ble_eq_true rfl) km_four (tb_in (i := 17) (j := 18) rfl rfl) (by decide) rfl dX12_feed_33 ?_
    refine r_aload_n 0 dX12_feed_36 rfl ?_
    refine r_iload 5 dX12_feed_37 rfl ?_
    obtain ⟨q6, h6, h⟩ := bd_some h
    refine cvM (st := []) (cm_four h6) rfl rfl (Nat.le_of_ble_eq_true rfl) km_four (tb_in (i := 17) (j := 18) rfl rfl) (by decide) rfl dX12_feed_39 ?_
    refine r_aload_n 0 dX12_feed_42 rfl ?_
    refine gM_taped rfl dX12_feed_43 ?_
    have hq := Option.some.inj h
    subst hq
    exact r_iret rfl dX12_feed_46
  · replace h := it_neg c1 h
    refine r_iconst (x := (-1 : Int32)) dX12_feed_13 (by decide) ?_
    have hq := Option.some.inj h
    subst hq
    exact r_iret rfl dX12_feed_14
theorem dX12_end_0 : decode cX12_end 0 = .ok (.iload_n 1, 1) := by decide +kernel
theorem dX12_end_1 : decode cX12_end 1 = .ok (.ifCond .lt 11, 3) := by decide +kernel
theorem dX12_end_4 : decode cX12_end 4 = .ok (.iload_n 1, 1) := by decide +kernel
theorem dX12_end_5 : decode cX12_end 5 = .ok (.aload_n 0, 1) := by decide +kernel
theorem dX12_end_6 : decode cX12_end 6 = .ok (.getfield 86, 3) := by decide +kernel
theorem dX12_end_9 : decode cX12_end 9 = .ok (.if_icmp .le 5, 3) := by decide +kernel
theorem dX12_end_12 : decode cX12_end 12 = .ok (.iconst (-1), 1) := by decide +kernel
theorem dX12_end_13 : decode cX12_end 13 = .ok (.ireturn, 1) := by decide +kernel
theorem dX12_end_14 : decode cX12_end 14 = .ok (.aload_n 0, 1) := by decide +kernel
theorem dX12_end_15 : decode cX12_end 15 = .ok (.iload_n 1, 1) := by decide +kernel
theorem dX12_end_16 : decode cX12_end 16 = .ok (.putfield 86, 3) := by decide +kernel
theorem dX12_end_19 : decode cX12_end 19 = .ok (.iload_n 1, 1) := by decide +kernel
theorem dX12_end_20 : decode cX12_end 20 = .ok (.ireturn, 1) := by decide +kernel
abbrev Mm_end : rx_M := (RX12, yX12_end, cX12_end, 2, (some .int), 1)
theorem km_end : rKv Mm_end 1 := ⟨tb_in (i := 30) (j := 26) rfl rfl, tb_in (i := 30) (j := 27) rfl rfl, tb_in (i := 17) (j := 21) rfl rfl, tb_in (i := 17) (j := 22) rfl rfl, ⟨by decide, by decide, by decide +kernel⟩, by decide⟩
def m_end (x1 : Int32) (z_taped : Int32) : Option (Int32 × Int32) := (if x1 < 0 then some ((-1 : Int32), z_taped) else (if x1 ≤ z_taped then some (x1, x1) else some ((-1 : Int32), z_taped)))
set_option maxRecDepth 20000 in
theorem cm_end {q : Int32 × Int32} {x1 : Int32} (h : m_end x1 z_taped = some q) : rMet l D Z (ty7 K) Mm_end [.ref (ad 0), .int x1] (wM K ad z_tape z_taped z_rules z_sign z_length z_clause z_clauses z_read z_next z_wrong z_number z_text z_made z_deep z_lines z_open z_opened z_stack z_top z_word z_said z_force z_x z_absent z_isRaining z_wasSaid z_undone z_kept z_order z_bestOrder z_hasBy z_wealthThen z_isFit z_tillThen z_drawX z_images z_imageForce z_imageX z_isMade) (wM K ad z_tape q.2 z_rules z_sign z_length z_clause z_clauses z_read z_next z_wrong z_number z_text z_made z_deep z_lines z_open z_opened z_stack z_top z_word z_said z_force z_x z_absent z_isRaining z_wasSaid z_undone z_kept z_order z_bestOrder z_hasBy z_wealthThen z_isFit z_tillThen z_drawX z_images z_imageForce z_imageX z_isMade) (some (.int q.1)) := by
  refine rMet.of (by decide) rfl (Nat.le_of_ble_eq_true rfl) ?_
  refine r_sub (lv' := [(0, .ref (ad 0)), (1, .int x1)]) [0, 1] rfl ?_
  unfold m_end at h
  refine r_iload_n 1 dX12_end_0 rfl ?_
  refine r_if_lt 12 dX12_end_1 (by decide) (fun c1 => ?_) (fun c1 => ?_)
  · replace h := it_pos c1 h
    refine r_iconst (x := (-1 : Int32)) dX12_end_12 (by decide) ?_
    have hq := Option.some.inj h
    subst hq
    exact r_iret rfl dX12_end_13
  · replace h := it_neg c1 h
    refine r_iload_n 1 dX12_end_4 rfl ?_
    refine r_aload_n 0 dX12_end_5 rfl ?_
    refine gM_taped rfl dX12_end_6 ?_
    refine r_icmp_le 14 dX12_end_9 (by decide) (fun c2 => ?_) (fun c2 => ?_)
    · replace h := it_pos c2 h
      refine r_aload_n 0 dX12_end_14 rfl ?_
      refine r_iload_n 1 dX12_end_15 rfl ?_
      refine pM_taped rfl dX12_end_16 ?_
      refine r_iload_n 1 dX12_end_19 rfl ?_
      have hq := Option.some.inj h
      subst hq
      exact r_iret rfl dX12_end_20
    · replace h := it_neg c2 h
      refine r_iconst (x := (-1 : Int32)) dX12_end_12 (by decide) ?_
      have hq := Option.some.inj h
      subst hq
      exact r_iret rfl dX12_end_13
theorem dX12_fails_0 : decode cX12_fails 0 = .ok (.aload_n 0, 1) := by decide +kernel
theorem dX12_fails_1 : decode cX12_fails 1 = .ok (.getfield 93, 3) := by decide +kernel
theorem dX12_fails_4 : decode cX12_fails 4 = .ok (.ifCond .ne 15, 3) := by decide +kernel
theorem dX12_fails_7 : decode cX12_fails 7 = .ok (.aload_n 0, 1) := by decide +kernel
theorem dX12_fails_8 : decode cX12_fails 8 = .ok (.iconst 1, 1) := by decide +kernel
theorem dX12_fails_9 : decode cX12_fails 9 = .ok (.bipush 8, 2) := by decide +kernel
theorem dX12_fails_11 : decode cX12_fails 11 = .ok (.iload_n 2, 1) := by decide +kernel
theorem dX12_fails_12 : decode cX12_fails 12 = .ok (.imul, 1) := by decide +kernel
theorem dX12_fails_13 : decode cX12_fails 13 = .ok (.iadd, 1) := by decide +kernel
theorem dX12_fails_14 : decode cX12_fails 14 = .ok (.iload_n 1, 1) := by decide +kernel
theorem dX12_fails_15 : decode cX12_fails 15 = .ok (.iadd, 1) := by decide +kernel
theorem dX12_fails_16 : decode cX12_fails 16 = .ok (.putfield 93, 3) := by decide +kernel
theorem dX12_fails_19 : decode cX12_fails 19 = .ok (.iconst 0, 1) := by decide +kernel
theorem dX12_fails_20 : decode cX12_fails 20 = .ok (.ireturn, 1) := by decide +kernel
abbrev Mm_fails : rx_M := (RX12, yX12_fails, cX12_fails, 3, (some .boolean), 1)
theorem km_fails : rKv Mm_fails 2 := ⟨tb_in (i := 18) (j := 18) rfl rfl, tb_in (i := 18) (j := 19) rfl rfl, tb_in (i := 17) (j := 21) rfl rfl, tb_in (i := 17) (j := 23) rfl rfl, ⟨by decide, by decide, by decide +kernel⟩, by decide⟩
def m_fails (x1 : Int32) (x2 : Int32) (z_wrong : Int32) : Option (Int32 × Int32) := (if z_wrong = 0 then lt (((1 : Int32) + ((8 : Int32) * x2)) + x1) (fun y2 => some ((0 : Int32), y2)) else some ((0 : Int32), z_wrong))
set_option maxRecDepth 20000 in
theorem cm_fails {q : Int32 × Int32} {x1 : Int32} {x2 : Int32} (h : m_fails x1 x2 z_wrong = some q) : rMet l D Z (ty7 K) Mm_fails [.ref (ad 0), .int x1, .int x2] (wM K ad z_tape z_taped z_rules z_sign z_length z_clause z_clauses z_read z_next z_wrong z_number z_text z_made z_deep z_lines z_open z_opened z_stack z_top z_word z_said z_force z_x z_absent z_isRaining z_wasSaid z_undone z_kept z_order z_bestOrder z_hasBy z_wealthThen z_isFit z_tillThen z_drawX z_images z_imageForce z_imageX z_isMade) (wM K ad z_tape z_taped z_rules z_sign z_length z_clause z_clauses z_read z_next q.2 z_number z_text z_made z_deep z_lines z_open z_opened z_stack z_top z_word z_said z_force z_x z_absent z_isRaining z_wasSaid z_undone z_kept z_order z_bestOrder z_hasBy z_wealthThen z_isFit z_tillThen z_drawX z_images z_imageForce z_imageX z_isMade) (some (.int q.1)) := by
  refine rMet.of (by decide) rfl (Nat.le_of_ble_eq_true rfl) ?_
  refine r_sub (lv' := [(0, .ref (ad 0)), (1, .int x1), (2, .int x2)]) [0, 1, 2] rfl ?_
  unfold m_fails at h
  refine r_aload_n 0 dX12_fails_0 rfl ?_
  refine gM_wrong rfl dX12_fails_1 ?_
  refine r_if_ne 19 dX12_fails_4 (by decide) (fun c1 => ?_) (fun c1 => ?_)
  · replace h := it_neg c1 h
    refine r_iconst (x := (0 : Int32)) dX12_fails_19 (by decide) ?_
    have hq := Option.some.inj h
    subst hq
    exact r_zret (ty := .boolean) rfl rfl dX12_fails_20
  · replace h := it_pos c1 h
    refine r_aload_n 0 dX12_fails_7 rfl ?_
    refine r_iconst (x := (1 : Int32)) dX12_fails_8 (by decide) ?_
    refine r_bipush (x := (8 : Int32)) dX12_fails_9 (by decide) ?_
    refine r_iload_n 2 dX12_fails_11 rfl ?_
    refine r_imul dX12_fails_12 ?_
    refine r_iadd dX12_fails_13 ?_
    refine r_iload_n 1 dX12_fails_14 rfl ?_
    refine r_iadd dX12_fails_15 ?_
    obtain ⟨y2, e2, h⟩ := lt_some h
    refine r_top e2 ?_
    refine pM_wrong rfl dX12_fails_16 ?_
    refine r_iconst (x := (0 : Int32)) dX12_fails_19 (by decide) ?_
    have hq := Option.some.inj h
    subst hq
    exact r_zret (ty := .boolean) rfl rfl dX12_fails_20
theorem dX12_see_0 : decode cX12_see 0 = .ok (.aload_n 0, 1) := by decide +kernel
theorem dX12_see_1 : decode cX12_see 1 = .ok (.getfield 96, 3) := by decide +kernel
theorem dX12_see_4 : decode cX12_see 4 = .ok (.aload_n 0, 1) := by decide +kernel
theorem dX12_see_5 : decode cX12_see 5 = .ok (.getfield 86, 3) := by decide +kernel
theorem dX12_see_8 : decode cX12_see 8 = .ok (.if_icmp .ge 30, 3) := by decide +kernel
theorem dX12_see_11 : decode cX12_see 11 = .ok (.aload_n 0, 1) := by decide +kernel
theorem dX12_see_12 : decode cX12_see 12 = .ok (.getfield 7, 3) := by decide +kernel
theorem dX12_see_15 : decode cX12_see 15 = .ok (.aload_n 0, 1) := by decide +kernel
theorem dX12_see_16 : decode cX12_see 16 = .ok (.getfield 96, 3) := by decide +kernel
theorem dX12_see_19 : decode cX12_see 19 = .ok (.baload, 1) := by decide +kernel
theorem dX12_see_20 : decode cX12_see 20 = .ok (.bipush 32, 2) := by decide +kernel
theorem dX12_see_22 : decode cX12_see 22 = .ok (.if_icmp .ne 16, 3) := by decide +kernel
theorem dX12_see_25 : decode cX12_see 25 = .ok (.aload_n 0, 1) := by decide +kernel
theorem dX12_see_26 : decode cX12_see 26 = .ok (.dup, 1) := by decide +kernel
theorem dX12_see_27 : decode cX12_see 27 = .ok (.getfield 96, 3) := by decide +kernel
theorem dX12_see_30 : decode cX12_see 30 = .ok (.iconst 1, 1) := by decide +kernel
theorem dX12_see_31 : decode cX12_see 31 = .ok (.iadd, 1) := by decide +kernel
theorem dX12_see_32 : decode cX12_see 32 = .ok (.putfield 96, 3) := by decide +kernel
theorem dX12_see_35 : decode cX12_see 35 = .ok (.goto (-35), 3) := by decide +kernel
theorem dX12_see_38 : decode cX12_see 38 = .ok (.aload_n 0, 1) := by decide +kernel
theorem dX12_see_39 : decode cX12_see 39 = .ok (.getfield 96, 3) := by decide +kernel
theorem dX12_see_42 : decode cX12_see 42 = .ok (.aload_n 0, 1) := by decide +kernel
theorem dX12_see_43 : decode cX12_see 43 = .ok (.getfield 86, 3) := by decide +kernel
theorem dX12_see_46 : decode cX12_see 46 = .ok (.if_icmp .ge 19, 3) := by decide +kernel
theorem dX12_see_49 : decode cX12_see 49 = .ok (.aload_n 0, 1) := by decide +kernel
theorem dX12_see_50 : decode cX12_see 50 = .ok (.getfield 7, 3) := by decide +kernel
theorem dX12_see_53 : decode cX12_see 53 = .ok (.aload_n 0, 1) := by decide +kernel
theorem dX12_see_54 : decode cX12_see 54 = .ok (.getfield 96, 3) := by decide +kernel
theorem dX12_see_57 : decode cX12_see 57 = .ok (.baload, 1) := by decide +kernel
theorem dX12_see_58 : decode cX12_see 58 = .ok (.sipush 255, 3) := by decide +kernel
theorem dX12_see_61 : decode cX12_see 61 = .ok (.iand, 1) := by decide +kernel
theorem dX12_see_62 : decode cX12_see 62 = .ok (.goto 4, 3) := by decide +kernel
theorem dX12_see_65 : decode cX12_see 65 = .ok (.iconst (-1), 1) := by decide +kernel
theorem dX12_see_66 : decode cX12_see 66 = .ok (.ireturn, 1) := by decide +kernel
abbrev Mm_see : rx_M := (RX12, yX12_see, cX12_see, 1, (some .int), 1)
theorem km_see : rKv Mm_see 0 := ⟨tb_in (i := 17) (j := 31) rfl rfl, tb_in (i := 18) (j := 0) rfl rfl, tb_in (i := 17) (j := 21) rfl rfl, tb_in (i := 17) (j := 25) rfl rfl, ⟨by decide, by decide, by decide +kernel⟩, by decide⟩
def m_see_l0 (z_tape : Nat → Int32) (z_taped : Int32) : Nat → Int32 → Option (Int32 × Int32)
  | 0, _ => none
  | n + 1, z_next => (if z_taped ≤ z_next then (if z_taped ≤ z_next then some ((-1 : Int32), z_next) else rq (inb z_next 400) (some (((z_tape z_next.toNatClampNeg) &&& (255 : Int32)), z_next))) else rq (inb z_next 400) ((if (z_tape z_next.toNatClampNeg) = (32 : Int32) then lt (z_next + (1 : Int32)) (fun y8 => m_see_l0 z_tape z_taped n y8) else (if z_taped ≤ z_next then some ((-1 : Int32), z_next) else rq (inb z_next 400) (some (((z_tape z_next.toNatClampNeg) &&& (255 : Int32)), z_next))))))
set_option maxRecDepth 20000 in
theorem cm_see_l0 {q : Int32 × Int32}   : ∀ (n : Nat) (z_next : Int32), m_see_l0 z_tape z_taped n z_next = some q → rW l D Z (ty7 K) Mm_see 0 [(0, .ref (ad 0))] [] (wM K ad z_tape z_taped z_rules z_sign z_length z_clause z_clauses z_read z_next z_wrong z_number z_text z_made z_deep z_lines z_open z_opened z_stack z_top z_word z_said z_force z_x z_absent z_isRaining z_wasSaid z_undone z_kept z_order z_bestOrder z_hasBy z_wealthThen z_isFit z_tillThen z_drawX z_images z_imageForce z_imageX z_isMade) (wM K ad z_tape z_taped z_rules z_sign z_length z_clause z_clauses z_read q.2 z_wrong z_number z_text z_made z_deep z_lines z_open z_opened z_stack z_top z_word z_said z_force z_x z_absent z_isRaining z_wasSaid z_undone z_kept z_order z_bestOrder z_hasBy z_wealthThen z_isFit z_tillThen z_drawX z_images z_imageForce z_imageX z_isMade) (some (.int q.1)) := by
  intro n
  induction n with
  | zero => intro z_next h; unfold m_see_l0 at h; cases h
  | succ n ih =>
    intro z_next h
    unfold m_see_l0 at h
    refine r_aload_n 0 dX12_see_0 rfl ?_
    refine gM_next rfl dX12_see_1 ?_
    refine r_aload_n 0 dX12_see_4 rfl ?_
    refine gM_taped rfl dX12_see_5 ?_
    refine r_icmp_ge 38 dX12_see_8 (by decide) (fun c1 => ?_) (fun c1 => ?_)
    · replace h := it_pos c1 h
      refine r_aload_n 0 dX12_see_38 rfl ?_
      refine gM_next rfl dX12_see_39 ?_
      refine r_aload_n 0 dX12_see_42 rfl ?_
      refine gM_taped rfl dX12_see_43 ?_
      refine r_icmp_ge 65 dX12_see_46 (by decide) (fun c2 => ?_) (fun c2 => ?_)
      · replace h := it_pos c2 h
        refine r_iconst (x := (-1 : Int32)) dX12_see_65 (by decide) ?_
        have hq := Option.some.inj h
        subst hq
        exact r_iret rfl dX12_see_66
      · replace h := it_neg c2 h
        refine r_aload_n 0 dX12_see_49 rfl ?_
        refine gM_tape rfl dX12_see_50 ?_
        refine r_aload_n 0 dX12_see_53 rfl ?_
        refine gM_next rfl dX12_see_54 ?_
        obtain ⟨h3, h⟩ := rq_some h
        refine lM_tape (inb_in h3) dX12_see_57 ?_
        refine r_sipush (x := (255 : Int32)) dX12_see_58 (by decide) ?_
        refine r_iand dX12_see_61 ?_
        refine r_goto 66 dX12_see_62 (by decide) ?_
        have hq := Option.some.inj h
        subst hq
        exact r_iret rfl dX12_see_66
    · replace h := it_neg c1 h
      refine r_aload_n 0 dX12_see_11 rfl ?_
      refine gM_tape rfl dX12_see_12 ?_
      refine r_aload_n 0 dX12_see_15 rfl ?_
      refine gM_next rfl dX12_see_16 ?_
      obtain ⟨h4, h⟩ := rq_some h
      refine lM_tape (inb_in h4) dX12_see_19 ?_
      refine r_bipush (x := (32 : Int32)) dX12_see_20 (by decide) ?_
      refine r_icmp_ne 38 dX12_see_22 (by decide) (fun c5 => ?_) (fun c5 => ?_)
      · replace h := it_neg c5 h
        refine r_aload_n 0 dX12_see_38 rfl ?_
        refine gM_next rfl dX12_see_39 ?_
        refine r_aload_n 0 dX12_see_42 rfl ?_
        refine gM_taped rfl dX12_see_43 ?_
        refine r_icmp_ge 65 dX12_see_46 (by decide) (fun c6 => ?_) (fun c6 => ?_)
        · replace h := it_pos c6 h
          refine r_iconst (x := (-1 : Int32)) dX12_see_65 (by decide) ?_
          have hq := Option.some.inj h
          subst hq
          exact r_iret rfl dX12_see_66
        · replace h := it_neg c6 h
          refine r_aload_n 0 dX12_see_49 rfl ?_
          refine gM_tape rfl dX12_see_50 ?_
          refine r_aload_n 0 dX12_see_53 rfl ?_
          refine gM_next rfl dX12_see_54 ?_
          obtain ⟨h7, h⟩ := rq_some h
          refine lM_tape (inb_in h7) dX12_see_57 ?_
          refine r_sipush (x := (255 : Int32)) dX12_see_58 (by decide) ?_
          refine r_iand dX12_see_61 ?_
          refine r_goto 66 dX12_see_62 (by decide) ?_
          have hq := Option.some.inj h
          subst hq
          exact r_iret rfl dX12_see_66
      · replace h := it_pos c5 h
        refine r_aload_n 0 dX12_see_25 rfl ?_
        refine r_dup dX12_see_26 rfl ?_
        refine gM_next rfl dX12_see_27 ?_
        refine r_iconst (x := (1 : Int32)) dX12_see_30 (by decide) ?_
        refine r_iadd dX12_see_31 ?_
        obtain ⟨y8, e8, h⟩ := lt_some h
        refine r_top e8 ?_
        refine pM_next rfl dX12_see_32 ?_
        refine r_goto 0 dX12_see_35 (by decide) ?_
        exact ih _ h
def m_see (z_tape : Nat → Int32) (z_taped : Int32) (z_next : Int32) : Option (Int32 × Int32) := m_see_l0 z_tape z_taped FU z_next
set_option maxRecDepth 20000 in
theorem cm_see {q : Int32 × Int32}  (h : m_see z_tape z_taped z_next = some q) : rMet l D Z (ty7 K) Mm_see [.ref (ad 0)] (wM K ad z_tape z_taped z_rules z_sign z_length z_clause z_clauses z_read z_next z_wrong z_number z_text z_made z_deep z_lines z_open z_opened z_stack z_top z_word z_said z_force z_x z_absent z_isRaining z_wasSaid z_undone z_kept z_order z_bestOrder z_hasBy z_wealthThen z_isFit z_tillThen z_drawX z_images z_imageForce z_imageX z_isMade) (wM K ad z_tape z_taped z_rules z_sign z_length z_clause z_clauses z_read q.2 z_wrong z_number z_text z_made z_deep z_lines z_open z_opened z_stack z_top z_word z_said z_force z_x z_absent z_isRaining z_wasSaid z_undone z_kept z_order z_bestOrder z_hasBy z_wealthThen z_isFit z_tillThen z_drawX z_images z_imageForce z_imageX z_isMade) (some (.int q.1)) := by
  refine rMet.of (by decide) rfl (Nat.le_of_ble_eq_true rfl) ?_
  refine r_sub (lv' := [(0, .ref (ad 0))]) [0] rfl ?_
  unfold m_see at h
  exact cm_see_l0  FU _ h
theorem dX12_isDigit_0 : decode cX12_isDigit 0 = .ok (.iload_n 1, 1) := by decide +kernel
theorem dX12_isDigit_1 : decode cX12_isDigit 1 = .ok (.aload_n 0, 1) := by decide +kernel
theorem dX12_isDigit_2 : decode cX12_isDigit 2 = .ok (.getfield 86, 3) := by decide +kernel
theorem dX12_isDigit_5 : decode cX12_isDigit 5 = .ok (.if_icmp .ge 29, 3) := by decide +kernel
theorem dX12_isDigit_8 : decode cX12_isDigit 8 = .ok (.aload_n 0, 1) := by decide +kernel
theorem dX12_isDigit_9 : decode cX12_isDigit 9 = .ok (.getfield 7, 3) := by decide +kernel
theorem dX12_isDigit_12 : decode cX12_isDigit 12 = .ok (.iload_n 1, 1) := by decide +kernel
theorem dX12_isDigit_13 : decode cX12_isDigit 13 = .ok (.baload, 1) := by decide +kernel
theorem dX12_isDigit_14 : decode cX12_isDigit 14 = .ok (.bipush 48, 2) := by decide +kernel
theorem dX12_isDigit_16 : decode cX12_isDigit 16 = .ok (.if_icmp .lt 18, 3) := by decide +kernel
theorem dX12_isDigit_19 : decode cX12_isDigit 19 = .ok (.aload_n 0, 1) := by decide +kernel
theorem dX12_isDigit_20 : decode cX12_isDigit 20 = .ok (.getfield 7, 3) := by decide +kernel
theorem dX12_isDigit_23 : decode cX12_isDigit 23 = .ok (.iload_n 1, 1) := by decide +kernel
theorem dX12_isDigit_24 : decode cX12_isDigit 24 = .ok (.baload, 1) := by decide +kernel
theorem dX12_isDigit_25 : decode cX12_isDigit 25 = .ok (.bipush 57, 2) := by decide +kernel
theorem dX12_isDigit_27 : decode cX12_isDigit 27 = .ok (.if_icmp .gt 7, 3) := by decide +kernel
theorem dX12_isDigit_30 : decode cX12_isDigit 30 = .ok (.iconst 1, 1) := by decide +kernel
theorem dX12_isDigit_31 : decode cX12_isDigit 31 = .ok (.goto 4, 3) := by decide +kernel
theorem dX12_isDigit_34 : decode cX12_isDigit 34 = .ok (.iconst 0, 1) := by decide +kernel
theorem dX12_isDigit_35 : decode cX12_isDigit 35 = .ok (.ireturn, 1) := by decide +kernel
abbrev Mm_isDigit : rx_M := (RX12, yX12_isDigit, cX12_isDigit, 2, (some .boolean), 1)
theorem km_isDigit : rKv Mm_isDigit 1 := ⟨tb_in (i := 18) (j := 15) rfl rfl, tb_in (i := 18) (j := 16) rfl rfl, tb_in (i := 17) (j := 21) rfl rfl, tb_in (i := 17) (j := 27) rfl rfl, ⟨by decide, by decide, by decide +kernel⟩, by decide⟩
def m_isDigit (x1 : Int32) (z_tape : Nat → Int32) (z_taped : Int32) : Option (Int32) := (if z_taped ≤ x1 then some ((0 : Int32)) else rq (inb x1 400) ((if (z_tape x1.toNatClampNeg) < (48 : Int32) then some ((0 : Int32)) else rq (inb x1 400) ((if (57 : Int32) < (z_tape x1.toNatClampNeg) then some ((0 : Int32)) else some ((1 : Int32)))))))
set_option maxRecDepth 20000 in
theorem cm_isDigit {q : Int32} {x1 : Int32} (h : m_isDigit x1 z_tape z_taped = some q) : rMet l D Z (ty7 K) Mm_isDigit [.ref (ad 0), .int x1] (wM K ad z_tape z_taped z_rules z_sign z_length z_clause z_clauses z_read z_next z_wrong z_number z_text z_made z_deep z_lines z_open z_opened z_stack z_top z_word z_said z_force z_x z_absent z_isRaining z_wasSaid z_undone z_kept z_order z_bestOrder z_hasBy z_wealthThen z_isFit z_tillThen z_drawX z_images z_imageForce z_imageX z_isMade) (wM K ad z_tape z_taped z_rules z_sign z_length z_clause z_clauses z_read z_next z_wrong z_number z_text z_made z_deep z_lines z_open z_opened z_stack z_top z_word z_said z_force z_x z_absent z_isRaining z_wasSaid z_undone z_kept z_order z_bestOrder z_hasBy z_wealthThen z_isFit z_tillThen z_drawX z_images z_imageForce z_imageX z_isMade) (some (.int q)) := by
  refine rMet.of (by decide) rfl (Nat.le_of_ble_eq_true rfl) ?_
  refine r_sub (lv' := [(0, .ref (ad 0)), (1, .int x1)]) [0, 1] rfl ?_
  unfold m_isDigit at h
  refine r_iload_n 1 dX12_isDigit_0 rfl ?_
  refine r_aload_n 0 dX12_isDigit_1 rfl ?_
  refine gM_taped rfl dX12_isDigit_2 ?_
  refine r_icmp_ge 34 dX12_isDigit_5 (by decide) (fun c1 => ?_) (fun c1 => ?_)
  · replace h := it_pos c1 h
    refine r_iconst (x := (0 : Int32)) dX12_isDigit_34 (by decide) ?_
    have hq := Option.some.inj h
    subst hq
    exact r_zret (ty := .boolean) rfl rfl dX12_isDigit_35
  · replace h := it_neg c1 h
    refine r_aload_n 0 dX12_isDigit_8 rfl ?_
    refine gM_tape rfl dX12_isDigit_9 ?_
    refine r_iload_n 1 dX12_isDigit_12 rfl ?_
    obtain ⟨h2, h⟩ := rq_some h
    refine lM_tape (inb_in h2) dX12_isDigit_13 ?_
    refine r_bipush (x := (48 : Int32)) dX12_isDigit_14 (by decide) ?_
    refine r_icmp_lt 34 dX12_isDigit_16 (by decide) (fun c3 => ?_) (fun c3 => ?_)
    · replace h := it_pos c3 h
      refine r_iconst (x := (0 : Int32)) dX12_isDigit_34 (by decide) ?_
      have hq := Option.some.inj h
      subst hq
      exact r_zret (ty := .boolean) rfl rfl dX12_isDigit_35
    · replace h := it_neg c3 h
      refine r_aload_n 0 dX12_isDigit_19 rfl ?_
      refine gM_tape rfl dX12_isDigit_20 ?_
      refine r_iload_n 1 dX12_isDigit_23 rfl ?_
      obtain ⟨h4, h⟩ := rq_some h
      refine lM_tape (inb_in h4) dX12_isDigit_24 ?_
      refine r_bipush (x := (57 : Int32)) dX12_isDigit_25 (by decide) ?_
      refine r_icmp_gt 34 dX12_isDigit_27 (by decide) (fun c5 => ?_) (fun c5 => ?_)
      · replace h := it_pos c5 h
        refine r_iconst (x := (0 : Int32)) dX12_isDigit_34 (by decide) ?_
        have hq := Option.some.inj h
        subst hq
        exact r_zret (ty := .boolean) rfl rfl dX12_isDigit_35
      · replace h := it_neg c5 h
        refine r_iconst (x := (1 : Int32)) dX12_isDigit_30 (by decide) ?_
        refine r_goto 35 dX12_isDigit_31 (by decide) ?_
        have hq := Option.some.inj h
        subst hq
        exact r_zret (ty := .boolean) rfl rfl dX12_isDigit_35
theorem dX12_isLetter_0 : decode cX12_isLetter 0 = .ok (.iload_n 1, 1) := by decide +kernel
theorem dX12_isLetter_1 : decode cX12_isLetter 1 = .ok (.aload_n 0, 1) := by decide +kernel
theorem dX12_isLetter_2 : decode cX12_isLetter 2 = .ok (.getfield 86, 3) := by decide +kernel
theorem dX12_isLetter_5 : decode cX12_isLetter 5 = .ok (.if_icmp .ge 29, 3) := by decide +kernel
theorem dX12_isLetter_8 : decode cX12_isLetter 8 = .ok (.aload_n 0, 1) := by decide +kernel
theorem dX12_isLetter_9 : decode cX12_isLetter 9 = .ok (.getfield 7, 3) := by decide +kernel
theorem dX12_isLetter_12 : decode cX12_isLetter 12 = .ok (.iload_n 1, 1) := by decide +kernel
theorem dX12_isLetter_13 : decode cX12_isLetter 13 = .ok (.baload, 1) := by decide +kernel
theorem dX12_isLetter_14 : decode cX12_isLetter 14 = .ok (.bipush 97, 2) := by decide +kernel
theorem dX12_isLetter_16 : decode cX12_isLetter 16 = .ok (.if_icmp .lt 18, 3) := by decide +kernel
theorem dX12_isLetter_19 : decode cX12_isLetter 19 = .ok (.aload_n 0, 1) := by decide +kernel
theorem dX12_isLetter_20 : decode cX12_isLetter 20 = .ok (.getfield 7, 3) := by decide +kernel
theorem dX12_isLetter_23 : decode cX12_isLetter 23 = .ok (.iload_n 1, 1) := by decide +kernel
theorem dX12_isLetter_24 : decode cX12_isLetter 24 = .ok (.baload, 1) := by decide +kernel
theorem dX12_isLetter_25 : decode cX12_isLetter 25 = .ok (.bipush 122, 2) := by decide +kernel
theorem dX12_isLetter_27 : decode cX12_isLetter 27 = .ok (.if_icmp .gt 7, 3) := by decide +kernel
theorem dX12_isLetter_30 : decode cX12_isLetter 30 = .ok (.iconst 1, 1) := by decide +kernel
theorem dX12_isLetter_31 : decode cX12_isLetter 31 = .ok (.goto 4, 3) := by decide +kernel
theorem dX12_isLetter_34 : decode cX12_isLetter 34 = .ok (.iconst 0, 1) := by decide +kernel
theorem dX12_isLetter_35 : decode cX12_isLetter 35 = .ok (.ireturn, 1) := by decide +kernel
abbrev Mm_isLetter : rx_M := (RX12, yX12_isLetter, cX12_isLetter, 2, (some .boolean), 1)
theorem km_isLetter : rKv Mm_isLetter 1 := ⟨tb_in (i := 18) (j := 2) rfl rfl, tb_in (i := 18) (j := 3) rfl rfl, tb_in (i := 17) (j := 21) rfl rfl, tb_in (i := 17) (j := 28) rfl rfl, ⟨by decide, by decide, by decide +kernel⟩, by decide⟩
def m_isLetter (x1 : Int32) (z_tape : Nat → Int32) (z_taped : Int32) : Option (Int32) := (if z_taped ≤ x1 then some ((0 : Int32)) else rq (inb x1 400) ((if (z_tape x1.toNatClampNeg) < (97 : Int32) then some ((0 : Int32)) else rq (inb x1 400) ((if (122 : Int32) < (z_tape x1.toNatClampNeg) then some ((0 : Int32)) else some ((1 : Int32)))))))
set_option maxRecDepth 20000 in
theorem cm_isLetter {q : Int32} {x1 : Int32} (h : m_isLetter x1 z_tape z_taped = some q) : rMet l D Z (ty7 K) Mm_isLetter [.ref (ad 0), .int x1] (wM K ad z_tape z_taped z_rules z_sign z_length z_clause z_clauses z_read z_next z_wrong z_number z_text z_made z_deep z_lines z_open z_opened z_stack z_top z_word z_said z_force z_x z_absent z_isRaining z_wasSaid z_undone z_kept z_order z_bestOrder z_hasBy z_wealthThen z_isFit z_tillThen z_drawX z_images z_imageForce z_imageX z_isMade) (wM K ad z_tape z_taped z_rules z_sign z_length z_clause z_clauses z_read z_next z_wrong z_number z_text z_made z_deep z_lines z_open z_opened z_stack z_top z_word z_said z_force z_x z_absent z_isRaining z_wasSaid z_undone z_kept z_order z_bestOrder z_hasBy z_wealthThen z_isFit z_tillThen z_drawX z_images z_imageForce z_imageX z_isMade) (some (.int q)) := by
  refine rMet.of (by decide) rfl (Nat.le_of_ble_eq_true rfl) ?_
  refine r_sub (lv' := [(0, .ref (ad 0)), (1, .int x1)]) [0, 1] rfl ?_
  unfold m_isLetter at h
  refine r_iload_n 1 dX12_isLetter_0 rfl ?_
  refine r_aload_n 0 dX12_isLetter_1 rfl ?_
  refine gM_taped rfl dX12_isLetter_2 ?_
  refine r_icmp_ge 34 dX12_isLetter_5 (by decide) (fun c1 => ?_) (fun c1 => ?_)
  · replace h := it_pos c1 h
    refine r_iconst (x := (0 : Int32)) dX12_isLetter_34 (by decide) ?_
    have hq := Option.some.inj h
    subst hq
    exact r_zret (ty := .boolean) rfl rfl dX12_isLetter_35
  · replace h := it_neg c1 h
    refine r_aload_n 0 dX12_isLetter_8 rfl ?_
    refine gM_tape rfl dX12_isLetter_9 ?_
    refine r_iload_n 1 dX12_isLetter_12 rfl ?_
    obtain ⟨h2, h⟩ := rq_some h
    refine lM_tape (inb_in h2) dX12_isLetter_13 ?_
    refine r_bipush (x := (97 : Int32)) dX12_isLetter_14 (by decide) ?_
    refine r_icmp_lt 34 dX12_isLetter_16 (by decide) (fun c3 => ?_) (fun c3 => ?_)
    · replace h := it_pos c3 h
      refine r_iconst (x := (0 : Int32)) dX12_isLetter_34 (by decide) ?_
      have hq := Option.some.inj h
      subst hq
      exact r_zret (ty := .boolean) rfl rfl dX12_isLetter_35
    · replace h := it_neg c3 h
      refine r_aload_n 0 dX12_isLetter_19 rfl ?_
      refine gM_tape rfl dX12_isLetter_20 ?_
      refine r_iload_n 1 dX12_isLetter_23 rfl ?_
      obtain ⟨h4, h⟩ := rq_some h
      refine lM_tape (inb_in h4) dX12_isLetter_24 ?_
      refine r_bipush (x := (122 : Int32)) dX12_isLetter_25 (by decide) ?_
      refine r_icmp_gt 34 dX12_isLetter_27 (by decide) (fun c5 => ?_) (fun c5 => ?_)
      · replace h := it_pos c5 h
        refine r_iconst (x := (0 : Int32)) dX12_isLetter_34 (by decide) ?_
        have hq := Option.some.inj h
        subst hq
        exact r_zret (ty := .boolean) rfl rfl dX12_isLetter_35
      · replace h := it_neg c5 h
        refine r_iconst (x := (1 : Int32)) dX12_isLetter_30 (by decide) ?_
        refine r_goto 35 dX12_isLetter_31 (by decide) ?_
        have hq := Option.some.inj h
        subst hq
        exact r_zret (ty := .boolean) rfl rfl dX12_isLetter_35
theorem dX12_isWord_0 : decode cX12_isWord 0 = .ok (.aload_n 0, 1) := by decide +kernel
theorem dX12_isWord_1 : decode cX12_isWord 1 = .ok (.invokevirtual 99, 3) := by decide +kernel
theorem dX12_isWord_4 : decode cX12_isWord 4 = .ok (.pop, 1) := by decide +kernel
theorem dX12_isWord_5 : decode cX12_isWord 5 = .ok (.lconst 0, 1) := by decide +kernel
theorem dX12_isWord_6 : decode cX12_isWord 6 = .ok (.lstore_n 3, 1) := by decide +kernel
theorem dX12_isWord_7 : decode cX12_isWord 7 = .ok (.iconst 0, 1) := by decide +kernel
theorem dX12_isWord_8 : decode cX12_isWord 8 = .ok (.istore 5, 2) := by decide +kernel
theorem dX12_isWord_10 : decode cX12_isWord 10 = .ok (.aload_n 0, 1) := by decide +kernel
theorem dX12_isWord_11 : decode cX12_isWord 11 = .ok (.aload_n 0, 1) := by decide +kernel
theorem dX12_isWord_12 : decode cX12_isWord 12 = .ok (.getfield 96, 3) := by decide +kernel
theorem dX12_isWord_15 : decode cX12_isWord 15 = .ok (.iload 5, 2) := by decide +kernel
theorem dX12_isWord_17 : decode cX12_isWord 17 = .ok (.iadd, 1) := by decide +kernel
theorem dX12_isWord_18 : decode cX12_isWord 18 = .ok (.invokevirtual 103, 3) := by decide +kernel
theorem dX12_isWord_21 : decode cX12_isWord 21 = .ok (.ifCond .eq 35, 3) := by decide +kernel
theorem dX12_isWord_24 : decode cX12_isWord 24 = .ok (.iload 5, 2) := by decide +kernel
theorem dX12_isWord_26 : decode cX12_isWord 26 = .ok (.bipush 8, 2) := by decide +kernel
theorem dX12_isWord_28 : decode cX12_isWord 28 = .ok (.if_icmp .ge 22, 3) := by decide +kernel
theorem dX12_isWord_31 : decode cX12_isWord 31 = .ok (.lload_n 3, 1) := by decide +kernel
theorem dX12_isWord_32 : decode cX12_isWord 32 = .ok (.bipush 8, 2) := by decide +kernel
theorem dX12_isWord_34 : decode cX12_isWord 34 = .ok (.lshl, 1) := by decide +kernel
theorem dX12_isWord_35 : decode cX12_isWord 35 = .ok (.aload_n 0, 1) := by decide +kernel
theorem dX12_isWord_36 : decode cX12_isWord 36 = .ok (.getfield 7, 3) := by decide +kernel
theorem dX12_isWord_39 : decode cX12_isWord 39 = .ok (.aload_n 0, 1) := by decide +kernel
theorem dX12_isWord_40 : decode cX12_isWord 40 = .ok (.getfield 96, 3) := by decide +kernel
theorem dX12_isWord_43 : decode cX12_isWord 43 = .ok (.iload 5, 2) := by decide +kernel
theorem dX12_isWord_45 : decode cX12_isWord 45 = .ok (.iadd, 1) := by decide +kernel
theorem dX12_isWord_46 : decode cX12_isWord 46 = .ok (.baload, 1) := by decide +kernel
theorem dX12_isWord_47 : decode cX12_isWord 47 = .ok (.i2l, 1) := by decide +kernel
theorem dX12_isWord_48 : decode cX12_isWord 48 = .ok (.lor, 1) := by decide +kernel
theorem dX12_isWord_49 : decode cX12_isWord 49 = .ok (.lstore_n 3, 1) := by decide +kernel
theorem dX12_isWord_50 : decode cX12_isWord 50 = .ok (.iinc 5 1, 3) := by decide +kernel
theorem dX12_isWord_53 : decode cX12_isWord 53 = .ok (.goto (-43), 3) := by decide +kernel
theorem dX12_isWord_56 : decode cX12_isWord 56 = .ok (.iload 5, 2) := by decide +kernel
theorem dX12_isWord_58 : decode cX12_isWord 58 = .ok (.ifCond .le 20, 3) := by decide +kernel
theorem dX12_isWord_61 : decode cX12_isWord 61 = .ok (.iload 5, 2) := by decide +kernel
theorem dX12_isWord_63 : decode cX12_isWord 63 = .ok (.bipush 8, 2) := by decide +kernel
theorem dX12_isWord_65 : decode cX12_isWord 65 = .ok (.if_icmp .ge 13, 3) := by decide +kernel
theorem dX12_isWord_68 : decode cX12_isWord 68 = .ok (.lload_n 3, 1) := by decide +kernel
theorem dX12_isWord_69 : decode cX12_isWord 69 = .ok (.lload_n 1, 1) := by decide +kernel
theorem dX12_isWord_70 : decode cX12_isWord 70 = .ok (.lcmp, 1) := by decide +kernel
theorem dX12_isWord_71 : decode cX12_isWord 71 = .ok (.ifCond .ne 7, 3) := by decide +kernel
theorem dX12_isWord_74 : decode cX12_isWord 74 = .ok (.iconst 1, 1) := by decide +kernel
theorem dX12_isWord_75 : decode cX12_isWord 75 = .ok (.goto 4, 3) := by decide +kernel
theorem dX12_isWord_78 : decode cX12_isWord 78 = .ok (.iconst 0, 1) := by decide +kernel
theorem dX12_isWord_79 : decode cX12_isWord 79 = .ok (.ireturn, 1) := by decide +kernel
abbrev Mm_isWord : rx_M := (RX12, yX12_isWord, cX12_isWord, 6, (some .boolean), 2)
theorem km_isWord : rKv Mm_isWord 1 := ⟨tb_in (i := 18) (j := 7) rfl rfl, tb_in (i := 18) (j := 8) rfl rfl, tb_in (i := 17) (j := 21) rfl rfl, tb_in (i := 17) (j := 29) rfl rfl, ⟨by decide, by decide, by decide +kernel⟩, by decide⟩
def m_isWord_l10 (z_tape : Nat → Int32) (z_taped : Int32) (z_next : Int32) (x1 : Int64) : Nat → Int64 → Int32 → Option (Int32 × Int32)
  | 0, _, _ => none
  | n + 1, x3, x5 => (m_isLetter (z_next + x5) z_tape z_taped).bind (fun q2 => (if q2 = 0 then (if x5 ≤ 0 then some ((0 : Int32), z_next) else (if (8 : Int32) ≤ x5 then some ((0 : Int32), z_next) else (if (lg_cmp x3 x1) = 0 then some ((1 : Int32), z_next) else some ((0 : Int32), z_next)))) else (if (8 : Int32) ≤ x5 then m_isWord_l10 z_tape z_taped z_next x1 n x3 (x5 + (1 : Int32)) else rq (inb (z_next + x5) 400) (lt ((x3 <<< ((8 : Int32).toInt64 &&& 63)) ||| ((z_tape (z_next + x5).toNatClampNeg).toInt64)) (fun y9 => m_isWord_l10 z_tape z_taped z_next x1 n y9 (x5 + (1 : Int32)))))))
set_option maxRecDepth 20000 in
theorem cm_isWord_l10 {q : Int32 × Int32} {x1 : Int64}  : ∀ (n : Nat) (x3 : Int64) (x5 : Int32), m_isWord_l10 z_tape z_taped z_next x1 n x3 x5 = some q → rW l D Z (ty7 K) Mm_isWord 10 [(0, .ref (ad 0)), (1, .long x1), (3, .long x3), (5, .int x5)] [] (wM K ad z_tape z_taped z_rules z_sign z_length z_clause z_clauses z_read z_next z_wrong z_number z_text z_made z_deep z_lines z_open z_opened z_stack z_top z_word z_said z_force z_x z_absent z_isRaining z_wasSaid z_undone z_kept z_order z_bestOrder z_hasBy z_wealthThen z_isFit z_tillThen z_drawX z_images z_imageForce z_imageX z_isMade) (wM K ad z_tape z_taped z_rules z_sign z_length z_clause z_clauses z_read q.2 z_wrong z_number z_text z_made z_deep z_lines z_open z_opened z_stack z_top z_word z_said z_force z_x z_absent z_isRaining z_wasSaid z_undone z_kept z_order z_bestOrder z_hasBy z_wealthThen z_isFit z_tillThen z_drawX z_images z_imageForce z_imageX z_isMade) (some (.int q.1)) := by
  intro n
  induction n with
  | zero => intro x3 x5 h; unfold m_isWord_l10 at h; cases h
  | succ n ih =>
    intro x3 x5 h
    unfold m_isWord_l10 at h
    refine r_aload_n 0 dX12_isWord_10 rfl ?_
    refine r_aload_n 0 dX12_isWord_11 rfl ?_
    refine gM_next rfl dX12_isWord_12 ?_
    refine r_iload 3 dX12_isWord_15 rfl ?_
    refine r_iadd dX12_isWord_17 ?_
    obtain ⟨q2, h2, h⟩ := bd_some h
    refine cvM (st := []) (cm_isLetter h2) rfl rfl (Nat.le_of_ble_eq_true rfl) km_isLetter (tb_in (i := 18) (j := 1) rfl rfl) (by decide) rfl dX12_isWord_18 ?_
    refine r_if_eq 56 dX12_isWord_21 (by decide) (fun c3 => ?_) (fun c3 => ?_)
    · replace h := it_pos c3 h
      refine r_iload 3 dX12_isWord_56 rfl ?_
      refine r_if_le 78 dX12_isWord_58 (by decide) (fun c4 => ?_) (fun c4 => ?_)
      · replace h := it_pos c4 h
        refine r_iconst (x := (0 : Int32)) dX12_isWord_78 (by decide) ?_
        have hq := Option.some.inj h
        subst hq
        exact r_zret (ty := .boolean) rfl rfl dX12_isWord_79
      · replace h := it_neg c4 h
        refine r_iload 3 dX12_isWord_61 rfl ?_
        refine r_bipush (x := (8 : Int32)) dX12_isWord_63 (by decide) ?_
        refine r_icmp_ge 78 dX12_isWord_65 (by decide) (fun c5 => ?_) (fun c5 => ?_)
        · replace h := it_pos c5 h
          refine r_iconst (x := (0 : Int32)) dX12_isWord_78 (by decide) ?_
          have hq := Option.some.inj h
          subst hq
          exact r_zret (ty := .boolean) rfl rfl dX12_isWord_79
        · replace h := it_neg c5 h
          refine r_lload_n 2 dX12_isWord_68 rfl ?_
          refine r_lload_n 1 dX12_isWord_69 rfl ?_
          refine r_lcmp dX12_isWord_70 ?_
          refine r_if_ne 78 dX12_isWord_71 (by decide) (fun c6 => ?_) (fun c6 => ?_)
          · replace h := it_neg c6 h
            refine r_iconst (x := (0 : Int32)) dX12_isWord_78 (by decide) ?_
            have hq := Option.some.inj h
            subst hq
            exact r_zret (ty := .boolean) rfl rfl dX12_isWord_79
          · replace h := it_pos c6 h
            refine r_iconst (x := (1 : Int32)) dX12_isWord_74 (by decide) ?_
            refine r_goto 79 dX12_isWord_75 (by decide) ?_
            have hq := Option.some.inj h
            subst hq
            exact r_zret (ty := .boolean) rfl rfl dX12_isWord_79
    · replace h := it_neg c3 h
      refine r_iload 3 dX12_isWord_24 rfl ?_
      refine r_bipush (x := (8 : Int32)) dX12_isWord_26 (by decide) ?_
      refine r_icmp_ge 50 dX12_isWord_28 (by decide) (fun c7 => ?_) (fun c7 => ?_)
      · replace h := it_pos c7 h
        refine r_iinc (y := (x5 + (1 : Int32))) (lv' := [(5, .int (x5 + (1 : Int32))), (0, .ref (ad 0)), (1, .long x1), (3, .long x3)]) 3 dX12_isWord_50 rfl rfl (by decide) rfl ?_
        refine r_goto 10 dX12_isWord_53 (by decide) ?_
        refine r_sub (lv' := [(0, .ref (ad 0)), (1, .long x1), (3, .long x3), (5, .int (x5 + (1 : Int32)))]) [1, 2, 3, 0] rfl ?_
        exact ih _ _ h
      · replace h := it_neg c7 h
        refine r_lload_n 2 dX12_isWord_31 rfl ?_
        refine r_bipush (x := (8 : Int32)) dX12_isWord_32 (by decide) ?_
        refine r_lshl dX12_isWord_34 ?_
        refine r_aload_n 0 dX12_isWord_35 rfl ?_
        refine gM_tape rfl dX12_isWord_36 ?_
        refine r_aload_n 0 dX12_isWord_39 rfl ?_
        refine gM_next rfl dX12_isWord_40 ?_
        refine r_iload 3 dX12_isWord_43 rfl ?_
        refine r_iadd dX12_isWord_45 ?_
        obtain ⟨h8, h⟩ := rq_some h
        refine lM_tape (inb_in h8) dX12_isWord_46 ?_
        refine r_i2l dX12_isWord_47 ?_
        refine r_lor dX12_isWord_48 ?_
        obtain ⟨y9, e9, h⟩ := lt_some h
        refine r_topl e9 ?_
        refine r_lstore_n (lv' := [(3, .long y9), (0, .ref (ad 0)), (1, .long x1), (5, .int x5)]) dX12_isWord_49 (by decide) rfl ?_
        refine r_iinc (y := (x5 + (1 : Int32))) (lv' := [(5, .int (x5 + (1 : Int32))), (3, .long y9), (0, .ref (ad 0)), (1, .long x1)]) 3 dX12_isWord_50 rfl rfl (by decide) rfl ?_
        refine r_goto 10 dX12_isWord_53 (by decide) ?_
        refine r_sub (lv' := [(0, .ref (ad 0)), (1, .long x1), (3, .long y9), (5, .int (x5 + (1 : Int32)))]) [2, 3, 1, 0] rfl ?_
        exact ih _ _ h
def m_isWord (x1 : Int64) (z_tape : Nat → Int32) (z_taped : Int32) (z_next : Int32) : Option (Int32 × Int32) := (m_see z_tape z_taped z_next).bind (fun q1 => m_isWord_l10 z_tape z_taped q1.2 x1 FU (0 : Int64) (0 : Int32))
set_option maxRecDepth 20000 in
theorem cm_isWord {q : Int32 × Int32} {x1 : Int64} (h : m_isWord x1 z_tape z_taped z_next = some q) : rMet l D Z (ty7 K) Mm_isWord [.ref (ad 0), .long x1] (wM K ad z_tape z_taped z_rules z_sign z_length z_clause z_clauses z_read z_next z_wrong z_number z_text z_made z_deep z_lines z_open z_opened z_stack z_top z_word z_said z_force z_x z_absent z_isRaining z_wasSaid z_undone z_kept z_order z_bestOrder z_hasBy z_wealthThen z_isFit z_tillThen z_drawX z_images z_imageForce z_imageX z_isMade) (wM K ad z_tape z_taped z_rules z_sign z_length z_clause z_clauses z_read q.2 z_wrong z_number z_text z_made z_deep z_lines z_open z_opened z_stack z_top z_word z_said z_force z_x z_absent z_isRaining z_wasSaid z_undone z_kept z_order z_bestOrder z_hasBy z_wealthThen z_isFit z_tillThen z_drawX z_images z_imageForce z_imageX z_isMade) (some (.int q.1)) := by
  refine rMet.of (by decide) rfl (Nat.le_of_ble_eq_true rfl) ?_
  refine r_sub (lv' := [(0, .ref (ad 0)), (1, .long x1)]) [0, 1] rfl ?_
  unfold m_isWord at h
  refine r_aload_n 0 dX12_isWord_0 rfl ?_
  obtain ⟨q1, h1, h⟩ := bd_some h
  refine cvM (st := []) (cm_see h1) rfl rfl (Nat.le_of_ble_eq_true rfl) km_see (tb_in (i := 17) (j := 30) rfl rfl) (by decide) rfl dX12_isWord_1 ?_
  refine r_pop dX12_isWord_4 rfl ?_
  refine r_lconst (x := (0 : Int64)) dX12_isWord_5 (by decide) ?_
  refine r_lstore_n (lv' := [(3, .long (0 : Int64)), (0, .ref (ad 0)), (1, .long x1)]) dX12_isWord_6 (by decide) rfl ?_
  refine r_iconst (x := (0 : Int32)) dX12_isWord_7 (by decide) ?_
  refine r_istore (lv' := [(5, .int (0 : Int32)), (3, .long (0 : Int64)), (0, .ref (ad 0)), (1, .long x1)]) dX12_isWord_8 (by decide) rfl ?_
  refine r_sub (lv' := [(0, .ref (ad 0)), (1, .long x1), (3, .long (0 : Int64)), (5, .int (0 : Int32))]) [2, 3, 1, 0] rfl ?_
  exact cm_isWord_l10  FU _ _ h
theorem dX12_passWord_0 : decode cX12_passWord 0 = .ok (.aload_n 0, 1) := by decide +kernel
theorem dX12_passWord_1 : decode cX12_passWord 1 = .ok (.aload_n 0, 1) := by decide +kernel
theorem dX12_passWord_2 : decode cX12_passWord 2 = .ok (.getfield 96, 3) := by decide +kernel
theorem dX12_passWord_5 : decode cX12_passWord 5 = .ok (.invokevirtual 103, 3) := by decide +kernel
theorem dX12_passWord_8 : decode cX12_passWord 8 = .ok (.ifCond .eq 16, 3) := by decide +kernel
theorem dX12_passWord_11 : decode cX12_passWord 11 = .ok (.aload_n 0, 1) := by decide +kernel
theorem dX12_passWord_12 : decode cX12_passWord 12 = .ok (.dup, 1) := by decide +kernel
theorem dX12_passWord_13 : decode cX12_passWord 13 = .ok (.getfield 96, 3) := by decide +kernel
theorem dX12_passWord_16 : decode cX12_passWord 16 = .ok (.iconst 1, 1) := by decide +kernel
theorem dX12_passWord_17 : decode cX12_passWord 17 = .ok (.iadd, 1) := by decide +kernel
theorem dX12_passWord_18 : decode cX12_passWord 18 = .ok (.putfield 96, 3) := by decide +kernel
theorem dX12_passWord_21 : decode cX12_passWord 21 = .ok (.goto (-21), 3) := by decide +kernel
theorem dX12_passWord_24 : decode cX12_passWord 24 = .ok (.return_, 1) := by decide +kernel
abbrev Mm_passWord : rx_M := (RX12, yX12_passWord, cX12_passWord, 1, none, 2)
theorem km_passWord : rKv Mm_passWord 0 := ⟨tb_in (i := 18) (j := 10) rfl rfl, tb_in (i := 18) (j := 11) rfl rfl, tb_in (i := 17) (j := 21) rfl rfl, tb_in (i := 18) (j := 4) rfl rfl, ⟨by decide, by decide, by decide +kernel⟩, by decide⟩
def m_passWord_l0 (z_tape : Nat → Int32) (z_taped : Int32) : Nat → Int32 → Option (Int32)
  | 0, _ => none
  | n + 1, z_next => (m_isLetter z_next z_tape z_taped).bind (fun q1 => (if q1 = 0 then some (z_next) else lt (z_next + (1 : Int32)) (fun y3 => m_passWord_l0 z_tape z_taped n y3)))
set_option maxRecDepth 20000 in
theorem cm_passWord_l0 {q : Int32}   : ∀ (n : Nat) (z_next : Int32), m_passWord_l0 z_tape z_taped n z_next = some q → rW l D Z (ty7 K) Mm_passWord 0 [(0, .ref (ad 0))] [] (wM K ad z_tape z_taped z_rules z_sign z_length z_clause z_clauses z_read z_next z_wrong z_number z_text z_made z_deep z_lines z_open z_opened z_stack z_top z_word z_said z_force z_x z_absent z_isRaining z_wasSaid z_undone z_kept z_order z_bestOrder z_hasBy z_wealthThen z_isFit z_tillThen z_drawX z_images z_imageForce z_imageX z_isMade) (wM K ad z_tape z_taped z_rules z_sign z_length z_clause z_clauses z_read q z_wrong z_number z_text z_made z_deep z_lines z_open z_opened z_stack z_top z_word z_said z_force z_x z_absent z_isRaining z_wasSaid z_undone z_kept z_order z_bestOrder z_hasBy z_wealthThen z_isFit z_tillThen z_drawX z_images z_imageForce z_imageX z_isMade) none := by
  intro n
  induction n with
  | zero => intro z_next h; unfold m_passWord_l0 at h; cases h
  | succ n ih =>
    intro z_next h
    unfold m_passWord_l0 at h
    refine r_aload_n 0 dX12_passWord_0 rfl ?_
    refine r_aload_n 0 dX12_passWord_1 rfl ?_
    refine gM_next rfl dX12_passWord_2 ?_
    obtain ⟨q1, h1, h⟩ := bd_some h
    refine cvM (st := []) (cm_isLetter h1) rfl rfl (Nat.le_of_ble_eq_true rfl) km_isLetter (tb_in (i := 18) (j := 1) rfl rfl) (by decide) rfl dX12_passWord_5 ?_
    refine r_if_eq 24 dX12_passWord_8 (by decide) (fun c2 => ?_) (fun c2 => ?_)
    · replace h := it_pos c2 h
      have hq := Option.some.inj h
      subst hq
      exact r_vret rfl dX12_passWord_24
    · replace h := it_neg c2 h
      refine r_aload_n 0 dX12_passWord_11 rfl ?_
      refine r_dup dX12_passWord_12 rfl ?_
      refine gM_next rfl dX12_passWord_13 ?_
      refine r_iconst (x := (1 : Int32)) dX12_passWord_16 (by decide) ?_
      refine r_iadd dX12_passWord_17 ?_
      obtain ⟨y3, e3, h⟩ := lt_some h
      refine r_top e3 ?_
      refine pM_next rfl dX12_passWord_18 ?_
      refine r_goto 0 dX12_passWord_21 (by decide) ?_
      exact ih _ h
def m_passWord (z_tape : Nat → Int32) (z_taped : Int32) (z_next : Int32) : Option (Int32) := m_passWord_l0 z_tape z_taped FU z_next
set_option maxRecDepth 20000 in
theorem cm_passWord {q : Int32}  (h : m_passWord z_tape z_taped z_next = some q) : rMet l D Z (ty7 K) Mm_passWord [.ref (ad 0)] (wM K ad z_tape z_taped z_rules z_sign z_length z_clause z_clauses z_read z_next z_wrong z_number z_text z_made z_deep z_lines z_open z_opened z_stack z_top z_word z_said z_force z_x z_absent z_isRaining z_wasSaid z_undone z_kept z_order z_bestOrder z_hasBy z_wealthThen z_isFit z_tillThen z_drawX z_images z_imageForce z_imageX z_isMade) (wM K ad z_tape z_taped z_rules z_sign z_length z_clause z_clauses z_read q z_wrong z_number z_text z_made z_deep z_lines z_open z_opened z_stack z_top z_word z_said z_force z_x z_absent z_isRaining z_wasSaid z_undone z_kept z_order z_bestOrder z_hasBy z_wealthThen z_isFit z_tillThen z_drawX z_images z_imageForce z_imageX z_isMade) none := by
  refine rMet.of (by decide) rfl (Nat.le_of_ble_eq_true rfl) ?_
  refine r_sub (lv' := [(0, .ref (ad 0))]) [0] rfl ?_
  unfold m_passWord at h
  exact cm_passWord_l0  FU _ h
theorem dX12_takesWord_0 : decode cX12_takesWord 0 = .ok (.aload_n 0, 1) := by decide +kernel
theorem dX12_takesWord_1 : decode cX12_takesWord 1 = .ok (.lload_n 1, 1) := by decide +kernel
theorem dX12_takesWord_2 : decode cX12_takesWord 2 = .ok (.invokevirtual 107, 3) := by decide +kernel
theorem dX12_takesWord_5 : decode cX12_takesWord 5 = .ok (.ifCond .ne 5, 3) := by decide +kernel
theorem dX12_takesWord_8 : decode cX12_takesWord 8 = .ok (.iconst 0, 1) := by decide +kernel
theorem dX12_takesWord_9 : decode cX12_takesWord 9 = .ok (.ireturn, 1) := by decide +kernel
theorem dX12_takesWord_10 : decode cX12_takesWord 10 = .ok (.aload_n 0, 1) := by decide +kernel
theorem dX12_takesWord_11 : decode cX12_takesWord 11 = .ok (.invokevirtual 111, 3) := by decide +kernel
theorem dX12_takesWord_14 : decode cX12_takesWord 14 = .ok (.iconst 1, 1) := by decide +kernel
theorem dX12_takesWord_15 : decode cX12_takesWord 15 = .ok (.ireturn, 1) := by decide +kernel
abbrev Mm_takesWord : rx_M := (RX12, yX12_takesWord, cX12_takesWord, 3, (some .boolean), 3)
theorem km_takesWord : rKv Mm_takesWord 1 := ⟨tb_in (i := 21) (j := 3) rfl rfl, tb_in (i := 21) (j := 4) rfl rfl, tb_in (i := 17) (j := 21) rfl rfl, tb_in (i := 18) (j := 5) rfl rfl, ⟨by decide, by decide, by decide +kernel⟩, by decide⟩
def m_takesWord (x1 : Int64) (z_tape : Nat → Int32) (z_taped : Int32) (z_next : Int32) : Option (Int32 × Int32) := (m_isWord x1 z_tape z_taped z_next).bind (fun q1 => (if q1.1 = 0 then some ((0 : Int32), q1.2) else (m_passWord z_tape z_taped q1.2).bind (fun q3 => some ((1 : Int32), q3))))
set_option maxRecDepth 20000 in
theorem cm_takesWord {q : Int32 × Int32} {x1 : Int64} (h : m_takesWord x1 z_tape z_taped z_next = some q) : rMet l D Z (ty7 K) Mm_takesWord [.ref (ad 0), .long x1] (wM K ad z_tape z_taped z_rules z_sign z_length z_clause z_clauses z_read z_next z_wrong z_number z_text z_made z_deep z_lines z_open z_opened z_stack z_top z_word z_said z_force z_x z_absent z_isRaining z_wasSaid z_undone z_kept z_order z_bestOrder z_hasBy z_wealthThen z_isFit z_tillThen z_drawX z_images z_imageForce z_imageX z_isMade) (wM K ad z_tape z_taped z_rules z_sign z_length z_clause z_clauses z_read q.2 z_wrong z_number z_text z_made z_deep z_lines z_open z_opened z_stack z_top z_word z_said z_force z_x z_absent z_isRaining z_wasSaid z_undone z_kept z_order z_bestOrder z_hasBy z_wealthThen z_isFit z_tillThen z_drawX z_images z_imageForce z_imageX z_isMade) (some (.int q.1)) := by
  refine rMet.of (by decide) rfl (Nat.le_of_ble_eq_true rfl) ?_
  refine r_sub (lv' := [(0, .ref (ad 0)), (1, .long x1)]) [0, 1] rfl ?_
  unfold m_takesWord at h
  refine r_aload_n 0 dX12_takesWord_0 rfl ?_
  refine r_lload_n 1 dX12_takesWord_1 rfl ?_
  obtain ⟨q1, h1, h⟩ := bd_some h
  refine cvM (st := []) (cm_isWord h1) rfl rfl (Nat.le_of_ble_eq_true rfl) km_isWord (tb_in (i := 18) (j := 6) rfl rfl) (by decide) rfl dX12_takesWord_2 ?_
  refine r_if_ne 10 dX12_takesWord_5 (by decide) (fun c2 => ?_) (fun c2 => ?_)
  · replace h := it_neg c2 h
    refine r_aload_n 0 dX12_takesWord_10 rfl ?_
    obtain ⟨q3, h3, h⟩ := bd_some h
    refine cvM (st := []) (cm_passWord h3) rfl rfl (Nat.le_of_ble_eq_true rfl) km_passWord (tb_in (i := 18) (j := 9) rfl rfl) (by decide) rfl dX12_takesWord_11 ?_
    refine r_iconst (x := (1 : Int32)) dX12_takesWord_14 (by decide) ?_
    have hq := Option.some.inj h
    subst hq
    exact r_zret (ty := .boolean) rfl rfl dX12_takesWord_15
  · replace h := it_pos c2 h
    refine r_iconst (x := (0 : Int32)) dX12_takesWord_8 (by decide) ?_
    have hq := Option.some.inj h
    subst hq
    exact r_zret (ty := .boolean) rfl rfl dX12_takesWord_9
theorem dX12_numberHere_0 : decode cX12_numberHere 0 = .ok (.aload_n 0, 1) := by decide +kernel
theorem dX12_numberHere_1 : decode cX12_numberHere 1 = .ok (.invokevirtual 99, 3) := by decide +kernel
theorem dX12_numberHere_4 : decode cX12_numberHere 4 = .ok (.pop, 1) := by decide +kernel
theorem dX12_numberHere_5 : decode cX12_numberHere 5 = .ok (.aload_n 0, 1) := by decide +kernel
theorem dX12_numberHere_6 : decode cX12_numberHere 6 = .ok (.aload_n 0, 1) := by decide +kernel
theorem dX12_numberHere_7 : decode cX12_numberHere 7 = .ok (.getfield 96, 3) := by decide +kernel
theorem dX12_numberHere_10 : decode cX12_numberHere 10 = .ok (.invokevirtual 114, 3) := by decide +kernel
theorem dX12_numberHere_13 : decode cX12_numberHere 13 = .ok (.ifCond .ne 13, 3) := by decide +kernel
theorem dX12_numberHere_16 : decode cX12_numberHere 16 = .ok (.aload_n 0, 1) := by decide +kernel
theorem dX12_numberHere_17 : decode cX12_numberHere 17 = .ok (.iconst 0, 1) := by decide +kernel
theorem dX12_numberHere_18 : decode cX12_numberHere 18 = .ok (.aload_n 0, 1) := by decide +kernel
theorem dX12_numberHere_19 : decode cX12_numberHere 19 = .ok (.getfield 96, 3) := by decide +kernel
theorem dX12_numberHere_22 : decode cX12_numberHere 22 = .ok (.invokevirtual 117, 3) := by decide +kernel
theorem dX12_numberHere_25 : decode cX12_numberHere 25 = .ok (.ireturn, 1) := by decide +kernel
theorem dX12_numberHere_26 : decode cX12_numberHere 26 = .ok (.aload_n 0, 1) := by decide +kernel
theorem dX12_numberHere_27 : decode cX12_numberHere 27 = .ok (.getfield 96, 3) := by decide +kernel
theorem dX12_numberHere_30 : decode cX12_numberHere 30 = .ok (.istore_n 3, 1) := by decide +kernel
theorem dX12_numberHere_31 : decode cX12_numberHere 31 = .ok (.iconst 0, 1) := by decide +kernel
theorem dX12_numberHere_32 : decode cX12_numberHere 32 = .ok (.istore 4, 2) := by decide +kernel
theorem dX12_numberHere_34 : decode cX12_numberHere 34 = .ok (.aload_n 0, 1) := by decide +kernel
theorem dX12_numberHere_35 : decode cX12_numberHere 35 = .ok (.aload_n 0, 1) := by decide +kernel
theorem dX12_numberHere_36 : decode cX12_numberHere 36 = .ok (.getfield 96, 3) := by decide +kernel
theorem dX12_numberHere_39 : decode cX12_numberHere 39 = .ok (.invokevirtual 114, 3) := by decide +kernel
theorem dX12_numberHere_42 : decode cX12_numberHere 42 = .ok (.ifCond .eq 46, 3) := by decide +kernel
theorem dX12_numberHere_45 : decode cX12_numberHere 45 = .ok (.aload_n 0, 1) := by decide +kernel
theorem dX12_numberHere_46 : decode cX12_numberHere 46 = .ok (.getfield 96, 3) := by decide +kernel
theorem dX12_numberHere_49 : decode cX12_numberHere 49 = .ok (.iload_n 3, 1) := by decide +kernel
theorem dX12_numberHere_50 : decode cX12_numberHere 50 = .ok (.isub, 1) := by decide +kernel
theorem dX12_numberHere_51 : decode cX12_numberHere 51 = .ok (.iconst 5, 1) := by decide +kernel
theorem dX12_numberHere_52 : decode cX12_numberHere 52 = .ok (.if_icmp .ge 23, 3) := by decide +kernel
theorem dX12_numberHere_55 : decode cX12_numberHere 55 = .ok (.bipush 10, 2) := by decide +kernel
theorem dX12_numberHere_57 : decode cX12_numberHere 57 = .ok (.iload 4, 2) := by decide +kernel
theorem dX12_numberHere_59 : decode cX12_numberHere 59 = .ok (.imul, 1) := by decide +kernel
theorem dX12_numberHere_60 : decode cX12_numberHere 60 = .ok (.aload_n 0, 1) := by decide +kernel
theorem dX12_numberHere_61 : decode cX12_numberHere 61 = .ok (.getfield 7, 3) := by decide +kernel
theorem dX12_numberHere_64 : decode cX12_numberHere 64 = .ok (.aload_n 0, 1) := by decide +kernel
theorem dX12_numberHere_65 : decode cX12_numberHere 65 = .ok (.getfield 96, 3) := by decide +kernel
theorem dX12_numberHere_68 : decode cX12_numberHere 68 = .ok (.baload, 1) := by decide +kernel
theorem dX12_numberHere_69 : decode cX12_numberHere 69 = .ok (.iadd, 1) := by decide +kernel
theorem dX12_numberHere_70 : decode cX12_numberHere 70 = .ok (.bipush 48, 2) := by decide +kernel
theorem dX12_numberHere_72 : decode cX12_numberHere 72 = .ok (.isub, 1) := by decide +kernel
theorem dX12_numberHere_73 : decode cX12_numberHere 73 = .ok (.istore 4, 2) := by decide +kernel
theorem dX12_numberHere_75 : decode cX12_numberHere 75 = .ok (.aload_n 0, 1) := by decide +kernel
theorem dX12_numberHere_76 : decode cX12_numberHere 76 = .ok (.dup, 1) := by decide +kernel
theorem dX12_numberHere_77 : decode cX12_numberHere 77 = .ok (.getfield 96, 3) := by decide +kernel
theorem dX12_numberHere_80 : decode cX12_numberHere 80 = .ok (.iconst 1, 1) := by decide +kernel
theorem dX12_numberHere_81 : decode cX12_numberHere 81 = .ok (.iadd, 1) := by decide +kernel
theorem dX12_numberHere_82 : decode cX12_numberHere 82 = .ok (.putfield 96, 3) := by decide +kernel
theorem dX12_numberHere_85 : decode cX12_numberHere 85 = .ok (.goto (-51), 3) := by decide +kernel
theorem dX12_numberHere_88 : decode cX12_numberHere 88 = .ok (.aload_n 0, 1) := by decide +kernel
theorem dX12_numberHere_89 : decode cX12_numberHere 89 = .ok (.iload 4, 2) := by decide +kernel
theorem dX12_numberHere_91 : decode cX12_numberHere 91 = .ok (.putfield 121, 3) := by decide +kernel
theorem dX12_numberHere_94 : decode cX12_numberHere 94 = .ok (.aload_n 0, 1) := by decide +kernel
theorem dX12_numberHere_95 : decode cX12_numberHere 95 = .ok (.getfield 96, 3) := by decide +kernel
theorem dX12_numberHere_98 : decode cX12_numberHere 98 = .ok (.iload_n 3, 1) := by decide +kernel
theorem dX12_numberHere_99 : decode cX12_numberHere 99 = .ok (.isub, 1) := by decide +kernel
theorem dX12_numberHere_100 : decode cX12_numberHere 100 = .ok (.iconst 5, 1) := by decide +kernel
theorem dX12_numberHere_101 : decode cX12_numberHere 101 = .ok (.if_icmp .gt 16, 3) := by decide +kernel
theorem dX12_numberHere_104 : decode cX12_numberHere 104 = .ok (.iload 4, 2) := by decide +kernel
theorem dX12_numberHere_106 : decode cX12_numberHere 106 = .ok (.i2l, 1) := by decide +kernel
theorem dX12_numberHere_107 : decode cX12_numberHere 107 = .ok (.iload_n 1, 1) := by decide +kernel
theorem dX12_numberHere_108 : decode cX12_numberHere 108 = .ok (.i2l, 1) := by decide +kernel
theorem dX12_numberHere_109 : decode cX12_numberHere 109 = .ok (.iload_n 2, 1) := by decide +kernel
theorem dX12_numberHere_110 : decode cX12_numberHere 110 = .ok (.i2l, 1) := by decide +kernel
theorem dX12_numberHere_111 : decode cX12_numberHere 111 = .ok (.invokestatic 124, 3) := by decide +kernel
theorem dX12_numberHere_114 : decode cX12_numberHere 114 = .ok (.ifCond .ne 12, 3) := by decide +kernel
theorem dX12_numberHere_117 : decode cX12_numberHere 117 = .ok (.aload_n 0, 1) := by decide +kernel
theorem dX12_numberHere_118 : decode cX12_numberHere 118 = .ok (.iconst 1, 1) := by decide +kernel
theorem dX12_numberHere_119 : decode cX12_numberHere 119 = .ok (.iload_n 3, 1) := by decide +kernel
theorem dX12_numberHere_120 : decode cX12_numberHere 120 = .ok (.invokevirtual 117, 3) := by decide +kernel
theorem dX12_numberHere_123 : decode cX12_numberHere 123 = .ok (.ifCond .eq 7, 3) := by decide +kernel
theorem dX12_numberHere_126 : decode cX12_numberHere 126 = .ok (.iconst 1, 1) := by decide +kernel
theorem dX12_numberHere_127 : decode cX12_numberHere 127 = .ok (.goto 4, 3) := by decide +kernel
theorem dX12_numberHere_130 : decode cX12_numberHere 130 = .ok (.iconst 0, 1) := by decide +kernel
theorem dX12_numberHere_131 : decode cX12_numberHere 131 = .ok (.ireturn, 1) := by decide +kernel
abbrev Mm_numberHere : rx_M := (RX12, yX12_numberHere, cX12_numberHere, 5, (some .boolean), 2)
theorem km_numberHere : rKv Mm_numberHere 2 := ⟨tb_in (i := 19) (j := 19) rfl rfl, tb_in (i := 19) (j := 20) rfl rfl, tb_in (i := 17) (j := 21) rfl rfl, tb_in (i := 18) (j := 12) rfl rfl, ⟨by decide, by decide, by decide +kernel⟩, by decide⟩
def m_numberHere_l34 (z_tape : Nat → Int32) (z_taped : Int32) (z_wrong : Int32) (z_number : Int32) (x1 : Int32) (x2 : Int32) (x3 : Int32) : Nat → Int32 → Int32 → Option (Int32 × Int32 × Int32 × Int32)
  | 0, _, _ => none
  | n + 1, x4, z_next => (m_isDigit z_next z_tape z_taped).bind (fun q4 => (if q4 = 0 then (if (5 : Int32) < (z_next - x3) then (m_fails (1 : Int32) x3 z_wrong).bind (fun q7 => (if q7.1 = 0 then some ((0 : Int32), z_next, q7.2, x4) else some ((1 : Int32), z_next, q7.2, x4))) else (m_in (x4.toInt64) (x1.toInt64) (x2.toInt64)).bind (fun q9 => (if q9 = 0 then (m_fails (1 : Int32) x3 z_wrong).bind (fun q11 => (if q11.1 = 0 then some ((0 : Int32), z_next, q11.2, x4) else some ((1 : Int32), z_next, q11.2, x4))) else some ((1 : Int32), z_next, z_wrong, x4)))) else (if (5 : Int32) ≤ (z_next - x3) then lt (z_next + (1 : Int32)) (fun y14 => m_numberHere_l34 z_tape z_taped z_wrong z_number x1 x2 x3 n x4 y14) else rq (inb z_next 400) (lt ((((10 : Int32) * x4) + (z_tape z_next.toNatClampNeg)) - (48 : Int32)) (fun y16 => lt (z_next + (1 : Int32)) (fun y17 => m_numberHere_l34 z_tape z_taped z_wrong z_number x1 x2 x3 n y16 y17))))))
set_option maxRecDepth 20000 in
theorem cm_numberHere_l34 {q : Int32 × Int32 × Int32 × Int32} {x1 : Int32} {x2 : Int32} {x3 : Int32}  : ∀ (n : Nat) (x4 : Int32) (z_next : Int32), m_numberHere_l34 z_tape z_taped z_wrong z_number x1 x2 x3 n x4 z_next = some q → rW l D Z (ty7 K) Mm_numberHere 34 [(0, .ref (ad 0)), (1, .int x1), (2, .int x2), (3, .int x3), (4, .int x4)] [] (wM K ad z_tape z_taped z_rules z_sign z_length z_clause z_clauses z_read z_next z_wrong z_number z_text z_made z_deep z_lines z_open z_opened z_stack z_top z_word z_said z_force z_x z_absent z_isRaining z_wasSaid z_undone z_kept z_order z_bestOrder z_hasBy z_wealthThen z_isFit z_tillThen z_drawX z_images z_imageForce z_imageX z_isMade) (wM K ad z_tape z_taped z_rules z_sign z_length z_clause z_clauses z_read q.2.1 q.2.2.1 q.2.2.2 z_text z_made z_deep z_lines z_open z_opened z_stack z_top z_word z_said z_force z_x z_absent z_isRaining z_wasSaid z_undone z_kept z_order z_bestOrder z_hasBy z_wealthThen z_isFit z_tillThen z_drawX z_images z_imageForce z_imageX z_isMade) (some (.int q.1)) := by
  intro n
  induction n with
  | zero => intro x4 z_next h; unfold m_numberHere_l34 at h; cases h
  | succ n ih =>
    intro x4 z_next h
    unfold m_numberHere_l34 at h
    refine r_aload_n 0 dX12_numberHere_34 rfl ?_
    refine r_aload_n 0 dX12_numberHere_35 rfl ?_
    refine gM_next rfl dX12_numberHere_36 ?_
    obtain ⟨q4, h4, h⟩ := bd_some h
    refine cvM (st := []) (cm_isDigit h4) rfl rfl (Nat.le_of_ble_eq_true rfl) km_isDigit (tb_in (i := 18) (j := 14) rfl rfl) (by decide) rfl dX12_numberHere_39 ?_
    refine r_if_eq 88 dX12_numberHere_42 (by decide) (fun c5 => ?_) (fun c5 => ?_)
    · replace h := it_pos c5 h
      refine r_aload_n 0 dX12_numberHere_88 rfl ?_
      refine r_iload 4 dX12_numberHere_89 rfl ?_
      refine pM_number rfl dX12_numberHere_91 ?_
      refine r_aload_n 0 dX12_numberHere_94 rfl ?_
      refine gM_next rfl dX12_numberHere_95 ?_
      refine r_iload_n 3 dX12_numberHere_98 rfl ?_
      refine r_isub dX12_numberHere_99 ?_
      refine r_iconst (x := (5 : Int32)) dX12_numberHere_100 (by decide) ?_
      refine r_icmp_gt 117 dX12_numberHere_101 (by decide) (fun c6 => ?_) (fun c6 => ?_)
      · replace h := it_pos c6 h
        refine r_aload_n 0 dX12_numberHere_117 rfl ?_
        refine r_iconst (x := (1 : Int32)) dX12_numberHere_118 (by decide) ?_
        refine r_iload_n 3 dX12_numberHere_119 rfl ?_
        obtain ⟨q7, h7, h⟩ := bd_some h
        refine cvM (st := []) (cm_fails h7) rfl rfl (Nat.le_of_ble_eq_true rfl) km_fails (tb_in (i := 18) (j := 17) rfl rfl) (by decide) rfl dX12_numberHere_120 ?_
        refine r_if_eq 130 dX12_numberHere_123 (by decide) (fun c8 => ?_) (fun c8 => ?_)
        · replace h := it_pos c8 h
          refine r_iconst (x := (0 : Int32)) dX12_numberHere_130 (by decide) ?_
          have hq := Option.some.inj h
          subst hq
          exact r_zret (ty := .boolean) rfl rfl dX12_numberHere_131
        · replace h := it_neg c8 h
          refine r_iconst (x := (1 : Int32)) dX12_numberHere_126 (by decide) ?_
          refine r_goto 131 dX12_numberHere_127 (by decide) ?_
          have hq := Option.some.inj h
          subst hq
          exact r_zret (ty := .boolean) rfl rfl dX12_numberHere_131
      · replace h := it_neg c6 h
        refine r_iload 4 dX12_numberHere_104 rfl ?_
        refine r_i2l dX12_numberHere_106 ?_
        refine r_iload_n 1 dX12_numberHere_107 rfl ?_
        refine r_i2l dX12_numberHere_108 ?_
        refine r_iload_n 2 dX12_numberHere_109 rfl ?_
        refine r_i2l dX12_numberHere_110 ?_
        obtain ⟨q9, h9, h⟩ := bd_some h
        refine r_callS (st := []) (cm_in h9) rfl rfl (Nat.le_of_ble_eq_true rfl) km_in (tb_in (i := 18) (j := 20) rfl rfl) (by decide) dX12_numberHere_111 ?_
        refine r_if_ne 126 dX12_numberHere_114 (by decide) (fun c10 => ?_) (fun c10 => ?_)
        · replace h := it_neg c10 h
          refine r_iconst (x := (1 : Int32)) dX12_numberHere_126 (by decide) ?_
          refine r_goto 131 dX12_numberHere_127 (by decide) ?_
          have hq := Option.some.inj h
          subst hq
          exact r_zret (ty := .boolean) rfl rfl dX12_numberHere_131
        · replace h := it_pos c10 h
          refine r_aload_n 0 dX12_numberHere_117 rfl ?_
          refine r_iconst (x := (1 : Int32)) dX12_numberHere_118 (by decide) ?_
          refine r_iload_n 3 dX12_numberHere_119 rfl ?_
          obtain ⟨q11, h11, h⟩ := bd_some h
          refine cvM (st := []) (cm_fails h11) rfl rfl (Nat.le_of_ble_eq_true rfl) km_fails (tb_in (i := 18) (j := 17) rfl rfl) (by decide) rfl dX12_numberHere_120 ?_
          refine r_if_eq 130 dX12_numberHere_123 (by decide) (fun c12 => ?_) (fun c12 => ?_)
          · replace h := it_pos c12 h
            refine r_iconst (x := (0 : Int32)) dX12_numberHere_130 (by decide) ?_
            have hq := Option.some.inj h
            subst hq
            exact r_zret (ty := .boolean) rfl rfl dX12_numberHere_131
          · replace h := it_neg c12 h
            refine r_iconst (x := (1 : Int32)) dX12_numberHere_126 (by decide) ?_
            refine r_goto 131 dX12_numberHere_127 (by decide) ?_
            have hq := Option.some.inj h
            subst hq
            exact r_zret (ty := .boolean) rfl rfl dX12_numberHere_131
    · replace h := it_neg c5 h
      refine r_aload_n 0 dX12_numberHere_45 rfl ?_
      refine gM_next rfl dX12_numberHere_46 ?_
      refine r_iload_n 3 dX12_numberHere_49 rfl ?_
      refine r_isub dX12_numberHere_50 ?_
      refine r_iconst (x := (5 : Int32)) dX12_numberHere_51 (by decide) ?_
      refine r_icmp_ge 75 dX12_numberHere_52 (by decide) (fun c13 => ?_) (fun c13 => ?_)
      · replace h := it_pos c13 h
        refine r_aload_n 0 dX12_numberHere_75 rfl ?_
        refine r_dup dX12_numberHere_76 rfl ?_
        refine gM_next rfl dX12_numberHere_77 ?_
        refine r_iconst (x := (1 : Int32)) dX12_numberHere_80 (by decide) ?_
        refine r_iadd dX12_numberHere_81 ?_
        obtain ⟨y14, e14, h⟩ := lt_some h
        refine r_top e14 ?_
        refine pM_next rfl dX12_numberHere_82 ?_
        refine r_goto 34 dX12_numberHere_85 (by decide) ?_
        exact ih _ _ h
      · replace h := it_neg c13 h
        refine r_bipush (x := (10 : Int32)) dX12_numberHere_55 (by decide) ?_
        refine r_iload 4 dX12_numberHere_57 rfl ?_
        refine r_imul dX12_numberHere_59 ?_
        refine r_aload_n 0 dX12_numberHere_60 rfl ?_
        refine gM_tape rfl dX12_numberHere_61 ?_
        refine r_aload_n 0 dX12_numberHere_64 rfl ?_
        refine gM_next rfl dX12_numberHere_65 ?_
        obtain ⟨h15, h⟩ := rq_some h
        refine lM_tape (inb_in h15) dX12_numberHere_68 ?_
        refine r_iadd dX12_numberHere_69 ?_
        refine r_bipush (x := (48 : Int32)) dX12_numberHere_70 (by decide) ?_
        refine r_isub dX12_numberHere_72 ?_
        obtain ⟨y16, e16, h⟩ := lt_some h
        refine r_top e16 ?_
        refine r_istore (lv' := [(4, .int y16), (0, .ref (ad 0)), (1, .int x1), (2, .int x2), (3, .int x3)]) dX12_numberHere_73 (by decide) rfl ?_
        refine r_aload_n 1 dX12_numberHere_75 rfl ?_
        refine r_dup dX12_numberHere_76 rfl ?_
        refine gM_next rfl dX12_numberHere_77 ?_
        refine r_iconst (x := (1 : Int32)) dX12_numberHere_80 (by decide) ?_
        refine r_iadd dX12_numberHere_81 ?_
        obtain ⟨y17, e17, h⟩ := lt_some h
        refine r_top e17 ?_
        refine pM_next rfl dX12_numberHere_82 ?_
        refine r_goto 34 dX12_numberHere_85 (by decide) ?_
        refine r_sub (lv' := [(0, .ref (ad 0)), (1, .int x1), (2, .int x2), (3, .int x3), (4, .int y16)]) [1, 2, 3, 4, 0] rfl ?_
        exact ih _ _ h
def m_numberHere (x1 : Int32) (x2 : Int32) (z_tape : Nat → Int32) (z_taped : Int32) (z_next : Int32) (z_wrong : Int32) (z_number : Int32) : Option (Int32 × Int32 × Int32 × Int32) := (m_see z_tape z_taped z_next).bind (fun q1 => (m_isDigit q1.2 z_tape z_taped).bind (fun q2 => (if q2 = 0 then (m_fails (0 : Int32) q1.2 z_wrong).bind (fun q18 => rq (bo q18.1) (some (q18.1, q1.2, q18.2, z_number))) else m_numberHere_l34 z_tape z_taped z_wrong z_number x1 x2 q1.2 FU (0 : Int32) q1.2)))
set_option maxRecDepth 20000 in
theorem cm_numberHere {q : Int32 × Int32 × Int32 × Int32} {x1 : Int32} {x2 : Int32} (h : m_numberHere x1 x2 z_tape z_taped z_next z_wrong z_number = some q) : rMet l D Z (ty7 K) Mm_numberHere [.ref (ad 0), .int x1, .int x2] (wM K ad z_tape z_taped z_rules z_sign z_length z_clause z_clauses z_read z_next z_wrong z_number z_text z_made z_deep z_lines z_open z_opened z_stack z_top z_word z_said z_force z_x z_absent z_isRaining z_wasSaid z_undone z_kept z_order z_bestOrder z_hasBy z_wealthThen z_isFit z_tillThen z_drawX z_images z_imageForce z_imageX z_isMade) (wM K ad z_tape z_taped z_rules z_sign z_length z_clause z_clauses z_read q.2.1 q.2.2.1 q.2.2.2 z_text z_made z_deep z_lines z_open z_opened z_stack z_top z_word z_said z_force z_x z_absent z_isRaining z_wasSaid z_undone z_kept z_order z_bestOrder z_hasBy z_wealthThen z_isFit z_tillThen z_drawX z_images z_imageForce z_imageX z_isMade) (some (.int q.1)) := by
  refine rMet.of (by decide) rfl (Nat.le_of_ble_eq_true rfl) ?_
  refine r_sub (lv' := [(0, .ref (ad 0)), (1, .int x1), (2, .int x2)]) [0, 1, 2] rfl ?_
  unfold m_numberHere at h
  refine r_aload_n 0 dX12_numberHere_0 rfl ?_
  obtain ⟨q1, h1, h⟩ := bd_some h
  refine cvM (st := []) (cm_see h1) rfl rfl (Nat.le_of_ble_eq_true rfl) km_see (tb_in (i := 17) (j := 30) rfl rfl) (by decide) rfl dX12_numberHere_1 ?_
  refine r_pop dX12_numberHere_4 rfl ?_
  refine r_aload_n 0 dX12_numberHere_5 rfl ?_
  refine r_aload_n 0 dX12_numberHere_6 rfl ?_
  refine gM_next rfl dX12_numberHere_7 ?_
  obtain ⟨q2, h2, h⟩ := bd_some h
  refine cvM (st := []) (cm_isDigit h2) rfl rfl (Nat.le_of_ble_eq_true rfl) km_isDigit (tb_in (i := 18) (j := 14) rfl rfl) (by decide) rfl dX12_numberHere_10 ?_
  refine r_if_ne 26 dX12_numberHere_13 (by decide) (fun c3 => ?_) (fun c3 => ?_)
  · replace h := it_neg c3 h
    refine r_aload_n 0 dX12_numberHere_26 rfl ?_
    refine gM_next rfl dX12_numberHere_27 ?_
    refine r_istore_n (lv' := [(3, .int q1.2), (0, .ref (ad 0)), (1, .int x1), (2, .int x2)]) dX12_numberHere_30 (by decide) rfl ?_
    refine r_iconst (x := (0 : Int32)) dX12_numberHere_31 (by decide) ?_
    refine r_istore (lv' := [(4, .int (0 : Int32)), (3, .int q1.2), (0, .ref (ad 0)), (1, .int x1), (2, .int x2)]) dX12_numberHere_32 (by decide) rfl ?_
    refine r_sub (lv' := [(0, .ref (ad 0)), (1, .int x1), (2, .int x2), (3, .int q1.2), (4, .int (0 : Int32))]) [2, 3, 4, 1, 0] rfl ?_
    exact cm_numberHere_l34  FU _ _ h
  · replace h := it_pos c3 h
    refine r_aload_n 0 dX12_numberHere_16 rfl ?_
    refine r_iconst (x := (0 : Int32)) dX12_numberHere_17 (by decide) ?_
    refine r_aload_n 0 dX12_numberHere_18 rfl ?_
    refine gM_next rfl dX12_numberHere_19 ?_
    obtain ⟨q18, h18, h⟩ := bd_some h
    refine cvM (st := []) (cm_fails h18) rfl rfl (Nat.le_of_ble_eq_true rfl) km_fails (tb_in (i := 18) (j := 17) rfl rfl) (by decide) rfl dX12_numberHere_22 ?_
    obtain ⟨h19, h⟩ := rq_some h
    have hq := Option.some.inj h
    subst hq
    exact r_zret (ty := .boolean) rfl (bo_nar h19) dX12_numberHere_25
theorem dX12_wordHere_0 : decode cX12_wordHere 0 = .ok (.aload_n 0, 1) := by decide +kernel
theorem dX12_wordHere_1 : decode cX12_wordHere 1 = .ok (.ldc2_w 128, 3) := by decide +kernel
theorem dX12_wordHere_4 : decode cX12_wordHere 4 = .ok (.invokevirtual 107, 3) := by decide +kernel
theorem dX12_wordHere_7 : decode cX12_wordHere 7 = .ok (.ifCond .eq 5, 3) := by decide +kernel
theorem dX12_wordHere_10 : decode cX12_wordHere 10 = .ok (.iconst 0, 1) := by decide +kernel
theorem dX12_wordHere_11 : decode cX12_wordHere 11 = .ok (.ireturn, 1) := by decide +kernel
theorem dX12_wordHere_12 : decode cX12_wordHere 12 = .ok (.aload_n 0, 1) := by decide +kernel
theorem dX12_wordHere_13 : decode cX12_wordHere 13 = .ok (.ldc2_w 130, 3) := by decide +kernel
theorem dX12_wordHere_16 : decode cX12_wordHere 16 = .ok (.invokevirtual 107, 3) := by decide +kernel
theorem dX12_wordHere_19 : decode cX12_wordHere 19 = .ok (.ifCond .eq 5, 3) := by decide +kernel
theorem dX12_wordHere_22 : decode cX12_wordHere 22 = .ok (.iconst 1, 1) := by decide +kernel
theorem dX12_wordHere_23 : decode cX12_wordHere 23 = .ok (.ireturn, 1) := by decide +kernel
theorem dX12_wordHere_24 : decode cX12_wordHere 24 = .ok (.aload_n 0, 1) := by decide +kernel
theorem dX12_wordHere_25 : decode cX12_wordHere 25 = .ok (.ldc2_w 132, 3) := by decide +kernel
theorem dX12_wordHere_28 : decode cX12_wordHere 28 = .ok (.invokevirtual 107, 3) := by decide +kernel
theorem dX12_wordHere_31 : decode cX12_wordHere 31 = .ok (.ifCond .eq 5, 3) := by decide +kernel
theorem dX12_wordHere_34 : decode cX12_wordHere 34 = .ok (.iconst 2, 1) := by decide +kernel
theorem dX12_wordHere_35 : decode cX12_wordHere 35 = .ok (.ireturn, 1) := by decide +kernel
theorem dX12_wordHere_36 : decode cX12_wordHere 36 = .ok (.aload_n 0, 1) := by decide +kernel
theorem dX12_wordHere_37 : decode cX12_wordHere 37 = .ok (.ldc2_w 134, 3) := by decide +kernel
theorem dX12_wordHere_40 : decode cX12_wordHere 40 = .ok (.invokevirtual 107, 3) := by decide +kernel
theorem dX12_wordHere_43 : decode cX12_wordHere 43 = .ok (.ifCond .eq 5, 3) := by decide +kernel
theorem dX12_wordHere_46 : decode cX12_wordHere 46 = .ok (.iconst 3, 1) := by decide +kernel
theorem dX12_wordHere_47 : decode cX12_wordHere 47 = .ok (.ireturn, 1) := by decide +kernel
theorem dX12_wordHere_48 : decode cX12_wordHere 48 = .ok (.aload_n 0, 1) := by decide +kernel
theorem dX12_wordHere_49 : decode cX12_wordHere 49 = .ok (.ldc2_w 136, 3) := by decide +kernel
theorem dX12_wordHere_52 : decode cX12_wordHere 52 = .ok (.invokevirtual 107, 3) := by decide +kernel
theorem dX12_wordHere_55 : decode cX12_wordHere 55 = .ok (.ifCond .eq 5, 3) := by decide +kernel
theorem dX12_wordHere_58 : decode cX12_wordHere 58 = .ok (.iconst 4, 1) := by decide +kernel
theorem dX12_wordHere_59 : decode cX12_wordHere 59 = .ok (.ireturn, 1) := by decide +kernel
theorem dX12_wordHere_60 : decode cX12_wordHere 60 = .ok (.aload_n 0, 1) := by decide +kernel
theorem dX12_wordHere_61 : decode cX12_wordHere 61 = .ok (.ldc2_w 138, 3) := by decide +kernel
theorem dX12_wordHere_64 : decode cX12_wordHere 64 = .ok (.invokevirtual 107, 3) := by decide +kernel
theorem dX12_wordHere_67 : decode cX12_wordHere 67 = .ok (.ifCond .eq 5, 3) := by decide +kernel
theorem dX12_wordHere_70 : decode cX12_wordHere 70 = .ok (.iconst 5, 1) := by decide +kernel
theorem dX12_wordHere_71 : decode cX12_wordHere 71 = .ok (.ireturn, 1) := by decide +kernel
theorem dX12_wordHere_72 : decode cX12_wordHere 72 = .ok (.aload_n 0, 1) := by decide +kernel
theorem dX12_wordHere_73 : decode cX12_wordHere 73 = .ok (.ldc2_w 140, 3) := by decide +kernel
theorem dX12_wordHere_76 : decode cX12_wordHere 76 = .ok (.invokevirtual 107, 3) := by decide +kernel
theorem dX12_wordHere_79 : decode cX12_wordHere 79 = .ok (.ifCond .eq 6, 3) := by decide +kernel
theorem dX12_wordHere_82 : decode cX12_wordHere 82 = .ok (.bipush 6, 2) := by decide +kernel
theorem dX12_wordHere_84 : decode cX12_wordHere 84 = .ok (.ireturn, 1) := by decide +kernel
theorem dX12_wordHere_85 : decode cX12_wordHere 85 = .ok (.aload_n 0, 1) := by decide +kernel
theorem dX12_wordHere_86 : decode cX12_wordHere 86 = .ok (.ldc2_w 142, 3) := by decide +kernel
theorem dX12_wordHere_89 : decode cX12_wordHere 89 = .ok (.invokevirtual 107, 3) := by decide +kernel
theorem dX12_wordHere_92 : decode cX12_wordHere 92 = .ok (.ifCond .eq 6, 3) := by decide +kernel
theorem dX12_wordHere_95 : decode cX12_wordHere 95 = .ok (.bipush 7, 2) := by decide +kernel
theorem dX12_wordHere_97 : decode cX12_wordHere 97 = .ok (.ireturn, 1) := by decide +kernel
theorem dX12_wordHere_98 : decode cX12_wordHere 98 = .ok (.aload_n 0, 1) := by decide +kernel
theorem dX12_wordHere_99 : decode cX12_wordHere 99 = .ok (.ldc2_w 144, 3) := by decide +kernel
theorem dX12_wordHere_102 : decode cX12_wordHere 102 = .ok (.invokevirtual 107, 3) := by decide +kernel
theorem dX12_wordHere_105 : decode cX12_wordHere 105 = .ok (.ifCond .eq 6, 3) := by decide +kernel
theorem dX12_wordHere_108 : decode cX12_wordHere 108 = .ok (.bipush 8, 2) := by decide +kernel
theorem dX12_wordHere_110 : decode cX12_wordHere 110 = .ok (.ireturn, 1) := by decide +kernel
theorem dX12_wordHere_111 : decode cX12_wordHere 111 = .ok (.aload_n 0, 1) := by decide +kernel
theorem dX12_wordHere_112 : decode cX12_wordHere 112 = .ok (.ldc2_w 146, 3) := by decide +kernel
theorem dX12_wordHere_115 : decode cX12_wordHere 115 = .ok (.invokevirtual 107, 3) := by decide +kernel
theorem dX12_wordHere_118 : decode cX12_wordHere 118 = .ok (.ifCond .eq 6, 3) := by decide +kernel
theorem dX12_wordHere_121 : decode cX12_wordHere 121 = .ok (.bipush 9, 2) := by decide +kernel
theorem dX12_wordHere_123 : decode cX12_wordHere 123 = .ok (.ireturn, 1) := by decide +kernel
theorem dX12_wordHere_124 : decode cX12_wordHere 124 = .ok (.aload_n 0, 1) := by decide +kernel
theorem dX12_wordHere_125 : decode cX12_wordHere 125 = .ok (.ldc2_w 148, 3) := by decide +kernel
theorem dX12_wordHere_128 : decode cX12_wordHere 128 = .ok (.invokevirtual 107, 3) := by decide +kernel
theorem dX12_wordHere_131 : decode cX12_wordHere 131 = .ok (.ifCond .eq 8, 3) := by decide +kernel
theorem dX12_wordHere_134 : decode cX12_wordHere 134 = .ok (.bipush 10, 2) := by decide +kernel
theorem dX12_wordHere_136 : decode cX12_wordHere 136 = .ok (.goto 19, 3) := by decide +kernel
theorem dX12_wordHere_139 : decode cX12_wordHere 139 = .ok (.aload_n 0, 1) := by decide +kernel
theorem dX12_wordHere_140 : decode cX12_wordHere 140 = .ok (.ldc2_w 150, 3) := by decide +kernel
theorem dX12_wordHere_143 : decode cX12_wordHere 143 = .ok (.invokevirtual 107, 3) := by decide +kernel
theorem dX12_wordHere_146 : decode cX12_wordHere 146 = .ok (.ifCond .eq 8, 3) := by decide +kernel
theorem dX12_wordHere_149 : decode cX12_wordHere 149 = .ok (.bipush 11, 2) := by decide +kernel
theorem dX12_wordHere_151 : decode cX12_wordHere 151 = .ok (.goto 4, 3) := by decide +kernel
theorem dX12_wordHere_154 : decode cX12_wordHere 154 = .ok (.iconst (-1), 1) := by decide +kernel
theorem dX12_wordHere_155 : decode cX12_wordHere 155 = .ok (.ireturn, 1) := by decide +kernel
abbrev Mm_wordHere : rx_M := (RX12, yX12_wordHere, cX12_wordHere, 1, (some .int), 3)
theorem km_wordHere : rKv Mm_wordHere 0 := ⟨tb_in (i := 19) (j := 25) rfl rfl, tb_in (i := 19) (j := 26) rfl rfl, tb_in (i := 17) (j := 21) rfl rfl, tb_in (i := 19) (j := 2) rfl rfl, ⟨by decide, by decide, by decide +kernel⟩, by decide⟩
def m_wordHere (z_tape : Nat → Int32) (z_taped : Int32) (z_next : Int32) : Option (Int32 × Int32) := (m_isWord (422877685106 : Int64) z_tape z_taped z_next).bind (fun q1 => (if q1.1 = 0 then (m_isWord (495873780844 : Int64) z_tape z_taped q1.2).bind (fun q3 => (if q3.1 = 0 then (m_isWord (483006772069 : Int64) z_tape z_taped q3.2).bind (fun q5 => (if q5.1 = 0 then (m_isWord (482955846501 : Int64) z_tape z_taped q5.2).bind (fun q7 => (if q7.1 = 0 then (m_isWord (123636562883429 : Int64) z_tape z_taped q7.2).bind (fun q9 => (if q9.1 = 0 then (m_isWord (1667329381 : Int64) z_tape z_taped q9.2).bind (fun q11 => (if q11.1 = 0 then (m_isWord (444251202675 : Int64) z_tape z_taped q11.2).bind (fun q13 => (if q13.1 = 0 then (m_isWord (1936682084 : Int64) z_tape z_taped q13.2).bind (fun q15 => (if q15.1 = 0 then (m_isWord (6840676 : Int64) z_tape z_taped q15.2).bind (fun q17 => (if q17.1 = 0 then (m_isWord (113741293447013 : Int64) z_tape z_taped q17.2).bind (fun q19 => (if q19.1 = 0 then (m_isWord (120299592184933 : Int64) z_tape z_taped q19.2).bind (fun q21 => (if q21.1 = 0 then (m_isWord (6578553 : Int64) z_tape z_taped q21.2).bind (fun q23 => (if q23.1 = 0 then some ((-1 : Int32), q23.2) else some ((11 : Int32), q23.2))) else some ((10 : Int32), q21.2))) else some ((9 : Int32), q19.2))) else some ((8 : Int32), q17.2))) else some ((7 : Int32), q15.2))) else some ((6 : Int32), q13.2))) else some ((5 : Int32), q11.2))) else some ((4 : Int32), q9.2))) else some ((3 : Int32), q7.2))) else some ((2 : Int32), q5.2))) else some ((1 : Int32), q3.2))) else some ((0 : Int32), q1.2)))
set_option maxRecDepth 20000 in
theorem cm_wordHere {q : Int32 × Int32}  (h : m_wordHere z_tape z_taped z_next = some q) : rMet l D Z (ty7 K) Mm_wordHere [.ref (ad 0)] (wM K ad z_tape z_taped z_rules z_sign z_length z_clause z_clauses z_read z_next z_wrong z_number z_text z_made z_deep z_lines z_open z_opened z_stack z_top z_word z_said z_force z_x z_absent z_isRaining z_wasSaid z_undone z_kept z_order z_bestOrder z_hasBy z_wealthThen z_isFit z_tillThen z_drawX z_images z_imageForce z_imageX z_isMade) (wM K ad z_tape z_taped z_rules z_sign z_length z_clause z_clauses z_read q.2 z_wrong z_number z_text z_made z_deep z_lines z_open z_opened z_stack z_top z_word z_said z_force z_x z_absent z_isRaining z_wasSaid z_undone z_kept z_order z_bestOrder z_hasBy z_wealthThen z_isFit z_tillThen z_drawX z_images z_imageForce z_imageX z_isMade) (some (.int q.1)) := by
  refine rMet.of (by decide) rfl (Nat.le_of_ble_eq_true rfl) ?_
  refine r_sub (lv' := [(0, .ref (ad 0))]) [0] rfl ?_
  unfold m_wordHere at h
  refine r_aload_n 0 dX12_wordHere_0 rfl ?_
  refine r_ldc2 (x := (422877685106 : Int64)) (tb_in (i := 18) (j := 22) rfl rfl) dX12_wordHere_1 ?_
  obtain ⟨q1, h1, h⟩ := bd_some h
  refine cvM (st := []) (cm_isWord h1) rfl rfl (Nat.le_of_ble_eq_true rfl) km_isWord (tb_in (i := 18) (j := 6) rfl rfl) (by decide) rfl dX12_wordHere_4 ?_
  refine r_if_eq 12 dX12_wordHere_7 (by decide) (fun c2 => ?_) (fun c2 => ?_)
  · replace h := it_pos c2 h
    refine r_aload_n 0 dX12_wordHere_12 rfl ?_
    refine r_ldc2 (x := (495873780844 : Int64)) (tb_in (i := 18) (j := 23) rfl rfl) dX12_wordHere_13 ?_
    obtain ⟨q3, h3, h⟩ := bd_some h
    refine cvM (st := []) (cm_isWord h3) rfl rfl (Nat.le_of_ble_eq_true rfl) km_isWord (tb_in (i := 18) (j := 6) rfl rfl) (by decide) rfl dX12_wordHere_16 ?_
    refine r_if_eq 24 dX12_wordHere_19 (by decide) (fun c4 => ?_) (fun c4 => ?_)
    · replace h := it_pos c4 h
      refine r_aload_n 0 dX12_wordHere_24 rfl ?_
      refine r_ldc2 (x := (483006772069 : Int64)) (tb_in (i := 18) (j := 24) rfl rfl) dX12_wordHere_25 ?_
      obtain ⟨q5, h5, h⟩ := bd_some h
      refine cvM (st := []) (cm_isWord h5) rfl rfl (Nat.le_of_ble_eq_true rfl) km_isWord (tb_in (i := 18) (j := 6) rfl rfl) (by decide) rfl dX12_wordHere_28 ?_
      refine r_if_eq 36 dX12_wordHere_31 (by decide) (fun c6 => ?_) (fun c6 => ?_)
      · replace h := it_pos c6 h
        refine r_aload_n 0 dX12_wordHere_36 rfl ?_
        refine r_ldc2 (x := (482955846501 : Int64)) (tb_in (i := 18) (j := 25) rfl rfl) dX12_wordHere_37 ?_
        obtain ⟨q7, h7, h⟩ := bd_some h
        refine cvM (st := []) (cm_isWord h7) rfl rfl (Nat.le_of_ble_eq_true rfl) km_isWord (tb_in (i := 18) (j := 6) rfl rfl) (by decide) rfl dX12_wordHere_40 ?_
        refine r_if_eq 48 dX12_wordHere_43 (by decide) (fun c8 => ?_) (fun c8 => ?_)
        · replace h := it_pos c8 h
          refine r_aload_n 0 dX12_wordHere_48 rfl ?_
          refine r_ldc2 (x := (123636562883429 : Int64)) (tb_in (i := 18) (j := 26) rfl rfl) dX12_wordHere_49 ?_
          obtain ⟨q9, h9, h⟩ := bd_some h
          refine cvM (st := []) (cm_isWord h9) rfl rfl (Nat.le_of_ble_eq_true rfl) km_isWord (tb_in (i := 18) (j := 6) rfl rfl) (by decide) rfl dX12_wordHere_52 ?_
          refine r_if_eq 60 dX12_wordHere_55 (by decide) (fun c10 => ?_) (fun c10 => ?_)
          · replace h := it_pos c10 h
            refine r_aload_n 0 dX12_wordHere_60 rfl ?_
            refine r_ldc2 (x := (1667329381 : Int64)) (tb_in (i := 18) (j := 27) rfl rfl) dX12_wordHere_61 ?_
            obtain ⟨q11, h11, h⟩ := bd_some h
            refine cvM (st := []) (cm_isWord h11) rfl rfl (Nat.le_of_ble_eq_true rfl) km_isWord (tb_in (i := 18) (j := 6) rfl rfl) (by decide) rfl dX12_wordHere_64 ?_
            refine r_if_eq 72 dX12_wordHere_67 (by decide) (fun c12 => ?_) (fun c12 => ?_)
            · replace h := it_pos c12 h
              refine r_aload_n 0 dX12_wordHere_72 rfl ?_
              refine r_ldc2 (x := (444251202675 : Int64)) (tb_in (i := 18) (j := 28) rfl rfl) dX12_wordHere_73 ?_
              obtain ⟨q13, h13, h⟩ := bd_some h
              refine cvM (st := []) (cm_isWord h13) rfl rfl (Nat.le_of_ble_eq_true rfl) km_isWord (tb_in (i := 18) (j := 6) rfl rfl) (by decide) rfl dX12_wordHere_76 ?_
              refine r_if_eq 85 dX12_wordHere_79 (by decide) (fun c14 => ?_) (fun c14 => ?_)
              · replace h := it_pos c14 h
                refine r_aload_n 0 dX12_wordHere_85 rfl ?_
                refine r_ldc2 (x := (1936682084 : Int64)) (tb_in (i := 18) (j := 29) rfl rfl) dX12_wordHere_86 ?_
                obtain ⟨q15, h15, h⟩ := bd_some h
                refine cvM (st := []) (cm_isWord h15) rfl rfl (Nat.le_of_ble_eq_true rfl) km_isWord (tb_in (i := 18) (j := 6) rfl rfl) (by decide) rfl dX12_wordHere_89 ?_
                refine r_if_eq 98 dX12_wordHere_92 (by decide) (fun c16 => ?_) (fun c16 => ?_)
                · replace h := it_pos c16 h
                  refine r_aload_n 0 dX12_wordHere_98 rfl ?_
                  refine r_ldc2 (x := (6840676 : Int64)) (tb_in (i := 18) (j := 30) rfl rfl) dX12_wordHere_99 ?_
                  obtain ⟨q17, h17, h⟩ := bd_some h
                  refine cvM (st := []) (cm_isWord h17) rfl rfl (Nat.le_of_ble_eq_true rfl) km_isWord (tb_in (i := 18) (j := 6) rfl rfl) (by decide) rfl dX12_wordHere_102 ?_
                  refine r_if_eq 111 dX12_wordHere_105 (by decide) (fun c18 => ?_) (fun c18 => ?_)
                  · replace h := it_pos c18 h
                    refine r_aload_n 0 dX12_wordHere_111 rfl ?_
                    refine r_ldc2 (x := (113741293447013 : Int64)) (tb_in (i := 18) (j := 31) rfl rfl) dX12_wordHere_112 ?_
                    obtain ⟨q19, h19, h⟩ := bd_some h
                    refine cvM (st := []) (cm_isWord h19) rfl rfl (Nat.le_of_ble_eq_true rfl) km_isWord (tb_in (i := 18) (j := 6) rfl rfl) (by decide) rfl dX12_wordHere_115 ?_
                    refine r_if_eq 124 dX12_wordHere_118 (by decide) (fun c20 => ?_) (fun c20 => ?_)
                    · replace h := it_pos c20 h
                      refine r_aload_n 0 dX12_wordHere_124 rfl ?_
                      refine r_ldc2 (x := (120299592184933 : Int64)) (tb_in (i := 19) (j := 0) rfl rfl) dX12_wordHere_125 ?_
                      obtain ⟨q21, h21, h⟩ := bd_some h
                      refine cvM (st := []) (cm_isWord h21) rfl rfl (Nat.le_of_ble_eq_true rfl) km_isWord (tb_in (i := 18) (j := 6) rfl rfl) (by decide) rfl dX12_wordHere_128 ?_
                      refine r_if_eq 139 dX12_wordHere_131 (by decide) (fun c22 => ?_) (fun c22 => ?_)
                      · replace h := it_pos c22 h
                        refine r_aload_n 0 dX12_wordHere_139 rfl ?_
                        refine r_ldc2 (x := (6578553 : Int64)) (tb_in (i := 19) (j := 1) rfl rfl) dX12_wordHere_140 ?_
                        obtain ⟨q23, h23, h⟩ := bd_some h
                        refine cvM (st := []) (cm_isWord h23) rfl rfl (Nat.le_of_ble_eq_true rfl) km_isWord (tb_in (i := 18) (j := 6) rfl rfl) (by decide) rfl dX12_wordHere_143 ?_
                        refine r_if_eq 154 dX12_wordHere_146 (by decide) (fun c24 => ?_) (fun c24 => ?_)
                        · replace h := it_pos c24 h
                          refine r_iconst (x := (-1 : Int32)) dX12_wordHere_154 (by decide) ?_
                          have hq := Option.some.inj h
                          subst hq
                          exact r_iret rfl dX12_wordHere_155
                        · replace h := it_neg c24 h
                          refine r_bipush (x := (11 : Int32)) dX12_wordHere_149 (by decide) ?_
                          refine r_goto 155 dX12_wordHere_151 (by decide) ?_
                          have hq := Option.some.inj h
                          subst hq
                          exact r_iret rfl dX12_wordHere_155
                      · replace h := it_neg c22 h
                        refine r_bipush (x := (10 : Int32)) dX12_wordHere_134 (by decide) ?_
                        refine r_goto 155 dX12_wordHere_136 (by decide) ?_
                        have hq := Option.some.inj h
                        subst hq
                        exact r_iret rfl dX12_wordHere_155
                    · replace h := it_neg c20 h
                      refine r_bipush (x := (9 : Int32)) dX12_wordHere_121 (by decide) ?_
                      have hq := Option.some.inj h
                      subst hq
                      exact r_iret rfl dX12_wordHere_123
                  · replace h := it_neg c18 h
                    refine r_bipush (x := (8 : Int32)) dX12_wordHere_108 (by decide) ?_
                    have hq := Option.some.inj h
                    subst hq
                    exact r_iret rfl dX12_wordHere_110
                · replace h := it_neg c16 h
                  refine r_bipush (x := (7 : Int32)) dX12_wordHere_95 (by decide) ?_
                  have hq := Option.some.inj h
                  subst hq
                  exact r_iret rfl dX12_wordHere_97
              · replace h := it_neg c14 h
                refine r_bipush (x := (6 : Int32)) dX12_wordHere_82 (by decide) ?_
                have hq := Option.some.inj h
                subst hq
                exact r_iret rfl dX12_wordHere_84
            · replace h := it_neg c12 h
              refine r_iconst (x := (5 : Int32)) dX12_wordHere_70 (by decide) ?_
              have hq := Option.some.inj h
              subst hq
              exact r_iret rfl dX12_wordHere_71
          · replace h := it_neg c10 h
            refine r_iconst (x := (4 : Int32)) dX12_wordHere_58 (by decide) ?_
            have hq := Option.some.inj h
            subst hq
            exact r_iret rfl dX12_wordHere_59
        · replace h := it_neg c8 h
          refine r_iconst (x := (3 : Int32)) dX12_wordHere_46 (by decide) ?_
          have hq := Option.some.inj h
          subst hq
          exact r_iret rfl dX12_wordHere_47
      · replace h := it_neg c6 h
        refine r_iconst (x := (2 : Int32)) dX12_wordHere_34 (by decide) ?_
        have hq := Option.some.inj h
        subst hq
        exact r_iret rfl dX12_wordHere_35
    · replace h := it_neg c4 h
      refine r_iconst (x := (1 : Int32)) dX12_wordHere_22 (by decide) ?_
      have hq := Option.some.inj h
      subst hq
      exact r_iret rfl dX12_wordHere_23
  · replace h := it_neg c2 h
    refine r_iconst (x := (0 : Int32)) dX12_wordHere_10 (by decide) ?_
    have hq := Option.some.inj h
    subst hq
    exact r_iret rfl dX12_wordHere_11
theorem dX12_puts_0 : decode cX12_puts 0 = .ok (.aload_n 0, 1) := by decide +kernel
theorem dX12_puts_1 : decode cX12_puts 1 = .ok (.getfield 13, 3) := by decide +kernel
theorem dX12_puts_4 : decode cX12_puts 4 = .ok (.sipush 400, 3) := by decide +kernel
theorem dX12_puts_7 : decode cX12_puts 7 = .ok (.aload_n 0, 1) := by decide +kernel
theorem dX12_puts_8 : decode cX12_puts 8 = .ok (.getfield 152, 3) := by decide +kernel
theorem dX12_puts_11 : decode cX12_puts 11 = .ok (.imul, 1) := by decide +kernel
theorem dX12_puts_12 : decode cX12_puts 12 = .ok (.aload_n 0, 1) := by decide +kernel
theorem dX12_puts_13 : decode cX12_puts 13 = .ok (.getfield 17, 3) := by decide +kernel
theorem dX12_puts_16 : decode cX12_puts 16 = .ok (.aload_n 0, 1) := by decide +kernel
theorem dX12_puts_17 : decode cX12_puts 17 = .ok (.getfield 152, 3) := by decide +kernel
theorem dX12_puts_20 : decode cX12_puts 20 = .ok (.iaload, 1) := by decide +kernel
theorem dX12_puts_21 : decode cX12_puts 21 = .ok (.iadd, 1) := by decide +kernel
theorem dX12_puts_22 : decode cX12_puts 22 = .ok (.iload_n 1, 1) := by decide +kernel
theorem dX12_puts_23 : decode cX12_puts 23 = .ok (.bipush 16, 2) := by decide +kernel
theorem dX12_puts_25 : decode cX12_puts 25 = .ok (.iload_n 2, 1) := by decide +kernel
theorem dX12_puts_26 : decode cX12_puts 26 = .ok (.imul, 1) := by decide +kernel
theorem dX12_puts_27 : decode cX12_puts 27 = .ok (.iadd, 1) := by decide +kernel
theorem dX12_puts_28 : decode cX12_puts 28 = .ok (.iastore, 1) := by decide +kernel
theorem dX12_puts_29 : decode cX12_puts 29 = .ok (.aload_n 0, 1) := by decide +kernel
theorem dX12_puts_30 : decode cX12_puts 30 = .ok (.getfield 17, 3) := by decide +kernel
theorem dX12_puts_33 : decode cX12_puts 33 = .ok (.aload_n 0, 1) := by decide +kernel
theorem dX12_puts_34 : decode cX12_puts 34 = .ok (.getfield 152, 3) := by decide +kernel
theorem dX12_puts_37 : decode cX12_puts 37 = .ok (.dup2, 1) := by decide +kernel
theorem dX12_puts_38 : decode cX12_puts 38 = .ok (.iaload, 1) := by decide +kernel
theorem dX12_puts_39 : decode cX12_puts 39 = .ok (.iconst 1, 1) := by decide +kernel
theorem dX12_puts_40 : decode cX12_puts 40 = .ok (.iadd, 1) := by decide +kernel
theorem dX12_puts_41 : decode cX12_puts 41 = .ok (.iastore, 1) := by decide +kernel
theorem dX12_puts_42 : decode cX12_puts 42 = .ok (.return_, 1) := by decide +kernel
abbrev Mm_puts : rx_M := (RX12, yX12_puts, cX12_puts, 3, none, 1)
theorem km_puts : rKv Mm_puts 2 := ⟨tb_in (i := 19) (j := 15) rfl rfl, tb_in (i := 19) (j := 16) rfl rfl, tb_in (i := 17) (j := 21) rfl rfl, tb_in (i := 19) (j := 3) rfl rfl, ⟨by decide, by decide, by decide +kernel⟩, by decide⟩
def m_puts (x1 : Int32) (x2 : Int32) (z_sign : Nat → Int32) (z_length : Nat → Int32) (z_text : Int32) : Option ((Nat → Int32) × (Nat → Int32)) := rq (inb z_text 7) (rq (inb (((400 : Int32) * z_text) + (z_length z_text.toNatClampNeg)) 2400) (lt (upd z_sign (((400 : Int32) * z_text) + (z_length z_text.toNatClampNeg)).toNatClampNeg (x1 + ((16 : Int32) * x2))) (fun u2 => rq (inb z_text 7) (rq (inb z_text 7) (lt (upd z_length z_text.toNatClampNeg ((z_length z_text.toNatClampNeg) + (1 : Int32))) (fun u4 => some (u2, u4)))))))
set_option maxRecDepth 20000 in
theorem cm_puts {q : (Nat → Int32) × (Nat → Int32)} {x1 : Int32} {x2 : Int32} (h : m_puts x1 x2 z_sign z_length z_text = some q) : rMet l D Z (ty7 K) Mm_puts [.ref (ad 0), .int x1, .int x2] (wM K ad z_tape z_taped z_rules z_sign z_length z_clause z_clauses z_read z_next z_wrong z_number z_text z_made z_deep z_lines z_open z_opened z_stack z_top z_word z_said z_force z_x z_absent z_isRaining z_wasSaid z_undone z_kept z_order z_bestOrder z_hasBy z_wealthThen z_isFit z_tillThen z_drawX z_images z_imageForce z_imageX z_isMade) (wM K ad z_tape z_taped z_rules q.1 q.2 z_clause z_clauses z_read z_next z_wrong z_number z_text z_made z_deep z_lines z_open z_opened z_stack z_top z_word z_said z_force z_x z_absent z_isRaining z_wasSaid z_undone z_kept z_order z_bestOrder z_hasBy z_wealthThen z_isFit z_tillThen z_drawX z_images z_imageForce z_imageX z_isMade) none := by
  refine rMet.of (by decide) rfl (Nat.le_of_ble_eq_true rfl) ?_
  refine r_sub (lv' := [(0, .ref (ad 0)), (1, .int x1), (2, .int x2)]) [0, 1, 2] rfl ?_
  unfold m_puts at h
  refine r_aload_n 0 dX12_puts_0 rfl ?_
  refine gM_sign rfl dX12_puts_1 ?_
  refine r_sipush (x := (400 : Int32)) dX12_puts_4 (by decide) ?_
  refine r_aload_n 0 dX12_puts_7 rfl ?_
  refine gM_text rfl dX12_puts_8 ?_
  refine r_imul dX12_puts_11 ?_
  refine r_aload_n 0 dX12_puts_12 rfl ?_
  refine gM_length rfl dX12_puts_13 ?_
  refine r_aload_n 0 dX12_puts_16 rfl ?_
  refine gM_text rfl dX12_puts_17 ?_
  obtain ⟨h1, h⟩ := rq_some h
  refine lM_length (inb_in h1) dX12_puts_20 ?_
  refine r_iadd dX12_puts_21 ?_
  refine r_iload_n 1 dX12_puts_22 rfl ?_
  refine r_bipush (x := (16 : Int32)) dX12_puts_23 (by decide) ?_
  refine r_iload_n 2 dX12_puts_25 rfl ?_
  refine r_imul dX12_puts_26 ?_
  refine r_iadd dX12_puts_27 ?_
  obtain ⟨h2, h⟩ := rq_some h
  obtain ⟨u2, e2, h⟩ := lt_some h
  refine sM_sign e2 (inb_in h2) dX12_puts_28 ?_
  refine r_aload_n 0 dX12_puts_29 rfl ?_
  refine gM_length rfl dX12_puts_30 ?_
  refine r_aload_n 0 dX12_puts_33 rfl ?_
  refine gM_text rfl dX12_puts_34 ?_
  refine r_dup2 dX12_puts_37 rfl rfl ?_
  obtain ⟨h3, h⟩ := rq_some h
  refine lM_length (inb_in h3) dX12_puts_38 ?_
  refine r_iconst (x := (1 : Int32)) dX12_puts_39 (by decide) ?_
  refine r_iadd dX12_puts_40 ?_
  obtain ⟨h4, h⟩ := rq_some h
  obtain ⟨u4, e4, h⟩ := lt_some h
  refine sM_length e4 (inb_in h4) dX12_puts_41 ?_
  have hq := Option.some.inj h
  subst hq
  exact r_vret rfl dX12_puts_42
theorem dX12_makes_0 : decode cX12_makes 0 = .ok (.aload_n 0, 1) := by decide +kernel
theorem dX12_makes_1 : decode cX12_makes 1 = .ok (.getfield 155, 3) := by decide +kernel
theorem dX12_makes_4 : decode cX12_makes 4 = .ok (.bipush 60, 2) := by decide +kernel
theorem dX12_makes_6 : decode cX12_makes 6 = .ok (.if_icmp .ne 10, 3) := by decide +kernel
theorem dX12_makes_9 : decode cX12_makes 9 = .ok (.aload_n 0, 1) := by decide +kernel
theorem dX12_makes_10 : decode cX12_makes 10 = .ok (.iconst 3, 1) := by decide +kernel
theorem dX12_makes_11 : decode cX12_makes 11 = .ok (.iload_n 1, 1) := by decide +kernel
theorem dX12_makes_12 : decode cX12_makes 12 = .ok (.invokevirtual 117, 3) := by decide +kernel
theorem dX12_makes_15 : decode cX12_makes 15 = .ok (.ireturn, 1) := by decide +kernel
theorem dX12_makes_16 : decode cX12_makes 16 = .ok (.aload_n 0, 1) := by decide +kernel
theorem dX12_makes_17 : decode cX12_makes 17 = .ok (.dup, 1) := by decide +kernel
theorem dX12_makes_18 : decode cX12_makes 18 = .ok (.getfield 155, 3) := by decide +kernel
theorem dX12_makes_21 : decode cX12_makes 21 = .ok (.iconst 1, 1) := by decide +kernel
theorem dX12_makes_22 : decode cX12_makes 22 = .ok (.iadd, 1) := by decide +kernel
theorem dX12_makes_23 : decode cX12_makes 23 = .ok (.putfield 155, 3) := by decide +kernel
theorem dX12_makes_26 : decode cX12_makes 26 = .ok (.iconst 1, 1) := by decide +kernel
theorem dX12_makes_27 : decode cX12_makes 27 = .ok (.ireturn, 1) := by decide +kernel
abbrev Mm_makes : rx_M := (RX12, yX12_makes, cX12_makes, 2, (some .boolean), 2)
theorem km_makes : rKv Mm_makes 1 := ⟨tb_in (i := 19) (j := 22) rfl rfl, tb_in (i := 19) (j := 23) rfl rfl, tb_in (i := 17) (j := 21) rfl rfl, tb_in (i := 19) (j := 5) rfl rfl, ⟨by decide, by decide, by decide +kernel⟩, by decide⟩
def m_makes (x1 : Int32) (z_wrong : Int32) (z_made : Int32) : Option (Int32 × Int32 × Int32) := (if z_made = (60 : Int32) then (m_fails (3 : Int32) x1 z_wrong).bind (fun q3 => rq (bo q3.1) (some (q3.1, q3.2, z_made))) else lt (z_made + (1 : Int32)) (fun y2 => some ((1 : Int32), z_wrong, y2)))
set_option maxRecDepth 20000 in
theorem cm_makes {q : Int32 × Int32 × Int32} {x1 : Int32} (h : m_makes x1 z_wrong z_made = some q) : rMet l D Z (ty7 K) Mm_makes [.ref (ad 0), .int x1] (wM K ad z_tape z_taped z_rules z_sign z_length z_clause z_clauses z_read z_next z_wrong z_number z_text z_made z_deep z_lines z_open z_opened z_stack z_top z_word z_said z_force z_x z_absent z_isRaining z_wasSaid z_undone z_kept z_order z_bestOrder z_hasBy z_wealthThen z_isFit z_tillThen z_drawX z_images z_imageForce z_imageX z_isMade) (wM K ad z_tape z_taped z_rules z_sign z_length z_clause z_clauses z_read z_next q.2.1 z_number z_text q.2.2 z_deep z_lines z_open z_opened z_stack z_top z_word z_said z_force z_x z_absent z_isRaining z_wasSaid z_undone z_kept z_order z_bestOrder z_hasBy z_wealthThen z_isFit z_tillThen z_drawX z_images z_imageForce z_imageX z_isMade) (some (.int q.1)) := by
  refine rMet.of (by decide) rfl (Nat.le_of_ble_eq_true rfl) ?_
  refine r_sub (lv' := [(0, .ref (ad 0)), (1, .int x1)]) [0, 1] rfl ?_
  unfold m_makes at h
  refine r_aload_n 0 dX12_makes_0 rfl ?_
  refine gM_made rfl dX12_makes_1 ?_
  refine r_bipush (x := (60 : Int32)) dX12_makes_4 (by decide) ?_
  refine r_icmp_ne 16 dX12_makes_6 (by decide) (fun c1 => ?_) (fun c1 => ?_)
  · replace h := it_neg c1 h
    refine r_aload_n 0 dX12_makes_16 rfl ?_
    refine r_dup dX12_makes_17 rfl ?_
    refine gM_made rfl dX12_makes_18 ?_
    refine r_iconst (x := (1 : Int32)) dX12_makes_21 (by decide) ?_
    refine r_iadd dX12_makes_22 ?_
    obtain ⟨y2, e2, h⟩ := lt_some h
    refine r_top e2 ?_
    refine pM_made rfl dX12_makes_23 ?_
    refine r_iconst (x := (1 : Int32)) dX12_makes_26 (by decide) ?_
    have hq := Option.some.inj h
    subst hq
    exact r_zret (ty := .boolean) rfl rfl dX12_makes_27
  · replace h := it_pos c1 h
    refine r_aload_n 0 dX12_makes_9 rfl ?_
    refine r_iconst (x := (3 : Int32)) dX12_makes_10 (by decide) ?_
    refine r_iload_n 1 dX12_makes_11 rfl ?_
    obtain ⟨q3, h3, h⟩ := bd_some h
    refine cvM (st := []) (cm_fails h3) rfl rfl (Nat.le_of_ble_eq_true rfl) km_fails (tb_in (i := 18) (j := 17) rfl rfl) (by decide) rfl dX12_makes_12 ?_
    obtain ⟨h4, h⟩ := rq_some h
    have hq := Option.some.inj h
    subst hq
    exact r_zret (ty := .boolean) rfl (bo_nar h4) dX12_makes_15
theorem dX12_opens_0 : decode cX12_opens 0 = .ok (.aload_n 0, 1) := by decide +kernel
theorem dX12_opens_1 : decode cX12_opens 1 = .ok (.getfield 158, 3) := by decide +kernel
theorem dX12_opens_4 : decode cX12_opens 4 = .ok (.bipush 10, 2) := by decide +kernel
theorem dX12_opens_6 : decode cX12_opens 6 = .ok (.if_icmp .ne 13, 3) := by decide +kernel
theorem dX12_opens_9 : decode cX12_opens 9 = .ok (.aload_n 0, 1) := by decide +kernel
theorem dX12_opens_10 : decode cX12_opens 10 = .ok (.iconst 2, 1) := by decide +kernel
theorem dX12_opens_11 : decode cX12_opens 11 = .ok (.aload_n 0, 1) := by decide +kernel
theorem dX12_opens_12 : decode cX12_opens 12 = .ok (.getfield 96, 3) := by decide +kernel
theorem dX12_opens_15 : decode cX12_opens 15 = .ok (.invokevirtual 117, 3) := by decide +kernel
theorem dX12_opens_18 : decode cX12_opens 18 = .ok (.ireturn, 1) := by decide +kernel
theorem dX12_opens_19 : decode cX12_opens 19 = .ok (.aload_n 0, 1) := by decide +kernel
theorem dX12_opens_20 : decode cX12_opens 20 = .ok (.dup, 1) := by decide +kernel
theorem dX12_opens_21 : decode cX12_opens 21 = .ok (.getfield 158, 3) := by decide +kernel
theorem dX12_opens_24 : decode cX12_opens 24 = .ok (.iconst 1, 1) := by decide +kernel
theorem dX12_opens_25 : decode cX12_opens 25 = .ok (.iadd, 1) := by decide +kernel
theorem dX12_opens_26 : decode cX12_opens 26 = .ok (.putfield 158, 3) := by decide +kernel
theorem dX12_opens_29 : decode cX12_opens 29 = .ok (.aload_n 0, 1) := by decide +kernel
theorem dX12_opens_30 : decode cX12_opens 30 = .ok (.getfield 29, 3) := by decide +kernel
theorem dX12_opens_33 : decode cX12_opens 33 = .ok (.aload_n 0, 1) := by decide +kernel
theorem dX12_opens_34 : decode cX12_opens 34 = .ok (.getfield 161, 3) := by decide +kernel
theorem dX12_opens_37 : decode cX12_opens 37 = .ok (.iload_n 1, 1) := by decide +kernel
theorem dX12_opens_38 : decode cX12_opens 38 = .ok (.iastore, 1) := by decide +kernel
theorem dX12_opens_39 : decode cX12_opens 39 = .ok (.aload_n 0, 1) := by decide +kernel
theorem dX12_opens_40 : decode cX12_opens 40 = .ok (.dup, 1) := by decide +kernel
theorem dX12_opens_41 : decode cX12_opens 41 = .ok (.getfield 161, 3) := by decide +kernel
theorem dX12_opens_44 : decode cX12_opens 44 = .ok (.iconst 1, 1) := by decide +kernel
theorem dX12_opens_45 : decode cX12_opens 45 = .ok (.iadd, 1) := by decide +kernel
theorem dX12_opens_46 : decode cX12_opens 46 = .ok (.putfield 161, 3) := by decide +kernel
theorem dX12_opens_49 : decode cX12_opens 49 = .ok (.iconst 1, 1) := by decide +kernel
theorem dX12_opens_50 : decode cX12_opens 50 = .ok (.ireturn, 1) := by decide +kernel
abbrev Mm_opens : rx_M := (RX12, yX12_opens, cX12_opens, 2, (some .boolean), 2)
theorem km_opens : rKv Mm_opens 1 := ⟨tb_in (i := 20) (j := 10) rfl rfl, tb_in (i := 20) (j := 11) rfl rfl, tb_in (i := 17) (j := 21) rfl rfl, tb_in (i := 19) (j := 7) rfl rfl, ⟨by decide, by decide, by decide +kernel⟩, by decide⟩
def m_opens (x1 : Int32) (z_next : Int32) (z_wrong : Int32) (z_deep : Int32) (z_open : Nat → Int32) (z_opened : Int32) : Option (Int32 × Int32 × Int32 × (Nat → Int32) × Int32) := (if z_deep = (10 : Int32) then (m_fails (2 : Int32) z_next z_wrong).bind (fun q5 => rq (bo q5.1) (some (q5.1, q5.2, z_deep, z_open, z_opened))) else lt (z_deep + (1 : Int32)) (fun y2 => rq (inb z_opened 400) (lt (upd z_open z_opened.toNatClampNeg x1) (fun u3 => lt (z_opened + (1 : Int32)) (fun y4 => some ((1 : Int32), z_wrong, y2, u3, y4))))))
set_option maxRecDepth 20000 in
theorem cm_opens {q : Int32 × Int32 × Int32 × (Nat → Int32) × Int32} {x1 : Int32} (h : m_opens x1 z_next z_wrong z_deep z_open z_opened = some q) : rMet l D Z (ty7 K) Mm_opens [.ref (ad 0), .int x1] (wM K ad z_tape z_taped z_rules z_sign z_length z_clause z_clauses z_read z_next z_wrong z_number z_text z_made z_deep z_lines z_open z_opened z_stack z_top z_word z_said z_force z_x z_absent z_isRaining z_wasSaid z_undone z_kept z_order z_bestOrder z_hasBy z_wealthThen z_isFit z_tillThen z_drawX z_images z_imageForce z_imageX z_isMade) (wM K ad z_tape z_taped z_rules z_sign z_length z_clause z_clauses z_read z_next q.2.1 z_number z_text z_made q.2.2.1 z_lines q.2.2.2.1 q.2.2.2.2 z_stack z_top z_word z_said z_force z_x z_absent z_isRaining z_wasSaid z_undone z_kept z_order z_bestOrder z_hasBy z_wealthThen z_isFit z_tillThen z_drawX z_images z_imageForce z_imageX z_isMade) (some (.int q.1)) := by
  refine rMet.of (by decide) rfl (Nat.le_of_ble_eq_true rfl) ?_
  refine r_sub (lv' := [(0, .ref (ad 0)), (1, .int x1)]) [0, 1] rfl ?_
  unfold m_opens at h
  refine r_aload_n 0 dX12_opens_0 rfl ?_
  refine gM_deep rfl dX12_opens_1 ?_
  refine r_bipush (x := (10 : Int32)) dX12_opens_4 (by decide) ?_
  refine r_icmp_ne 19 dX12_opens_6 (by decide) (fun c1 => ?_) (fun c1 => ?_)
  · replace h := it_neg c1 h
    refine r_aload_n 0 dX12_opens_19 rfl ?_
    refine r_dup dX12_opens_20 rfl ?_
    refine gM_deep rfl dX12_opens_21 ?_
    refine r_iconst (x := (1 : Int32)) dX12_opens_24 (by decide) ?_
    refine r_iadd dX12_opens_25 ?_
    obtain ⟨y2, e2, h⟩ := lt_some h
    refine r_top e2 ?_
    refine pM_deep rfl dX12_opens_26 ?_
    refine r_aload_n 0 dX12_opens_29 rfl ?_
    refine gM_open rfl dX12_opens_30 ?_
    refine r_aload_n 0 dX12_opens_33 rfl ?_
    refine gM_opened rfl dX12_opens_34 ?_
    refine r_iload_n 1 dX12_opens_37 rfl ?_
    obtain ⟨h3, h⟩ := rq_some h
    obtain ⟨u3, e3, h⟩ := lt_some h
    refine sM_open e3 (inb_in h3) dX12_opens_38 ?_
    refine r_aload_n 0 dX12_opens_39 rfl ?_
    refine r_dup dX12_opens_40 rfl ?_
    refine gM_opened rfl dX12_opens_41 ?_
    refine r_iconst (x := (1 : Int32)) dX12_opens_44 (by decide) ?_
    refine r_iadd dX12_opens_45 ?_
    obtain ⟨y4, e4, h⟩ := lt_some h
    refine r_top e4 ?_
    refine pM_opened rfl dX12_opens_46 ?_
    refine r_iconst (x := (1 : Int32)) dX12_opens_49 (by decide) ?_
    have hq := Option.some.inj h
    subst hq
    exact r_zret (ty := .boolean) rfl rfl dX12_opens_50
  · replace h := it_pos c1 h
    refine r_aload_n 0 dX12_opens_9 rfl ?_
    refine r_iconst (x := (2 : Int32)) dX12_opens_10 (by decide) ?_
    refine r_aload_n 0 dX12_opens_11 rfl ?_
    refine gM_next rfl dX12_opens_12 ?_
    obtain ⟨q5, h5, h⟩ := bd_some h
    refine cvM (st := []) (cm_fails h5) rfl rfl (Nat.le_of_ble_eq_true rfl) km_fails (tb_in (i := 18) (j := 17) rfl rfl) (by decide) rfl dX12_opens_15 ?_
    obtain ⟨h6, h⟩ := rq_some h
    have hq := Option.some.inj h
    subst hq
    exact r_zret (ty := .boolean) rfl (bo_nar h6) dX12_opens_18
theorem dX12_strength_0 : decode cX12_strength 0 = .ok (.iload_n 0, 1) := by decide +kernel
theorem dX12_strength_1 : decode cX12_strength 1 = .ok (.bipush 13, 2) := by decide +kernel
theorem dX12_strength_3 : decode cX12_strength 3 = .ok (.if_icmp .ne 7, 3) := by decide +kernel
theorem dX12_strength_6 : decode cX12_strength 6 = .ok (.iconst 1, 1) := by decide +kernel
theorem dX12_strength_7 : decode cX12_strength 7 = .ok (.goto 24, 3) := by decide +kernel
theorem dX12_strength_10 : decode cX12_strength 10 = .ok (.iload_n 0, 1) := by decide +kernel
theorem dX12_strength_11 : decode cX12_strength 11 = .ok (.bipush 12, 2) := by decide +kernel
theorem dX12_strength_13 : decode cX12_strength 13 = .ok (.if_icmp .ne 7, 3) := by decide +kernel
theorem dX12_strength_16 : decode cX12_strength 16 = .ok (.iconst 2, 1) := by decide +kernel
theorem dX12_strength_17 : decode cX12_strength 17 = .ok (.goto 14, 3) := by decide +kernel
theorem dX12_strength_20 : decode cX12_strength 20 = .ok (.iload_n 0, 1) := by decide +kernel
theorem dX12_strength_21 : decode cX12_strength 21 = .ok (.bipush 11, 2) := by decide +kernel
theorem dX12_strength_23 : decode cX12_strength 23 = .ok (.if_icmp .ne 7, 3) := by decide +kernel
theorem dX12_strength_26 : decode cX12_strength 26 = .ok (.iconst 3, 1) := by decide +kernel
theorem dX12_strength_27 : decode cX12_strength 27 = .ok (.goto 4, 3) := by decide +kernel
theorem dX12_strength_30 : decode cX12_strength 30 = .ok (.iconst 0, 1) := by decide +kernel
theorem dX12_strength_31 : decode cX12_strength 31 = .ok (.ireturn, 1) := by decide +kernel
abbrev Mm_strength : rx_M := (RX12, yX12_strength, cX12_strength, 1, (some .int), 1)
theorem km_strength : rKs Mm_strength 1 := ⟨tb_in (i := 19) (j := 13) rfl rfl, tb_in (i := 17) (j := 21) rfl rfl, tb_in (i := 19) (j := 10) rfl rfl, ⟨by decide, by decide, by decide +kernel⟩, by decide⟩
def m_strength (x0 : Int32) : Option (Int32) := (if x0 = (13 : Int32) then some ((1 : Int32)) else (if x0 = (12 : Int32) then some ((2 : Int32)) else (if x0 = (11 : Int32) then some ((3 : Int32)) else some ((0 : Int32)))))
set_option maxRecDepth 20000 in
theorem cm_strength {q : Int32} {x0 : Int32} (h : m_strength x0 = some q) : rMet l D Z tys Mm_strength [.int x0] ws ws (some (.int q)) := by
  refine rMet.of (by decide) rfl (Nat.le_of_ble_eq_true rfl) ?_
  refine r_sub (lv' := [(0, .int x0)]) [0] rfl ?_
  unfold m_strength at h
  refine r_iload_n 0 dX12_strength_0 rfl ?_
  refine r_bipush (x := (13 : Int32)) dX12_strength_1 (by decide) ?_
  refine r_icmp_ne 10 dX12_strength_3 (by decide) (fun c1 => ?_) (fun c1 => ?_)
  · replace h := it_neg c1 h
    refine r_iload_n 0 dX12_strength_10 rfl ?_
    refine r_bipush (x := (12 : Int32)) dX12_strength_11 (by decide) ?_
    refine r_icmp_ne 20 dX12_strength_13 (by decide) (fun c2 => ?_) (fun c2 => ?_)
    · replace h := it_neg c2 h
      refine r_iload_n 0 dX12_strength_20 rfl ?_
      refine r_bipush (x := (11 : Int32)) dX12_strength_21 (by decide) ?_
      refine r_icmp_ne 30 dX12_strength_23 (by decide) (fun c3 => ?_) (fun c3 => ?_)
      · replace h := it_neg c3 h
        refine r_iconst (x := (0 : Int32)) dX12_strength_30 (by decide) ?_
        have hq := Option.some.inj h
        subst hq
        exact r_iret rfl dX12_strength_31
      · replace h := it_pos c3 h
        refine r_iconst (x := (3 : Int32)) dX12_strength_26 (by decide) ?_
        refine r_goto 31 dX12_strength_27 (by decide) ?_
        have hq := Option.some.inj h
        subst hq
        exact r_iret rfl dX12_strength_31
    · replace h := it_pos c2 h
      refine r_iconst (x := (2 : Int32)) dX12_strength_16 (by decide) ?_
      refine r_goto 31 dX12_strength_17 (by decide) ?_
      have hq := Option.some.inj h
      subst hq
      exact r_iret rfl dX12_strength_31
  · replace h := it_pos c1 h
    refine r_iconst (x := (1 : Int32)) dX12_strength_6 (by decide) ?_
    refine r_goto 31 dX12_strength_7 (by decide) ?_
    have hq := Option.some.inj h
    subst hq
    exact r_iret rfl dX12_strength_31
theorem dX12_layDown_0 : decode cX12_layDown 0 = .ok (.aload_n 0, 1) := by decide +kernel
theorem dX12_layDown_1 : decode cX12_layDown 1 = .ok (.getfield 161, 3) := by decide +kernel
theorem dX12_layDown_4 : decode cX12_layDown 4 = .ok (.ifCond .le 72, 3) := by decide +kernel
theorem dX12_layDown_7 : decode cX12_layDown 7 = .ok (.aload_n 0, 1) := by decide +kernel
theorem dX12_layDown_8 : decode cX12_layDown 8 = .ok (.getfield 29, 3) := by decide +kernel
theorem dX12_layDown_11 : decode cX12_layDown 11 = .ok (.aload_n 0, 1) := by decide +kernel
theorem dX12_layDown_12 : decode cX12_layDown 12 = .ok (.getfield 161, 3) := by decide +kernel
theorem dX12_layDown_15 : decode cX12_layDown 15 = .ok (.iconst 1, 1) := by decide +kernel
theorem dX12_layDown_16 : decode cX12_layDown 16 = .ok (.isub, 1) := by decide +kernel
theorem dX12_layDown_17 : decode cX12_layDown 17 = .ok (.iaload, 1) := by decide +kernel
theorem dX12_layDown_18 : decode cX12_layDown 18 = .ok (.invokestatic 164, 3) := by decide +kernel
theorem dX12_layDown_21 : decode cX12_layDown 21 = .ok (.iload_n 1, 1) := by decide +kernel
theorem dX12_layDown_22 : decode cX12_layDown 22 = .ok (.if_icmp .lt 54, 3) := by decide +kernel
theorem dX12_layDown_25 : decode cX12_layDown 25 = .ok (.aload_n 0, 1) := by decide +kernel
theorem dX12_layDown_26 : decode cX12_layDown 26 = .ok (.dup, 1) := by decide +kernel
theorem dX12_layDown_27 : decode cX12_layDown 27 = .ok (.getfield 161, 3) := by decide +kernel
theorem dX12_layDown_30 : decode cX12_layDown 30 = .ok (.iconst 1, 1) := by decide +kernel
theorem dX12_layDown_31 : decode cX12_layDown 31 = .ok (.isub, 1) := by decide +kernel
theorem dX12_layDown_32 : decode cX12_layDown 32 = .ok (.putfield 161, 3) := by decide +kernel
theorem dX12_layDown_35 : decode cX12_layDown 35 = .ok (.aload_n 0, 1) := by decide +kernel
theorem dX12_layDown_36 : decode cX12_layDown 36 = .ok (.aload_n 0, 1) := by decide +kernel
theorem dX12_layDown_37 : decode cX12_layDown 37 = .ok (.getfield 29, 3) := by decide +kernel
theorem dX12_layDown_40 : decode cX12_layDown 40 = .ok (.aload_n 0, 1) := by decide +kernel
theorem dX12_layDown_41 : decode cX12_layDown 41 = .ok (.getfield 161, 3) := by decide +kernel
theorem dX12_layDown_44 : decode cX12_layDown 44 = .ok (.iaload, 1) := by decide +kernel
theorem dX12_layDown_45 : decode cX12_layDown 45 = .ok (.iconst 0, 1) := by decide +kernel
theorem dX12_layDown_46 : decode cX12_layDown 46 = .ok (.invokevirtual 168, 3) := by decide +kernel
theorem dX12_layDown_49 : decode cX12_layDown 49 = .ok (.aload_n 0, 1) := by decide +kernel
theorem dX12_layDown_50 : decode cX12_layDown 50 = .ok (.getfield 29, 3) := by decide +kernel
theorem dX12_layDown_53 : decode cX12_layDown 53 = .ok (.aload_n 0, 1) := by decide +kernel
theorem dX12_layDown_54 : decode cX12_layDown 54 = .ok (.getfield 161, 3) := by decide +kernel
theorem dX12_layDown_57 : decode cX12_layDown 57 = .ok (.iaload, 1) := by decide +kernel
theorem dX12_layDown_58 : decode cX12_layDown 58 = .ok (.bipush 11, 2) := by decide +kernel
theorem dX12_layDown_60 : decode cX12_layDown 60 = .ok (.if_icmp .ne (-60), 3) := by decide +kernel
theorem dX12_layDown_63 : decode cX12_layDown 63 = .ok (.aload_n 0, 1) := by decide +kernel
theorem dX12_layDown_64 : decode cX12_layDown 64 = .ok (.dup, 1) := by decide +kernel
theorem dX12_layDown_65 : decode cX12_layDown 65 = .ok (.getfield 158, 3) := by decide +kernel
theorem dX12_layDown_68 : decode cX12_layDown 68 = .ok (.iconst 1, 1) := by decide +kernel
theorem dX12_layDown_69 : decode cX12_layDown 69 = .ok (.isub, 1) := by decide +kernel
theorem dX12_layDown_70 : decode cX12_layDown 70 = .ok (.putfield 158, 3) := by decide +kernel
theorem dX12_layDown_73 : decode cX12_layDown 73 = .ok (.goto (-73), 3) := by decide +kernel
theorem dX12_layDown_76 : decode cX12_layDown 76 = .ok (.return_, 1) := by decide +kernel
abbrev Mm_layDown : rx_M := (RX12, yX12_layDown, cX12_layDown, 2, none, 2)
theorem km_layDown : rKv Mm_layDown 1 := ⟨tb_in (i := 20) (j := 18) rfl rfl, tb_in (i := 20) (j := 19) rfl rfl, tb_in (i := 17) (j := 21) rfl rfl, tb_in (i := 19) (j := 11) rfl rfl, ⟨by decide, by decide, by decide +kernel⟩, by decide⟩
def m_layDown_l0 (z_text : Int32) (z_open : Nat → Int32) (x1 : Int32) : Nat → (Nat → Int32) → (Nat → Int32) → Int32 → Int32 → Option ((Nat → Int32) × (Nat → Int32) × Int32 × Int32)
  | 0, _, _, _, _ => none
  | n + 1, z_sign, z_length, z_deep, z_opened => (if z_opened ≤ 0 then some (z_sign, z_length, z_deep, z_opened) else rq (inb (z_opened - (1 : Int32)) 400) ((m_strength (z_open (z_opened - (1 : Int32)).toNatClampNeg)).bind (fun q3 => (if q3 < x1 then some (z_sign, z_length, z_deep, z_opened) else lt (z_opened - (1 : Int32)) (fun y5 => rq (inb y5 400) ((m_puts (z_open y5.toNatClampNeg) (0 : Int32) z_sign z_length z_text).bind (fun q7 => rq (inb y5 400) ((if (z_open y5.toNatClampNeg) = (11 : Int32) then lt (z_deep - (1 : Int32)) (fun y10 => m_layDown_l0 z_text z_open x1 n q7.1 q7.2 y10 y5) else m_layDown_l0 z_text z_open x1 n q7.1 q7.2 z_deep y5)))))))))
set_option maxRecDepth 20000 in
theorem cm_layDown_l0 {q : (Nat → Int32) × (Nat → Int32) × Int32 × Int32} {x1 : Int32}  : ∀ (n : Nat) (z_sign : Nat → Int32) (z_length : Nat → Int32) (z_deep : Int32) (z_opened : Int32), m_layDown_l0 z_text z_open x1 n z_sign z_length z_deep z_opened = some q → rW l D Z (ty7 K) Mm_layDown 0 [(0, .ref (ad 0)), (1, .int x1)] [] (wM K ad z_tape z_taped z_rules z_sign z_length z_clause z_clauses z_read z_next z_wrong z_number z_text z_made z_deep z_lines z_open z_opened z_stack z_top z_word z_said z_force z_x z_absent z_isRaining z_wasSaid z_undone z_kept z_order z_bestOrder z_hasBy z_wealthThen z_isFit z_tillThen z_drawX z_images z_imageForce z_imageX z_isMade) (wM K ad z_tape z_taped z_rules q.1 q.2.1 z_clause z_clauses z_read z_next z_wrong z_number z_text z_made q.2.2.1 z_lines z_open q.2.2.2 z_stack z_top z_word z_said z_force z_x z_absent z_isRaining z_wasSaid z_undone z_kept z_order z_bestOrder z_hasBy z_wealthThen z_isFit z_tillThen z_drawX z_images z_imageForce z_imageX z_isMade) none := by
  intro n
  induction n with
  | zero => intro z_sign z_length z_deep z_opened h; unfold m_layDown_l0 at h; cases h
  | succ n ih =>
    intro z_sign z_length z_deep z_opened h
    unfold m_layDown_l0 at h
    refine r_aload_n 0 dX12_layDown_0 rfl ?_
    refine gM_opened rfl dX12_layDown_1 ?_
    refine r_if_le 76 dX12_layDown_4 (by decide) (fun c1 => ?_) (fun c1 => ?_)
    · replace h := it_pos c1 h
      have hq := Option.some.inj h
      subst hq
      exact r_vret rfl dX12_layDown_76
    · replace h := it_neg c1 h
      refine r_aload_n 0 dX12_layDown_7 rfl ?_
      refine gM_open rfl dX12_layDown_8 ?_
      refine r_aload_n 0 dX12_layDown_11 rfl ?_
      refine gM_opened rfl dX12_layDown_12 ?_
      refine r_iconst (x := (1 : Int32)) dX12_layDown_15 (by decide) ?_
      refine r_isub dX12_layDown_16 ?_
      obtain ⟨h2, h⟩ := rq_some h
      refine lM_open (inb_in h2) dX12_layDown_17 ?_
      obtain ⟨q3, h3, h⟩ := bd_some h
      refine r_callS (st := []) (cm_strength h3) rfl rfl (Nat.le_of_ble_eq_true rfl) km_strength (tb_in (i := 19) (j := 12) rfl rfl) (by decide) dX12_layDown_18 ?_
      refine r_iload_n 1 dX12_layDown_21 rfl ?_
      refine r_icmp_lt 76 dX12_layDown_22 (by decide) (fun c4 => ?_) (fun c4 => ?_)
      · replace h := it_pos c4 h
        have hq := Option.some.inj h
        subst hq
        exact r_vret rfl dX12_layDown_76
      · replace h := it_neg c4 h
        refine r_aload_n 0 dX12_layDown_25 rfl ?_
        refine r_dup dX12_layDown_26 rfl ?_
        refine gM_opened rfl dX12_layDown_27 ?_
        refine r_iconst (x := (1 : Int32)) dX12_layDown_30 (by decide) ?_
        refine r_isub dX12_layDown_31 ?_
        obtain ⟨y5, e5, h⟩ := lt_some h
        refine r_top e5 ?_
        refine pM_opened rfl dX12_layDown_32 ?_
        refine r_aload_n 0 dX12_layDown_35 rfl ?_
        refine r_aload_n 0 dX12_layDown_36 rfl ?_
        refine gM_open rfl dX12_layDown_37 ?_
        refine r_aload_n 0 dX12_layDown_40 rfl ?_
        refine gM_opened rfl dX12_layDown_41 ?_
        obtain ⟨h6, h⟩ := rq_some h
        refine lM_open (inb_in h6) dX12_layDown_44 ?_
        refine r_iconst (x := (0 : Int32)) dX12_layDown_45 (by decide) ?_
        obtain ⟨q7, h7, h⟩ := bd_some h
        refine cvM (st := []) (cm_puts h7) rfl rfl (Nat.le_of_ble_eq_true rfl) km_puts (tb_in (i := 19) (j := 14) rfl rfl) (by decide) rfl dX12_layDown_46 ?_
        refine r_aload_n 0 dX12_layDown_49 rfl ?_
        refine gM_open rfl dX12_layDown_50 ?_
        refine r_aload_n 0 dX12_layDown_53 rfl ?_
        refine gM_opened rfl dX12_layDown_54 ?_
        obtain ⟨h8, h⟩ := rq_some h
        refine lM_open (inb_in h8) dX12_layDown_57 ?_
        refine r_bipush (x := (11 : Int32)) dX12_layDown_58 (by decide) ?_
        refine r_icmp_ne 0 dX12_layDown_60 (by decide) (fun c9 => ?_) (fun c9 => ?_)
        · replace h := it_neg c9 h
          exact ih _ _ _ _ h
        · replace h := it_pos c9 h
          refine r_aload_n 0 dX12_layDown_63 rfl ?_
          refine r_dup dX12_layDown_64 rfl ?_
          refine gM_deep rfl dX12_layDown_65 ?_
          refine r_iconst (x := (1 : Int32)) dX12_layDown_68 (by decide) ?_
          refine r_isub dX12_layDown_69 ?_
          obtain ⟨y10, e10, h⟩ := lt_some h
          refine r_top e10 ?_
          refine pM_deep rfl dX12_layDown_70 ?_
          refine r_goto 0 dX12_layDown_73 (by decide) ?_
          exact ih _ _ _ _ h
def m_layDown (x1 : Int32) (z_sign : Nat → Int32) (z_length : Nat → Int32) (z_text : Int32) (z_deep : Int32) (z_open : Nat → Int32) (z_opened : Int32) : Option ((Nat → Int32) × (Nat → Int32) × Int32 × Int32) := m_layDown_l0 z_text z_open x1 FU z_sign z_length z_deep z_opened
set_option maxRecDepth 20000 in
theorem cm_layDown {q : (Nat → Int32) × (Nat → Int32) × Int32 × Int32} {x1 : Int32} (h : m_layDown x1 z_sign z_length z_text z_deep z_open z_opened = some q) : rMet l D Z (ty7 K) Mm_layDown [.ref (ad 0), .int x1] (wM K ad z_tape z_taped z_rules z_sign z_length z_clause z_clauses z_read z_next z_wrong z_number z_text z_made z_deep z_lines z_open z_opened z_stack z_top z_word z_said z_force z_x z_absent z_isRaining z_wasSaid z_undone z_kept z_order z_bestOrder z_hasBy z_wealthThen z_isFit z_tillThen z_drawX z_images z_imageForce z_imageX z_isMade) (wM K ad z_tape z_taped z_rules q.1 q.2.1 z_clause z_clauses z_read z_next z_wrong z_number z_text z_made q.2.2.1 z_lines z_open q.2.2.2 z_stack z_top z_word z_said z_force z_x z_absent z_isRaining z_wasSaid z_undone z_kept z_order z_bestOrder z_hasBy z_wealthThen z_isFit z_tillThen z_drawX z_images z_imageForce z_imageX z_isMade) none := by
  refine rMet.of (by decide) rfl (Nat.le_of_ble_eq_true rfl) ?_
  refine r_sub (lv' := [(0, .ref (ad 0)), (1, .int x1)]) [0, 1] rfl ?_
  unfold m_layDown at h
  exact cm_layDown_l0  FU _ _ _ _ h
theorem dX12_value_0 : decode cX12_value 0 = .ok (.aload_n 0, 1) := by decide +kernel
theorem dX12_value_1 : decode cX12_value 1 = .ok (.invokevirtual 99, 3) := by decide +kernel
theorem dX12_value_4 : decode cX12_value 4 = .ok (.pop, 1) := by decide +kernel
theorem dX12_value_5 : decode cX12_value 5 = .ok (.aload_n 0, 1) := by decide +kernel
theorem dX12_value_6 : decode cX12_value 6 = .ok (.getfield 96, 3) := by decide +kernel
theorem dX12_value_9 : decode cX12_value 9 = .ok (.istore_n 1, 1) := by decide +kernel
theorem dX12_value_10 : decode cX12_value 10 = .ok (.aload_n 0, 1) := by decide +kernel
theorem dX12_value_11 : decode cX12_value 11 = .ok (.aload_n 0, 1) := by decide +kernel
theorem dX12_value_12 : decode cX12_value 12 = .ok (.getfield 96, 3) := by decide +kernel
theorem dX12_value_15 : decode cX12_value 15 = .ok (.invokevirtual 114, 3) := by decide +kernel
theorem dX12_value_18 : decode cX12_value 18 = .ok (.ifCond .eq 34, 3) := by decide +kernel
theorem dX12_value_21 : decode cX12_value 21 = .ok (.aload_n 0, 1) := by decide +kernel
theorem dX12_value_22 : decode cX12_value 22 = .ok (.iconst 0, 1) := by decide +kernel
theorem dX12_value_23 : decode cX12_value 23 = .ok (.ldc 172, 2) := by decide +kernel
theorem dX12_value_25 : decode cX12_value 25 = .ok (.invokevirtual 173, 3) := by decide +kernel
theorem dX12_value_28 : decode cX12_value 28 = .ok (.ifCond .eq 11, 3) := by decide +kernel
theorem dX12_value_31 : decode cX12_value 31 = .ok (.aload_n 0, 1) := by decide +kernel
theorem dX12_value_32 : decode cX12_value 32 = .ok (.iload_n 1, 1) := by decide +kernel
theorem dX12_value_33 : decode cX12_value 33 = .ok (.invokevirtual 176, 3) := by decide +kernel
theorem dX12_value_36 : decode cX12_value 36 = .ok (.ifCond .ne 5, 3) := by decide +kernel
theorem dX12_value_39 : decode cX12_value 39 = .ok (.iconst 0, 1) := by decide +kernel
theorem dX12_value_40 : decode cX12_value 40 = .ok (.ireturn, 1) := by decide +kernel
theorem dX12_value_41 : decode cX12_value 41 = .ok (.aload_n 0, 1) := by decide +kernel
theorem dX12_value_42 : decode cX12_value 42 = .ok (.iconst 0, 1) := by decide +kernel
theorem dX12_value_43 : decode cX12_value 43 = .ok (.aload_n 0, 1) := by decide +kernel
theorem dX12_value_44 : decode cX12_value 44 = .ok (.getfield 121, 3) := by decide +kernel
theorem dX12_value_47 : decode cX12_value 47 = .ok (.invokevirtual 168, 3) := by decide +kernel
theorem dX12_value_50 : decode cX12_value 50 = .ok (.iconst 1, 1) := by decide +kernel
theorem dX12_value_51 : decode cX12_value 51 = .ok (.ireturn, 1) := by decide +kernel
theorem dX12_value_52 : decode cX12_value 52 = .ok (.aload_n 0, 1) := by decide +kernel
theorem dX12_value_53 : decode cX12_value 53 = .ok (.invokevirtual 179, 3) := by decide +kernel
theorem dX12_value_56 : decode cX12_value 56 = .ok (.istore_n 2, 1) := by decide +kernel
theorem dX12_value_57 : decode cX12_value 57 = .ok (.iload_n 2, 1) := by decide +kernel
theorem dX12_value_58 : decode cX12_value 58 = .ok (.ifCond .ge 10, 3) := by decide +kernel
theorem dX12_value_61 : decode cX12_value 61 = .ok (.aload_n 0, 1) := by decide +kernel
theorem dX12_value_62 : decode cX12_value 62 = .ok (.iconst 0, 1) := by decide +kernel
theorem dX12_value_63 : decode cX12_value 63 = .ok (.iload_n 1, 1) := by decide +kernel
theorem dX12_value_64 : decode cX12_value 64 = .ok (.invokevirtual 117, 3) := by decide +kernel
theorem dX12_value_67 : decode cX12_value 67 = .ok (.ireturn, 1) := by decide +kernel
theorem dX12_value_68 : decode cX12_value 68 = .ok (.aload_n 0, 1) := by decide +kernel
theorem dX12_value_69 : decode cX12_value 69 = .ok (.iload_n 1, 1) := by decide +kernel
theorem dX12_value_70 : decode cX12_value 70 = .ok (.invokevirtual 176, 3) := by decide +kernel
theorem dX12_value_73 : decode cX12_value 73 = .ok (.ifCond .ne 5, 3) := by decide +kernel
theorem dX12_value_76 : decode cX12_value 76 = .ok (.iconst 0, 1) := by decide +kernel
theorem dX12_value_77 : decode cX12_value 77 = .ok (.ireturn, 1) := by decide +kernel
theorem dX12_value_78 : decode cX12_value 78 = .ok (.aload_n 0, 1) := by decide +kernel
theorem dX12_value_79 : decode cX12_value 79 = .ok (.invokevirtual 111, 3) := by decide +kernel
theorem dX12_value_82 : decode cX12_value 82 = .ok (.aload_n 0, 1) := by decide +kernel
theorem dX12_value_83 : decode cX12_value 83 = .ok (.iconst 1, 1) := by decide +kernel
theorem dX12_value_84 : decode cX12_value 84 = .ok (.iload_n 2, 1) := by decide +kernel
theorem dX12_value_85 : decode cX12_value 85 = .ok (.invokevirtual 168, 3) := by decide +kernel
theorem dX12_value_88 : decode cX12_value 88 = .ok (.iconst 1, 1) := by decide +kernel
theorem dX12_value_89 : decode cX12_value 89 = .ok (.ireturn, 1) := by decide +kernel
abbrev Mm_value : rx_M := (RX12, yX12_value, cX12_value, 3, (some .boolean), 4)
theorem km_value : rKv Mm_value 0 := ⟨tb_in (i := 19) (j := 29) rfl rfl, tb_in (i := 19) (j := 30) rfl rfl, tb_in (i := 17) (j := 21) rfl rfl, tb_in (i := 19) (j := 27) rfl rfl, ⟨by decide, by decide, by decide +kernel⟩, by decide⟩
def m_value (z_tape : Nat → Int32) (z_taped : Int32) (z_sign : Nat → Int32) (z_length : Nat → Int32) (z_next : Int32) (z_wrong : Int32) (z_number : Int32) (z_text : Int32) (z_made : Int32) : Option (Int32 × (Nat → Int32) × (Nat → Int32) × Int32 × Int32 × Int32 × Int32) := (m_see z_tape z_taped z_next).bind (fun q1 => (m_isDigit q1.2 z_tape z_taped).bind (fun q2 => (if q2 = 0 then (m_wordHere z_tape z_taped q1.2).bind (fun q4 => (if 0 ≤ q4.1 then (m_makes q1.2 z_wrong z_made).bind (fun q6 => (if q6.1 = 0 then some ((0 : Int32), z_sign, z_length, q4.2, q6.2.1, z_number, q6.2.2) else (m_passWord z_tape z_taped q4.2).bind (fun q8 => (m_puts (1 : Int32) q4.1 z_sign z_length z_text).bind (fun q9 => some ((1 : Int32), q9.1, q9.2, q8, q6.2.1, z_number, q6.2.2))))) else (m_fails (0 : Int32) q1.2 z_wrong).bind (fun q10 => rq (bo q10.1) (some (q10.1, z_sign, z_length, q4.2, q10.2, z_number, z_made))))) else (m_numberHere (0 : Int32) (99999 : Int32) z_tape z_taped q1.2 z_wrong z_number).bind (fun q12 => (if q12.1 = 0 then some ((0 : Int32), z_sign, z_length, q12.2.1, q12.2.2.1, q12.2.2.2, z_made) else (m_makes q1.2 q12.2.2.1 z_made).bind (fun q14 => (if q14.1 = 0 then some ((0 : Int32), z_sign, z_length, q12.2.1, q14.2.1, q12.2.2.2, q14.2.2) else (m_puts (0 : Int32) q12.2.2.2 z_sign z_length z_text).bind (fun q16 => some ((1 : Int32), q16.1, q16.2, q12.2.1, q14.2.1, q12.2.2.2, q14.2.2)))))))))
set_option maxRecDepth 20000 in
theorem cm_value {q : Int32 × (Nat → Int32) × (Nat → Int32) × Int32 × Int32 × Int32 × Int32}  (h : m_value z_tape z_taped z_sign z_length z_next z_wrong z_number z_text z_made = some q) : rMet l D Z (ty7 K) Mm_value [.ref (ad 0)] (wM K ad z_tape z_taped z_rules z_sign z_length z_clause z_clauses z_read z_next z_wrong z_number z_text z_made z_deep z_lines z_open z_opened z_stack z_top z_word z_said z_force z_x z_absent z_isRaining z_wasSaid z_undone z_kept z_order z_bestOrder z_hasBy z_wealthThen z_isFit z_tillThen z_drawX z_images z_imageForce z_imageX z_isMade) (wM K ad z_tape z_taped z_rules q.2.1 q.2.2.1 z_clause z_clauses z_read q.2.2.2.1 q.2.2.2.2.1 q.2.2.2.2.2.1 z_text q.2.2.2.2.2.2 z_deep z_lines z_open z_opened z_stack z_top z_word z_said z_force z_x z_absent z_isRaining z_wasSaid z_undone z_kept z_order z_bestOrder z_hasBy z_wealthThen z_isFit z_tillThen z_drawX z_images z_imageForce z_imageX z_isMade) (some (.int q.1)) := by
  refine rMet.of (by decide) rfl (Nat.le_of_ble_eq_true rfl) ?_
  refine r_sub (lv' := [(0, .ref (ad 0))]) [0] rfl ?_
  unfold m_value at h
  refine r_aload_n 0 dX12_value_0 rfl ?_
  obtain ⟨q1, h1, h⟩ := bd_some h
  refine cvM (st := []) (cm_see h1) rfl rfl (Nat.le_of_ble_eq_true rfl) km_see (tb_in (i := 17) (j := 30) rfl rfl) (by decide) rfl dX12_value_1 ?_
  refine r_pop dX12_value_4 rfl ?_
  refine r_aload_n 0 dX12_value_5 rfl ?_
  refine gM_next rfl dX12_value_6 ?_
  refine r_istore_n (lv' := [(1, .int q1.2), (0, .ref (ad 0))]) dX12_value_9 (by decide) rfl ?_
  refine r_aload_n 1 dX12_value_10 rfl ?_
  refine r_aload_n 1 dX12_value_11 rfl ?_
  refine gM_next rfl dX12_value_12 ?_
  obtain ⟨q2, h2, h⟩ := bd_some h
  refine cvM (st := []) (cm_isDigit h2) rfl rfl (Nat.le_of_ble_eq_true rfl) km_isDigit (tb_in (i := 18) (j := 14) rfl rfl) (by decide) rfl dX12_value_15 ?_
  refine r_if_eq 52 dX12_value_18 (by decide) (fun c3 => ?_) (fun c3 => ?_)
  · replace h := it_pos c3 h
    refine r_aload_n 1 dX12_value_52 rfl ?_
    obtain ⟨q4, h4, h⟩ := bd_some h
    refine cvM (st := []) (cm_wordHere h4) rfl rfl (Nat.le_of_ble_eq_true rfl) km_wordHere (tb_in (i := 19) (j := 24) rfl rfl) (by decide) rfl dX12_value_53 ?_
    refine r_istore_n (lv' := [(2, .int q4.1), (1, .int q1.2), (0, .ref (ad 0))]) dX12_value_56 (by decide) rfl ?_
    refine r_iload_n 0 dX12_value_57 rfl ?_
    refine r_if_ge 68 dX12_value_58 (by decide) (fun c5 => ?_) (fun c5 => ?_)
    · replace h := it_pos c5 h
      refine r_aload_n 2 dX12_value_68 rfl ?_
      refine r_iload_n 1 dX12_value_69 rfl ?_
      obtain ⟨q6, h6, h⟩ := bd_some h
      refine cvM (st := []) (cm_makes h6) rfl rfl (Nat.le_of_ble_eq_true rfl) km_makes (tb_in (i := 19) (j := 21) rfl rfl) (by decide) rfl dX12_value_70 ?_
      refine r_if_ne 78 dX12_value_73 (by decide) (fun c7 => ?_) (fun c7 => ?_)
      · replace h := it_neg c7 h
        refine r_aload_n 2 dX12_value_78 rfl ?_
        obtain ⟨q8, h8, h⟩ := bd_some h
        refine cvM (st := []) (cm_passWord h8) rfl rfl (Nat.le_of_ble_eq_true rfl) km_passWord (tb_in (i := 18) (j := 9) rfl rfl) (by decide) rfl dX12_value_79 ?_
        refine r_aload_n 2 dX12_value_82 rfl ?_
        refine r_iconst (x := (1 : Int32)) dX12_value_83 (by decide) ?_
        refine r_iload_n 0 dX12_value_84 rfl ?_
        obtain ⟨q9, h9, h⟩ := bd_some h
        refine cvM (st := []) (cm_puts h9) rfl rfl (Nat.le_of_ble_eq_true rfl) km_puts (tb_in (i := 19) (j := 14) rfl rfl) (by decide) rfl dX12_value_85 ?_
        refine r_iconst (x := (1 : Int32)) dX12_value_88 (by decide) ?_
        have hq := Option.some.inj h
        subst hq
        exact r_zret (ty := .boolean) rfl rfl dX12_value_89
      · replace h := it_pos c7 h
        refine r_iconst (x := (0 : Int32)) dX12_value_76 (by decide) ?_
        have hq := Option.some.inj h
        subst hq
        exact r_zret (ty := .boolean) rfl rfl dX12_value_77
    · replace h := it_neg c5 h
      refine r_aload_n 2 dX12_value_61 rfl ?_
      refine r_iconst (x := (0 : Int32)) dX12_value_62 (by decide) ?_
      refine r_iload_n 1 dX12_value_63 rfl ?_
      obtain ⟨q10, h10, h⟩ := bd_some h
      refine cvM (st := []) (cm_fails h10) rfl rfl (Nat.le_of_ble_eq_true rfl) km_fails (tb_in (i := 18) (j := 17) rfl rfl) (by decide) rfl dX12_value_64 ?_
      obtain ⟨h11, h⟩ := rq_some h
      have hq := Option.some.inj h
      subst hq
      exact r_zret (ty := .boolean) rfl (bo_nar h11) dX12_value_67
  · replace h := it_neg c3 h
    refine r_aload_n 1 dX12_value_21 rfl ?_
    refine r_iconst (x := (0 : Int32)) dX12_value_22 (by decide) ?_
    refine r_ldc (x := (99999 : Int32)) (tb_in (i := 19) (j := 17) rfl rfl) dX12_value_23 ?_
    obtain ⟨q12, h12, h⟩ := bd_some h
    refine cvM (st := []) (cm_numberHere h12) rfl rfl (Nat.le_of_ble_eq_true rfl) km_numberHere (tb_in (i := 19) (j := 18) rfl rfl) (by decide) rfl dX12_value_25 ?_
    refine r_if_eq 39 dX12_value_28 (by decide) (fun c13 => ?_) (fun c13 => ?_)
    · replace h := it_pos c13 h
      refine r_iconst (x := (0 : Int32)) dX12_value_39 (by decide) ?_
      have hq := Option.some.inj h
      subst hq
      exact r_zret (ty := .boolean) rfl rfl dX12_value_40
    · replace h := it_neg c13 h
      refine r_aload_n 1 dX12_value_31 rfl ?_
      refine r_iload_n 0 dX12_value_32 rfl ?_
      obtain ⟨q14, h14, h⟩ := bd_some h
      refine cvM (st := []) (cm_makes h14) rfl rfl (Nat.le_of_ble_eq_true rfl) km_makes (tb_in (i := 19) (j := 21) rfl rfl) (by decide) rfl dX12_value_33 ?_
      refine r_if_ne 41 dX12_value_36 (by decide) (fun c15 => ?_) (fun c15 => ?_)
      · replace h := it_neg c15 h
        refine r_aload_n 1 dX12_value_41 rfl ?_
        refine r_iconst (x := (0 : Int32)) dX12_value_42 (by decide) ?_
        refine r_aload_n 1 dX12_value_43 rfl ?_
        refine gM_number rfl dX12_value_44 ?_
        obtain ⟨q16, h16, h⟩ := bd_some h
        refine cvM (st := []) (cm_puts h16) rfl rfl (Nat.le_of_ble_eq_true rfl) km_puts (tb_in (i := 19) (j := 14) rfl rfl) (by decide) rfl dX12_value_47 ?_
        refine r_iconst (x := (1 : Int32)) dX12_value_50 (by decide) ?_
        have hq := Option.some.inj h
        subst hq
        exact r_zret (ty := .boolean) rfl rfl dX12_value_51
      · replace h := it_pos c15 h
        refine r_iconst (x := (0 : Int32)) dX12_value_39 (by decide) ?_
        have hq := Option.some.inj h
        subst hq
        exact r_zret (ty := .boolean) rfl rfl dX12_value_40
theorem dX12_term_0 : decode cX12_term 0 = .ok (.aload_n 0, 1) := by decide +kernel
theorem dX12_term_1 : decode cX12_term 1 = .ok (.invokevirtual 182, 3) := by decide +kernel
theorem dX12_term_4 : decode cX12_term 4 = .ok (.ifCond .ne 5, 3) := by decide +kernel
theorem dX12_term_7 : decode cX12_term 7 = .ok (.iconst 0, 1) := by decide +kernel
theorem dX12_term_8 : decode cX12_term 8 = .ok (.ireturn, 1) := by decide +kernel
theorem dX12_term_9 : decode cX12_term 9 = .ok (.aload_n 0, 1) := by decide +kernel
theorem dX12_term_10 : decode cX12_term 10 = .ok (.invokevirtual 99, 3) := by decide +kernel
theorem dX12_term_13 : decode cX12_term 13 = .ok (.bipush 42, 2) := by decide +kernel
theorem dX12_term_15 : decode cX12_term 15 = .ok (.if_icmp .eq 21, 3) := by decide +kernel
theorem dX12_term_18 : decode cX12_term 18 = .ok (.aload_n 0, 1) := by decide +kernel
theorem dX12_term_19 : decode cX12_term 19 = .ok (.invokevirtual 99, 3) := by decide +kernel
theorem dX12_term_22 : decode cX12_term 22 = .ok (.bipush 47, 2) := by decide +kernel
theorem dX12_term_24 : decode cX12_term 24 = .ok (.if_icmp .eq 12, 3) := by decide +kernel
theorem dX12_term_27 : decode cX12_term 27 = .ok (.aload_n 0, 1) := by decide +kernel
theorem dX12_term_28 : decode cX12_term 28 = .ok (.invokevirtual 99, 3) := by decide +kernel
theorem dX12_term_31 : decode cX12_term 31 = .ok (.bipush 37, 2) := by decide +kernel
theorem dX12_term_33 : decode cX12_term 33 = .ok (.if_icmp .ne 70, 3) := by decide +kernel
theorem dX12_term_36 : decode cX12_term 36 = .ok (.aload_n 0, 1) := by decide +kernel
theorem dX12_term_37 : decode cX12_term 37 = .ok (.getfield 7, 3) := by decide +kernel
theorem dX12_term_40 : decode cX12_term 40 = .ok (.aload_n 0, 1) := by decide +kernel
theorem dX12_term_41 : decode cX12_term 41 = .ok (.getfield 96, 3) := by decide +kernel
theorem dX12_term_44 : decode cX12_term 44 = .ok (.baload, 1) := by decide +kernel
theorem dX12_term_45 : decode cX12_term 45 = .ok (.bipush 42, 2) := by decide +kernel
theorem dX12_term_47 : decode cX12_term 47 = .ok (.if_icmp .ne 7, 3) := by decide +kernel
theorem dX12_term_50 : decode cX12_term 50 = .ok (.iconst 4, 1) := by decide +kernel
theorem dX12_term_51 : decode cX12_term 51 = .ok (.goto 23, 3) := by decide +kernel
theorem dX12_term_54 : decode cX12_term 54 = .ok (.aload_n 0, 1) := by decide +kernel
theorem dX12_term_55 : decode cX12_term 55 = .ok (.getfield 7, 3) := by decide +kernel
theorem dX12_term_58 : decode cX12_term 58 = .ok (.aload_n 0, 1) := by decide +kernel
theorem dX12_term_59 : decode cX12_term 59 = .ok (.getfield 96, 3) := by decide +kernel
theorem dX12_term_62 : decode cX12_term 62 = .ok (.baload, 1) := by decide +kernel
theorem dX12_term_63 : decode cX12_term 63 = .ok (.bipush 47, 2) := by decide +kernel
theorem dX12_term_65 : decode cX12_term 65 = .ok (.if_icmp .ne 7, 3) := by decide +kernel
theorem dX12_term_68 : decode cX12_term 68 = .ok (.iconst 5, 1) := by decide +kernel
theorem dX12_term_69 : decode cX12_term 69 = .ok (.goto 5, 3) := by decide +kernel
theorem dX12_term_72 : decode cX12_term 72 = .ok (.bipush 14, 2) := by decide +kernel
theorem dX12_term_74 : decode cX12_term 74 = .ok (.istore_n 1, 1) := by decide +kernel
theorem dX12_term_75 : decode cX12_term 75 = .ok (.aload_n 0, 1) := by decide +kernel
theorem dX12_term_76 : decode cX12_term 76 = .ok (.dup, 1) := by decide +kernel
theorem dX12_term_77 : decode cX12_term 77 = .ok (.getfield 96, 3) := by decide +kernel
theorem dX12_term_80 : decode cX12_term 80 = .ok (.iconst 1, 1) := by decide +kernel
theorem dX12_term_81 : decode cX12_term 81 = .ok (.iadd, 1) := by decide +kernel
theorem dX12_term_82 : decode cX12_term 82 = .ok (.putfield 96, 3) := by decide +kernel
theorem dX12_term_85 : decode cX12_term 85 = .ok (.aload_n 0, 1) := by decide +kernel
theorem dX12_term_86 : decode cX12_term 86 = .ok (.invokevirtual 182, 3) := by decide +kernel
theorem dX12_term_89 : decode cX12_term 89 = .ok (.ifCond .ne 5, 3) := by decide +kernel
theorem dX12_term_92 : decode cX12_term 92 = .ok (.iconst 0, 1) := by decide +kernel
theorem dX12_term_93 : decode cX12_term 93 = .ok (.ireturn, 1) := by decide +kernel
theorem dX12_term_94 : decode cX12_term 94 = .ok (.aload_n 0, 1) := by decide +kernel
theorem dX12_term_95 : decode cX12_term 95 = .ok (.iload_n 1, 1) := by decide +kernel
theorem dX12_term_96 : decode cX12_term 96 = .ok (.iconst 0, 1) := by decide +kernel
theorem dX12_term_97 : decode cX12_term 97 = .ok (.invokevirtual 168, 3) := by decide +kernel
theorem dX12_term_100 : decode cX12_term 100 = .ok (.goto (-91), 3) := by decide +kernel
theorem dX12_term_103 : decode cX12_term 103 = .ok (.iconst 1, 1) := by decide +kernel
theorem dX12_term_104 : decode cX12_term 104 = .ok (.ireturn, 1) := by decide +kernel
abbrev Mm_term : rx_M := (RX12, yX12_term, cX12_term, 2, (some .boolean), 5)
theorem km_term : rKv Mm_term 0 := ⟨tb_in (i := 20) (j := 1) rfl rfl, tb_in (i := 20) (j := 2) rfl rfl, tb_in (i := 17) (j := 21) rfl rfl, tb_in (i := 19) (j := 31) rfl rfl, ⟨by decide, by decide, by decide +kernel⟩, by decide⟩
def m_term_j36 (k9 : (Nat → Int32) → (Nat → Int32) → Int32 → Int32 → Int32 → Int32 → Option (Int32 × (Nat → Int32) × (Nat → Int32) × Int32 × Int32 × Int32 × Int32)) (z_tape : Nat → Int32) (z_taped : Int32) (z_sign : Nat → Int32) (z_length : Nat → Int32) (z_next : Int32) (z_wrong : Int32) (z_number : Int32) (z_text : Int32) (z_made : Int32) : Option (Int32 × (Nat → Int32) × (Nat → Int32) × Int32 × Int32 × Int32 × Int32) := rq (inb z_next 400) ((if (z_tape z_next.toNatClampNeg) = (42 : Int32) then lt (z_next + (1 : Int32)) (fun y17 => (m_value z_tape z_taped z_sign z_length y17 z_wrong z_number z_text z_made).bind (fun q18 => (if q18.1 = 0 then some ((0 : Int32), q18.2.1, q18.2.2.1, q18.2.2.2.1, q18.2.2.2.2.1, q18.2.2.2.2.2.1, q18.2.2.2.2.2.2) else (m_puts (4 : Int32) (0 : Int32) q18.2.1 q18.2.2.1 z_text).bind (fun q20 => k9 q20.1 q20.2 q18.2.2.2.1 q18.2.2.2.2.1 q18.2.2.2.2.2.1 q18.2.2.2.2.2.2)))) else rq (inb z_next 400) ((if (z_tape z_next.toNatClampNeg) = (47 : Int32) then lt (z_next + (1 : Int32)) (fun y13 => (m_value z_tape z_taped z_sign z_length y13 z_wrong z_number z_text z_made).bind (fun q14 => (if q14.1 = 0 then some ((0 : Int32), q14.2.1, q14.2.2.1, q14.2.2.2.1, q14.2.2.2.2.1, q14.2.2.2.2.2.1, q14.2.2.2.2.2.2) else (m_puts (5 : Int32) (0 : Int32) q14.2.1 q14.2.2.1 z_text).bind (fun q16 => k9 q16.1 q16.2 q14.2.2.2.1 q14.2.2.2.2.1 q14.2.2.2.2.2.1 q14.2.2.2.2.2.2)))) else lt (z_next + (1 : Int32)) (fun y9 => (m_value z_tape z_taped z_sign z_length y9 z_wrong z_number z_text z_made).bind (fun q10 => (if q10.1 = 0 then some ((0 : Int32), q10.2.1, q10.2.2.1, q10.2.2.2.1, q10.2.2.2.2.1, q10.2.2.2.2.2.1, q10.2.2.2.2.2.2) else (m_puts (14 : Int32) (0 : Int32) q10.2.1 q10.2.2.1 z_text).bind (fun q12 => k9 q12.1 q12.2 q10.2.2.2.1 q10.2.2.2.2.1 q10.2.2.2.2.2.1 q10.2.2.2.2.2.2))))))))
set_option maxRecDepth 20000 in
theorem cm_term_j36 {q : Int32 × (Nat → Int32) × (Nat → Int32) × Int32 × Int32 × Int32 × Int32}  {k9 : (Nat → Int32) → (Nat → Int32) → Int32 → Int32 → Int32 → Int32 → Option (Int32 × (Nat → Int32) × (Nat → Int32) × Int32 × Int32 × Int32 × Int32)} (hk9 : ∀ (z_sign : Nat → Int32) (z_length : Nat → Int32) (z_next : Int32) (z_wrong : Int32) (z_number : Int32) (z_made : Int32), k9 z_sign z_length z_next z_wrong z_number z_made = some q → rW l D Z (ty7 K) Mm_term 9 [(0, .ref (ad 0))] [] (wM K ad z_tape z_taped z_rules z_sign z_length z_clause z_clauses z_read z_next z_wrong z_number z_text z_made z_deep z_lines z_open z_opened z_stack z_top z_word z_said z_force z_x z_absent z_isRaining z_wasSaid z_undone z_kept z_order z_bestOrder z_hasBy z_wealthThen z_isFit z_tillThen z_drawX z_images z_imageForce z_imageX z_isMade) (wM K ad z_tape z_taped z_rules q.2.1 q.2.2.1 z_clause z_clauses z_read q.2.2.2.1 q.2.2.2.2.1 q.2.2.2.2.2.1 z_text q.2.2.2.2.2.2 z_deep z_lines z_open z_opened z_stack z_top z_word z_said z_force z_x z_absent z_isRaining z_wasSaid z_undone z_kept z_order z_bestOrder z_hasBy z_wealthThen z_isFit z_tillThen z_drawX z_images z_imageForce z_imageX z_isMade) (some (.int q.1))) (h : m_term_j36 k9 z_tape z_taped z_sign z_length z_next z_wrong z_number z_text z_made = some q) : rW l D Z (ty7 K) Mm_term 36 [(0, .ref (ad 0))] [] (wM K ad z_tape z_taped z_rules z_sign z_length z_clause z_clauses z_read z_next z_wrong z_number z_text z_made z_deep z_lines z_open z_opened z_stack z_top z_word z_said z_force z_x z_absent z_isRaining z_wasSaid z_undone z_kept z_order z_bestOrder z_hasBy z_wealthThen z_isFit z_tillThen z_drawX z_images z_imageForce z_imageX z_isMade) (wM K ad z_tape z_taped z_rules q.2.1 q.2.2.1 z_clause z_clauses z_read q.2.2.2.1 q.2.2.2.2.1 q.2.2.2.2.2.1 z_text q.2.2.2.2.2.2 z_deep z_lines z_open z_opened z_stack z_top z_word z_said z_force z_x z_absent z_isRaining z_wasSaid z_undone z_kept z_order z_bestOrder z_hasBy z_wealthThen z_isFit z_tillThen z_drawX z_images z_imageForce z_imageX z_isMade) (some (.int q.1)) := by
  unfold m_term_j36 at h
  refine r_aload_n 0 dX12_term_36 rfl ?_
  refine gM_tape rfl dX12_term_37 ?_
  refine r_aload_n 0 dX12_term_40 rfl ?_
  refine gM_next rfl dX12_term_41 ?_
  obtain ⟨h5, h⟩ := rq_some h
  refine lM_tape (inb_in h5) dX12_term_44 ?_
  refine r_bipush (x := (42 : Int32)) dX12_term_45 (by decide) ?_
  refine r_icmp_ne 54 dX12_term_47 (by decide) (fun c6 => ?_) (fun c6 => ?_)
  · replace h := it_neg c6 h
    refine r_aload_n 0 dX12_term_54 rfl ?_
    refine gM_tape rfl dX12_term_55 ?_
    refine r_aload_n 0 dX12_term_58 rfl ?_
    refine gM_next rfl dX12_term_59 ?_
    obtain ⟨h7, h⟩ := rq_some h
    refine lM_tape (inb_in h7) dX12_term_62 ?_
    refine r_bipush (x := (47 : Int32)) dX12_term_63 (by decide) ?_
    refine r_icmp_ne 72 dX12_term_65 (by decide) (fun c8 => ?_) (fun c8 => ?_)
    · replace h := it_neg c8 h
      refine r_bipush (x := (14 : Int32)) dX12_term_72 (by decide) ?_
      refine r_istore_n (lv' := [(1, .int (14 : Int32)), (0, .ref (ad 0))]) dX12_term_74 (by decide) rfl ?_
      refine r_aload_n 1 dX12_term_75 rfl ?_
      refine r_dup dX12_term_76 rfl ?_
      refine gM_next rfl dX12_term_77 ?_
      refine r_iconst (x := (1 : Int32)) dX12_term_80 (by decide) ?_
      refine r_iadd dX12_term_81 ?_
      obtain ⟨y9, e9, h⟩ := lt_some h
      refine r_top e9 ?_
      refine pM_next rfl dX12_term_82 ?_
      refine r_aload_n 1 dX12_term_85 rfl ?_
      obtain ⟨q10, h10, h⟩ := bd_some h
      refine cvM (st := []) (cm_value h10) rfl rfl (Nat.le_of_ble_eq_true rfl) km_value (tb_in (i := 19) (j := 28) rfl rfl) (by decide) rfl dX12_term_86 ?_
      refine r_if_ne 94 dX12_term_89 (by decide) (fun c11 => ?_) (fun c11 => ?_)
      · replace h := it_neg c11 h
        refine r_aload_n 1 dX12_term_94 rfl ?_
        refine r_iload_n 0 dX12_term_95 rfl ?_
        refine r_iconst (x := (0 : Int32)) dX12_term_96 (by decide) ?_
        obtain ⟨q12, h12, h⟩ := bd_some h
        refine cvM (st := []) (cm_puts h12) rfl rfl (Nat.le_of_ble_eq_true rfl) km_puts (tb_in (i := 19) (j := 14) rfl rfl) (by decide) rfl dX12_term_97 ?_
        refine r_goto 9 dX12_term_100 (by decide) ?_
        refine r_sub (lv' := [(0, .ref (ad 0))]) [1] rfl ?_
        exact hk9 _ _ _ _ _ _ h
      · replace h := it_pos c11 h
        refine r_iconst (x := (0 : Int32)) dX12_term_92 (by decide) ?_
        have hq := Option.some.inj h
        subst hq
        exact r_zret (ty := .boolean) rfl rfl dX12_term_93
    · replace h := it_pos c8 h
      refine r_iconst (x := (5 : Int32)) dX12_term_68 (by decide) ?_
      refine r_goto 74 dX12_term_69 (by decide) ?_
      refine r_istore_n (lv' := [(1, .int (5 : Int32)), (0, .ref (ad 0))]) dX12_term_74 (by decide) rfl ?_
      refine r_aload_n 1 dX12_term_75 rfl ?_
      refine r_dup dX12_term_76 rfl ?_
      refine gM_next rfl dX12_term_77 ?_
      refine r_iconst (x := (1 : Int32)) dX12_term_80 (by decide) ?_
      refine r_iadd dX12_term_81 ?_
      obtain ⟨y13, e13, h⟩ := lt_some h
      refine r_top e13 ?_
      refine pM_next rfl dX12_term_82 ?_
      refine r_aload_n 1 dX12_term_85 rfl ?_
      obtain ⟨q14, h14, h⟩ := bd_some h
      refine cvM (st := []) (cm_value h14) rfl rfl (Nat.le_of_ble_eq_true rfl) km_value (tb_in (i := 19) (j := 28) rfl rfl) (by decide) rfl dX12_term_86 ?_
      refine r_if_ne 94 dX12_term_89 (by decide) (fun c15 => ?_) (fun c15 => ?_)
      · replace h := it_neg c15 h
        refine r_aload_n 1 dX12_term_94 rfl ?_
        refine r_iload_n 0 dX12_term_95 rfl ?_
        refine r_iconst (x := (0 : Int32)) dX12_term_96 (by decide) ?_
        obtain ⟨q16, h16, h⟩ := bd_some h
        refine cvM (st := []) (cm_puts h16) rfl rfl (Nat.le_of_ble_eq_true rfl) km_puts (tb_in (i := 19) (j := 14) rfl rfl) (by decide) rfl dX12_term_97 ?_
        refine r_goto 9 dX12_term_100 (by decide) ?_
        refine r_sub (lv' := [(0, .ref (ad 0))]) [1] rfl ?_
        exact hk9 _ _ _ _ _ _ h
      · replace h := it_pos c15 h
        refine r_iconst (x := (0 : Int32)) dX12_term_92 (by decide) ?_
        have hq := Option.some.inj h
        subst hq
        exact r_zret (ty := .boolean) rfl rfl dX12_term_93
  · replace h := it_pos c6 h
    refine r_iconst (x := (4 : Int32)) dX12_term_50 (by decide) ?_
    refine r_goto 74 dX12_term_51 (by decide) ?_
    refine r_istore_n (lv' := [(1, .int (4 : Int32)), (0, .ref (ad 0))]) dX12_term_74 (by decide) rfl ?_
    refine r_aload_n 1 dX12_term_75 rfl ?_
    refine r_dup dX12_term_76 rfl ?_
    refine gM_next rfl dX12_term_77 ?_
    refine r_iconst (x := (1 : Int32)) dX12_term_80 (by decide) ?_
    refine r_iadd dX12_term_81 ?_
    obtain ⟨y17, e17, h⟩ := lt_some h
    refine r_top e17 ?_
    refine pM_next rfl dX12_term_82 ?_
    refine r_aload_n 1 dX12_term_85 rfl ?_
    obtain ⟨q18, h18, h⟩ := bd_some h
    refine cvM (st := []) (cm_value h18) rfl rfl (Nat.le_of_ble_eq_true rfl) km_value (tb_in (i := 19) (j := 28) rfl rfl) (by decide) rfl dX12_term_86 ?_
    refine r_if_ne 94 dX12_term_89 (by decide) (fun c19 => ?_) (fun c19 => ?_)
    · replace h := it_neg c19 h
      refine r_aload_n 1 dX12_term_94 rfl ?_
      refine r_iload_n 0 dX12_term_95 rfl ?_
      refine r_iconst (x := (0 : Int32)) dX12_term_96 (by decide) ?_
      obtain ⟨q20, h20, h⟩ := bd_some h
      refine cvM (st := []) (cm_puts h20) rfl rfl (Nat.le_of_ble_eq_true rfl) km_puts (tb_in (i := 19) (j := 14) rfl rfl) (by decide) rfl dX12_term_97 ?_
      refine r_goto 9 dX12_term_100 (by decide) ?_
      refine r_sub (lv' := [(0, .ref (ad 0))]) [1] rfl ?_
      exact hk9 _ _ _ _ _ _ h
    · replace h := it_pos c19 h
      refine r_iconst (x := (0 : Int32)) dX12_term_92 (by decide) ?_
      have hq := Option.some.inj h
      subst hq
      exact r_zret (ty := .boolean) rfl rfl dX12_term_93
def m_term_l9 (z_tape : Nat → Int32) (z_taped : Int32) (z_text : Int32) : Nat → (Nat → Int32) → (Nat → Int32) → Int32 → Int32 → Int32 → Int32 → Option (Int32 × (Nat → Int32) × (Nat → Int32) × Int32 × Int32 × Int32 × Int32)
  | 0, _, _, _, _, _, _ => none
  | n + 1, z_sign, z_length, z_next, z_wrong, z_number, z_made => (m_see z_tape z_taped z_next).bind (fun q3 => (if q3.1 = (42 : Int32) then m_term_j36 (m_term_l9 z_tape z_taped z_text n) z_tape z_taped z_sign z_length q3.2 z_wrong z_number z_text z_made else (m_see z_tape z_taped q3.2).bind (fun q21 => (if q21.1 = (47 : Int32) then m_term_j36 (m_term_l9 z_tape z_taped z_text n) z_tape z_taped z_sign z_length q21.2 z_wrong z_number z_text z_made else (m_see z_tape z_taped q21.2).bind (fun q23 => (if q23.1 = (37 : Int32) then m_term_j36 (m_term_l9 z_tape z_taped z_text n) z_tape z_taped z_sign z_length q23.2 z_wrong z_number z_text z_made else some ((1 : Int32), z_sign, z_length, q23.2, z_wrong, z_number, z_made)))))))
set_option maxRecDepth 20000 in
theorem cm_term_l9 {q : Int32 × (Nat → Int32) × (Nat → Int32) × Int32 × Int32 × Int32 × Int32}   : ∀ (n : Nat) (z_sign : Nat → Int32) (z_length : Nat → Int32) (z_next : Int32) (z_wrong : Int32) (z_number : Int32) (z_made : Int32), m_term_l9 z_tape z_taped z_text n z_sign z_length z_next z_wrong z_number z_made = some q → rW l D Z (ty7 K) Mm_term 9 [(0, .ref (ad 0))] [] (wM K ad z_tape z_taped z_rules z_sign z_length z_clause z_clauses z_read z_next z_wrong z_number z_text z_made z_deep z_lines z_open z_opened z_stack z_top z_word z_said z_force z_x z_absent z_isRaining z_wasSaid z_undone z_kept z_order z_bestOrder z_hasBy z_wealthThen z_isFit z_tillThen z_drawX z_images z_imageForce z_imageX z_isMade) (wM K ad z_tape z_taped z_rules q.2.1 q.2.2.1 z_clause z_clauses z_read q.2.2.2.1 q.2.2.2.2.1 q.2.2.2.2.2.1 z_text q.2.2.2.2.2.2 z_deep z_lines z_open z_opened z_stack z_top z_word z_said z_force z_x z_absent z_isRaining z_wasSaid z_undone z_kept z_order z_bestOrder z_hasBy z_wealthThen z_isFit z_tillThen z_drawX z_images z_imageForce z_imageX z_isMade) (some (.int q.1)) := by
  intro n
  induction n with
  | zero => intro z_sign z_length z_next z_wrong z_number z_made h; unfold m_term_l9 at h; cases h
  | succ n ih =>
    intro z_sign z_length z_next z_wrong z_number z_made h
    unfold m_term_l9 at h
    refine r_aload_n 0 dX12_term_9 rfl ?_
    obtain ⟨q3, h3, h⟩ := bd_some h
    refine cvM (st := []) (cm_see h3) rfl rfl (Nat.le_of_ble_eq_true rfl) km_see (tb_in (i := 17) (j := 30) rfl rfl) (by decide) rfl dX12_term_10 ?_
    refine r_bipush (x := (42 : Int32)) dX12_term_13 (by decide) ?_
    refine r_icmp_eq 36 dX12_term_15 (by decide) (fun c4 => ?_) (fun c4 => ?_)
    · replace h := it_pos c4 h
      exact cm_term_j36 (ih) h
    · replace h := it_neg c4 h
      refine r_aload_n 0 dX12_term_18 rfl ?_
      obtain ⟨q21, h21, h⟩ := bd_some h
      refine cvM (st := []) (cm_see h21) rfl rfl (Nat.le_of_ble_eq_true rfl) km_see (tb_in (i := 17) (j := 30) rfl rfl) (by decide) rfl dX12_term_19 ?_
      refine r_bipush (x := (47 : Int32)) dX12_term_22 (by decide) ?_
      refine r_icmp_eq 36 dX12_term_24 (by decide) (fun c22 => ?_) (fun c22 => ?_)
      · replace h := it_pos c22 h
        exact cm_term_j36 (ih) h
      · replace h := it_neg c22 h
        refine r_aload_n 0 dX12_term_27 rfl ?_
        obtain ⟨q23, h23, h⟩ := bd_some h
        refine cvM (st := []) (cm_see h23) rfl rfl (Nat.le_of_ble_eq_true rfl) km_see (tb_in (i := 17) (j := 30) rfl rfl) (by decide) rfl dX12_term_28 ?_
        refine r_bipush (x := (37 : Int32)) dX12_term_31 (by decide) ?_
        refine r_icmp_ne 103 dX12_term_33 (by decide) (fun c24 => ?_) (fun c24 => ?_)
        · replace h := it_neg c24 h
          refine r_iconst (x := (1 : Int32)) dX12_term_103 (by decide) ?_
          have hq := Option.some.inj h
          subst hq
          exact r_zret (ty := .boolean) rfl rfl dX12_term_104
        · replace h := it_pos c24 h
          exact cm_term_j36 (ih) h
def m_term (z_tape : Nat → Int32) (z_taped : Int32) (z_sign : Nat → Int32) (z_length : Nat → Int32) (z_next : Int32) (z_wrong : Int32) (z_number : Int32) (z_text : Int32) (z_made : Int32) : Option (Int32 × (Nat → Int32) × (Nat → Int32) × Int32 × Int32 × Int32 × Int32) := (m_value z_tape z_taped z_sign z_length z_next z_wrong z_number z_text z_made).bind (fun q1 => (if q1.1 = 0 then some ((0 : Int32), q1.2.1, q1.2.2.1, q1.2.2.2.1, q1.2.2.2.2.1, q1.2.2.2.2.2.1, q1.2.2.2.2.2.2) else m_term_l9 z_tape z_taped z_text FU q1.2.1 q1.2.2.1 q1.2.2.2.1 q1.2.2.2.2.1 q1.2.2.2.2.2.1 q1.2.2.2.2.2.2))
set_option maxRecDepth 20000 in
theorem cm_term {q : Int32 × (Nat → Int32) × (Nat → Int32) × Int32 × Int32 × Int32 × Int32}  (h : m_term z_tape z_taped z_sign z_length z_next z_wrong z_number z_text z_made = some q) : rMet l D Z (ty7 K) Mm_term [.ref (ad 0)] (wM K ad z_tape z_taped z_rules z_sign z_length z_clause z_clauses z_read z_next z_wrong z_number z_text z_made z_deep z_lines z_open z_opened z_stack z_top z_word z_said z_force z_x z_absent z_isRaining z_wasSaid z_undone z_kept z_order z_bestOrder z_hasBy z_wealthThen z_isFit z_tillThen z_drawX z_images z_imageForce z_imageX z_isMade) (wM K ad z_tape z_taped z_rules q.2.1 q.2.2.1 z_clause z_clauses z_read q.2.2.2.1 q.2.2.2.2.1 q.2.2.2.2.2.1 z_text q.2.2.2.2.2.2 z_deep z_lines z_open z_opened z_stack z_top z_word z_said z_force z_x z_absent z_isRaining z_wasSaid z_undone z_kept z_order z_bestOrder z_hasBy z_wealthThen z_isFit z_tillThen z_drawX z_images z_imageForce z_imageX z_isMade) (some (.int q.1)) := by
  refine rMet.of (by decide) rfl (Nat.le_of_ble_eq_true rfl) ?_
  refine r_sub (lv' := [(0, .ref (ad 0))]) [0] rfl ?_
  unfold m_term at h
  refine r_aload_n 0 dX12_term_0 rfl ?_
  obtain ⟨q1, h1, h⟩ := bd_some h
  refine cvM (st := []) (cm_value h1) rfl rfl (Nat.le_of_ble_eq_true rfl) km_value (tb_in (i := 19) (j := 28) rfl rfl) (by decide) rfl dX12_term_1 ?_
  refine r_if_ne 9 dX12_term_4 (by decide) (fun c2 => ?_) (fun c2 => ?_)
  · replace h := it_neg c2 h
    exact cm_term_l9  FU _ _ _ _ _ _ h
  · replace h := it_pos c2 h
    refine r_iconst (x := (0 : Int32)) dX12_term_7 (by decide) ?_
    have hq := Option.some.inj h
    subst hq
    exact r_zret (ty := .boolean) rfl rfl dX12_term_8
theorem dX12_sum_0 : decode cX12_sum 0 = .ok (.aload_n 0, 1) := by decide +kernel
theorem dX12_sum_1 : decode cX12_sum 1 = .ok (.invokevirtual 186, 3) := by decide +kernel
theorem dX12_sum_4 : decode cX12_sum 4 = .ok (.ifCond .ne 5, 3) := by decide +kernel
theorem dX12_sum_7 : decode cX12_sum 7 = .ok (.iconst 0, 1) := by decide +kernel
theorem dX12_sum_8 : decode cX12_sum 8 = .ok (.ireturn, 1) := by decide +kernel
theorem dX12_sum_9 : decode cX12_sum 9 = .ok (.aload_n 0, 1) := by decide +kernel
theorem dX12_sum_10 : decode cX12_sum 10 = .ok (.invokevirtual 99, 3) := by decide +kernel
theorem dX12_sum_13 : decode cX12_sum 13 = .ok (.bipush 43, 2) := by decide +kernel
theorem dX12_sum_15 : decode cX12_sum 15 = .ok (.if_icmp .eq 12, 3) := by decide +kernel
theorem dX12_sum_18 : decode cX12_sum 18 = .ok (.aload_n 0, 1) := by decide +kernel
theorem dX12_sum_19 : decode cX12_sum 19 = .ok (.invokevirtual 99, 3) := by decide +kernel
theorem dX12_sum_22 : decode cX12_sum 22 = .ok (.bipush 45, 2) := by decide +kernel
theorem dX12_sum_24 : decode cX12_sum 24 = .ok (.if_icmp .ne 51, 3) := by decide +kernel
theorem dX12_sum_27 : decode cX12_sum 27 = .ok (.aload_n 0, 1) := by decide +kernel
theorem dX12_sum_28 : decode cX12_sum 28 = .ok (.getfield 7, 3) := by decide +kernel
theorem dX12_sum_31 : decode cX12_sum 31 = .ok (.aload_n 0, 1) := by decide +kernel
theorem dX12_sum_32 : decode cX12_sum 32 = .ok (.getfield 96, 3) := by decide +kernel
theorem dX12_sum_35 : decode cX12_sum 35 = .ok (.baload, 1) := by decide +kernel
theorem dX12_sum_36 : decode cX12_sum 36 = .ok (.bipush 43, 2) := by decide +kernel
theorem dX12_sum_38 : decode cX12_sum 38 = .ok (.if_icmp .ne 7, 3) := by decide +kernel
theorem dX12_sum_41 : decode cX12_sum 41 = .ok (.iconst 2, 1) := by decide +kernel
theorem dX12_sum_42 : decode cX12_sum 42 = .ok (.goto 4, 3) := by decide +kernel
theorem dX12_sum_45 : decode cX12_sum 45 = .ok (.iconst 3, 1) := by decide +kernel
theorem dX12_sum_46 : decode cX12_sum 46 = .ok (.istore_n 1, 1) := by decide +kernel
theorem dX12_sum_47 : decode cX12_sum 47 = .ok (.aload_n 0, 1) := by decide +kernel
theorem dX12_sum_48 : decode cX12_sum 48 = .ok (.dup, 1) := by decide +kernel
theorem dX12_sum_49 : decode cX12_sum 49 = .ok (.getfield 96, 3) := by decide +kernel
theorem dX12_sum_52 : decode cX12_sum 52 = .ok (.iconst 1, 1) := by decide +kernel
theorem dX12_sum_53 : decode cX12_sum 53 = .ok (.iadd, 1) := by decide +kernel
theorem dX12_sum_54 : decode cX12_sum 54 = .ok (.putfield 96, 3) := by decide +kernel
theorem dX12_sum_57 : decode cX12_sum 57 = .ok (.aload_n 0, 1) := by decide +kernel
theorem dX12_sum_58 : decode cX12_sum 58 = .ok (.invokevirtual 186, 3) := by decide +kernel
theorem dX12_sum_61 : decode cX12_sum 61 = .ok (.ifCond .ne 5, 3) := by decide +kernel
theorem dX12_sum_64 : decode cX12_sum 64 = .ok (.iconst 0, 1) := by decide +kernel
theorem dX12_sum_65 : decode cX12_sum 65 = .ok (.ireturn, 1) := by decide +kernel
theorem dX12_sum_66 : decode cX12_sum 66 = .ok (.aload_n 0, 1) := by decide +kernel
theorem dX12_sum_67 : decode cX12_sum 67 = .ok (.iload_n 1, 1) := by decide +kernel
theorem dX12_sum_68 : decode cX12_sum 68 = .ok (.iconst 0, 1) := by decide +kernel
theorem dX12_sum_69 : decode cX12_sum 69 = .ok (.invokevirtual 168, 3) := by decide +kernel
theorem dX12_sum_72 : decode cX12_sum 72 = .ok (.goto (-63), 3) := by decide +kernel
theorem dX12_sum_75 : decode cX12_sum 75 = .ok (.iconst 1, 1) := by decide +kernel
theorem dX12_sum_76 : decode cX12_sum 76 = .ok (.ireturn, 1) := by decide +kernel
abbrev Mm_sum : rx_M := (RX12, yX12_sum, cX12_sum, 2, (some .boolean), 6)
theorem km_sum : rKv Mm_sum 0 := ⟨tb_in (i := 20) (j := 5) rfl rfl, tb_in (i := 20) (j := 6) rfl rfl, tb_in (i := 17) (j := 21) rfl rfl, tb_in (i := 20) (j := 3) rfl rfl, ⟨by decide, by decide, by decide +kernel⟩, by decide⟩
def m_sum_j27 (k9 : (Nat → Int32) → (Nat → Int32) → Int32 → Int32 → Int32 → Int32 → Option (Int32 × (Nat → Int32) × (Nat → Int32) × Int32 × Int32 × Int32 × Int32)) (z_tape : Nat → Int32) (z_taped : Int32) (z_sign : Nat → Int32) (z_length : Nat → Int32) (z_next : Int32) (z_wrong : Int32) (z_number : Int32) (z_text : Int32) (z_made : Int32) : Option (Int32 × (Nat → Int32) × (Nat → Int32) × Int32 × Int32 × Int32 × Int32) := rq (inb z_next 400) ((if (z_tape z_next.toNatClampNeg) = (43 : Int32) then lt (z_next + (1 : Int32)) (fun y11 => (m_term z_tape z_taped z_sign z_length y11 z_wrong z_number z_text z_made).bind (fun q12 => (if q12.1 = 0 then some ((0 : Int32), q12.2.1, q12.2.2.1, q12.2.2.2.1, q12.2.2.2.2.1, q12.2.2.2.2.2.1, q12.2.2.2.2.2.2) else (m_puts (2 : Int32) (0 : Int32) q12.2.1 q12.2.2.1 z_text).bind (fun q14 => k9 q14.1 q14.2 q12.2.2.2.1 q12.2.2.2.2.1 q12.2.2.2.2.2.1 q12.2.2.2.2.2.2)))) else lt (z_next + (1 : Int32)) (fun y7 => (m_term z_tape z_taped z_sign z_length y7 z_wrong z_number z_text z_made).bind (fun q8 => (if q8.1 = 0 then some ((0 : Int32), q8.2.1, q8.2.2.1, q8.2.2.2.1, q8.2.2.2.2.1, q8.2.2.2.2.2.1, q8.2.2.2.2.2.2) else (m_puts (3 : Int32) (0 : Int32) q8.2.1 q8.2.2.1 z_text).bind (fun q10 => k9 q10.1 q10.2 q8.2.2.2.1 q8.2.2.2.2.1 q8.2.2.2.2.2.1 q8.2.2.2.2.2.2))))))
set_option maxRecDepth 20000 in
theorem cm_sum_j27 {q : Int32 × (Nat → Int32) × (Nat → Int32) × Int32 × Int32 × Int32 × Int32}  {k9 : (Nat → Int32) → (Nat → Int32) → Int32 → Int32 → Int32 → Int32 → Option (Int32 × (Nat → Int32) × (Nat → Int32) × Int32 × Int32 × Int32 × Int32)} (hk9 : ∀ (z_sign : Nat → Int32) (z_length : Nat → Int32) (z_next : Int32) (z_wrong : Int32) (z_number : Int32) (z_made : Int32), k9 z_sign z_length z_next z_wrong z_number z_made = some q → rW l D Z (ty7 K) Mm_sum 9 [(0, .ref (ad 0))] [] (wM K ad z_tape z_taped z_rules z_sign z_length z_clause z_clauses z_read z_next z_wrong z_number z_text z_made z_deep z_lines z_open z_opened z_stack z_top z_word z_said z_force z_x z_absent z_isRaining z_wasSaid z_undone z_kept z_order z_bestOrder z_hasBy z_wealthThen z_isFit z_tillThen z_drawX z_images z_imageForce z_imageX z_isMade) (wM K ad z_tape z_taped z_rules q.2.1 q.2.2.1 z_clause z_clauses z_read q.2.2.2.1 q.2.2.2.2.1 q.2.2.2.2.2.1 z_text q.2.2.2.2.2.2 z_deep z_lines z_open z_opened z_stack z_top z_word z_said z_force z_x z_absent z_isRaining z_wasSaid z_undone z_kept z_order z_bestOrder z_hasBy z_wealthThen z_isFit z_tillThen z_drawX z_images z_imageForce z_imageX z_isMade) (some (.int q.1))) (h : m_sum_j27 k9 z_tape z_taped z_sign z_length z_next z_wrong z_number z_text z_made = some q) : rW l D Z (ty7 K) Mm_sum 27 [(0, .ref (ad 0))] [] (wM K ad z_tape z_taped z_rules z_sign z_length z_clause z_clauses z_read z_next z_wrong z_number z_text z_made z_deep z_lines z_open z_opened z_stack z_top z_word z_said z_force z_x z_absent z_isRaining z_wasSaid z_undone z_kept z_order z_bestOrder z_hasBy z_wealthThen z_isFit z_tillThen z_drawX z_images z_imageForce z_imageX z_isMade) (wM K ad z_tape z_taped z_rules q.2.1 q.2.2.1 z_clause z_clauses z_read q.2.2.2.1 q.2.2.2.2.1 q.2.2.2.2.2.1 z_text q.2.2.2.2.2.2 z_deep z_lines z_open z_opened z_stack z_top z_word z_said z_force z_x z_absent z_isRaining z_wasSaid z_undone z_kept z_order z_bestOrder z_hasBy z_wealthThen z_isFit z_tillThen z_drawX z_images z_imageForce z_imageX z_isMade) (some (.int q.1)) := by
  unfold m_sum_j27 at h
  refine r_aload_n 0 dX12_sum_27 rfl ?_
  refine gM_tape rfl dX12_sum_28 ?_
  refine r_aload_n 0 dX12_sum_31 rfl ?_
  refine gM_next rfl dX12_sum_32 ?_
  obtain ⟨h5, h⟩ := rq_some h
  refine lM_tape (inb_in h5) dX12_sum_35 ?_
  refine r_bipush (x := (43 : Int32)) dX12_sum_36 (by decide) ?_
  refine r_icmp_ne 45 dX12_sum_38 (by decide) (fun c6 => ?_) (fun c6 => ?_)
  · replace h := it_neg c6 h
    refine r_iconst (x := (3 : Int32)) dX12_sum_45 (by decide) ?_
    refine r_istore_n (lv' := [(1, .int (3 : Int32)), (0, .ref (ad 0))]) dX12_sum_46 (by decide) rfl ?_
    refine r_aload_n 1 dX12_sum_47 rfl ?_
    refine r_dup dX12_sum_48 rfl ?_
    refine gM_next rfl dX12_sum_49 ?_
    refine r_iconst (x := (1 : Int32)) dX12_sum_52 (by decide) ?_
    refine r_iadd dX12_sum_53 ?_
    obtain ⟨y7, e7, h⟩ := lt_some h
    refine r_top e7 ?_
    refine pM_next rfl dX12_sum_54 ?_
    refine r_aload_n 1 dX12_sum_57 rfl ?_
    obtain ⟨q8, h8, h⟩ := bd_some h
    refine cvM (st := []) (cm_term h8) rfl rfl (Nat.le_of_ble_eq_true rfl) km_term (tb_in (i := 20) (j := 0) rfl rfl) (by decide) rfl dX12_sum_58 ?_
    refine r_if_ne 66 dX12_sum_61 (by decide) (fun c9 => ?_) (fun c9 => ?_)
    · replace h := it_neg c9 h
      refine r_aload_n 1 dX12_sum_66 rfl ?_
      refine r_iload_n 0 dX12_sum_67 rfl ?_
      refine r_iconst (x := (0 : Int32)) dX12_sum_68 (by decide) ?_
      obtain ⟨q10, h10, h⟩ := bd_some h
      refine cvM (st := []) (cm_puts h10) rfl rfl (Nat.le_of_ble_eq_true rfl) km_puts (tb_in (i := 19) (j := 14) rfl rfl) (by decide) rfl dX12_sum_69 ?_
      refine r_goto 9 dX12_sum_72 (by decide) ?_
      refine r_sub (lv' := [(0, .ref (ad 0))]) [1] rfl ?_
      exact hk9 _ _ _ _ _ _ h
    · replace h := it_pos c9 h
      refine r_iconst (x := (0 : Int32)) dX12_sum_64 (by decide) ?_
      have hq := Option.some.inj h
      subst hq
      exact r_zret (ty := .boolean) rfl rfl dX12_sum_65
  · replace h := it_pos c6 h
    refine r_iconst (x := (2 : Int32)) dX12_sum_41 (by decide) ?_
    refine r_goto 46 dX12_sum_42 (by decide) ?_
    refine r_istore_n (lv' := [(1, .int (2 : Int32)), (0, .ref (ad 0))]) dX12_sum_46 (by decide) rfl ?_
    refine r_aload_n 1 dX12_sum_47 rfl ?_
    refine r_dup dX12_sum_48 rfl ?_
    refine gM_next rfl dX12_sum_49 ?_
    refine r_iconst (x := (1 : Int32)) dX12_sum_52 (by decide) ?_
    refine r_iadd dX12_sum_53 ?_
    obtain ⟨y11, e11, h⟩ := lt_some h
    refine r_top e11 ?_
    refine pM_next rfl dX12_sum_54 ?_
    refine r_aload_n 1 dX12_sum_57 rfl ?_
    obtain ⟨q12, h12, h⟩ := bd_some h
    refine cvM (st := []) (cm_term h12) rfl rfl (Nat.le_of_ble_eq_true rfl) km_term (tb_in (i := 20) (j := 0) rfl rfl) (by decide) rfl dX12_sum_58 ?_
    refine r_if_ne 66 dX12_sum_61 (by decide) (fun c13 => ?_) (fun c13 => ?_)
    · replace h := it_neg c13 h
      refine r_aload_n 1 dX12_sum_66 rfl ?_
      refine r_iload_n 0 dX12_sum_67 rfl ?_
      refine r_iconst (x := (0 : Int32)) dX12_sum_68 (by decide) ?_
      obtain ⟨q14, h14, h⟩ := bd_some h
      refine cvM (st := []) (cm_puts h14) rfl rfl (Nat.le_of_ble_eq_true rfl) km_puts (tb_in (i := 19) (j := 14) rfl rfl) (by decide) rfl dX12_sum_69 ?_
      refine r_goto 9 dX12_sum_72 (by decide) ?_
      refine r_sub (lv' := [(0, .ref (ad 0))]) [1] rfl ?_
      exact hk9 _ _ _ _ _ _ h
    · replace h := it_pos c13 h
      refine r_iconst (x := (0 : Int32)) dX12_sum_64 (by decide) ?_
      have hq := Option.some.inj h
      subst hq
      exact r_zret (ty := .boolean) rfl rfl dX12_sum_65
def m_sum_l9 (z_tape : Nat → Int32) (z_taped : Int32) (z_text : Int32) : Nat → (Nat → Int32) → (Nat → Int32) → Int32 → Int32 → Int32 → Int32 → Option (Int32 × (Nat → Int32) × (Nat → Int32) × Int32 × Int32 × Int32 × Int32)
  | 0, _, _, _, _, _, _ => none
  | n + 1, z_sign, z_length, z_next, z_wrong, z_number, z_made => (m_see z_tape z_taped z_next).bind (fun q3 => (if q3.1 = (43 : Int32) then m_sum_j27 (m_sum_l9 z_tape z_taped z_text n) z_tape z_taped z_sign z_length q3.2 z_wrong z_number z_text z_made else (m_see z_tape z_taped q3.2).bind (fun q15 => (if q15.1 = (45 : Int32) then m_sum_j27 (m_sum_l9 z_tape z_taped z_text n) z_tape z_taped z_sign z_length q15.2 z_wrong z_number z_text z_made else some ((1 : Int32), z_sign, z_length, q15.2, z_wrong, z_number, z_made)))))
set_option maxRecDepth 20000 in
theorem cm_sum_l9 {q : Int32 × (Nat → Int32) × (Nat → Int32) × Int32 × Int32 × Int32 × Int32}   : ∀ (n : Nat) (z_sign : Nat → Int32) (z_length : Nat → Int32) (z_next : Int32) (z_wrong : Int32) (z_number : Int32) (z_made : Int32), m_sum_l9 z_tape z_taped z_text n z_sign z_length z_next z_wrong z_number z_made = some q → rW l D Z (ty7 K) Mm_sum 9 [(0, .ref (ad 0))] [] (wM K ad z_tape z_taped z_rules z_sign z_length z_clause z_clauses z_read z_next z_wrong z_number z_text z_made z_deep z_lines z_open z_opened z_stack z_top z_word z_said z_force z_x z_absent z_isRaining z_wasSaid z_undone z_kept z_order z_bestOrder z_hasBy z_wealthThen z_isFit z_tillThen z_drawX z_images z_imageForce z_imageX z_isMade) (wM K ad z_tape z_taped z_rules q.2.1 q.2.2.1 z_clause z_clauses z_read q.2.2.2.1 q.2.2.2.2.1 q.2.2.2.2.2.1 z_text q.2.2.2.2.2.2 z_deep z_lines z_open z_opened z_stack z_top z_word z_said z_force z_x z_absent z_isRaining z_wasSaid z_undone z_kept z_order z_bestOrder z_hasBy z_wealthThen z_isFit z_tillThen z_drawX z_images z_imageForce z_imageX z_isMade) (some (.int q.1)) := by
  intro n
  induction n with
  | zero => intro z_sign z_length z_next z_wrong z_number z_made h; unfold m_sum_l9 at h; cases h
  | succ n ih =>
    intro z_sign z_length z_next z_wrong z_number z_made h
    unfold m_sum_l9 at h
    refine r_aload_n 0 dX12_sum_9 rfl ?_
    obtain ⟨q3, h3, h⟩ := bd_some h
    refine cvM (st := []) (cm_see h3) rfl rfl (Nat.le_of_ble_eq_true rfl) km_see (tb_in (i := 17) (j := 30) rfl rfl) (by decide) rfl dX12_sum_10 ?_
    refine r_bipush (x := (43 : Int32)) dX12_sum_13 (by decide) ?_
    refine r_icmp_eq 27 dX12_sum_15 (by decide) (fun c4 => ?_) (fun c4 => ?_)
    · replace h := it_pos c4 h
      exact cm_sum_j27 (ih) h
    · replace h := it_neg c4 h
      refine r_aload_n 0 dX12_sum_18 rfl ?_
      obtain ⟨q15, h15, h⟩ := bd_some h
      refine cvM (st := []) (cm_see h15) rfl rfl (Nat.le_of_ble_eq_true rfl) km_see (tb_in (i := 17) (j := 30) rfl rfl) (by decide) rfl dX12_sum_19 ?_
      refine r_bipush (x := (45 : Int32)) dX12_sum_22 (by decide) ?_
      refine r_icmp_ne 75 dX12_sum_24 (by decide) (fun c16 => ?_) (fun c16 => ?_)
      · replace h := it_neg c16 h
        refine r_iconst (x := (1 : Int32)) dX12_sum_75 (by decide) ?_
        have hq := Option.some.inj h
        subst hq
        exact r_zret (ty := .boolean) rfl rfl dX12_sum_76
      · replace h := it_pos c16 h
        exact cm_sum_j27 (ih) h
def m_sum (z_tape : Nat → Int32) (z_taped : Int32) (z_sign : Nat → Int32) (z_length : Nat → Int32) (z_next : Int32) (z_wrong : Int32) (z_number : Int32) (z_text : Int32) (z_made : Int32) : Option (Int32 × (Nat → Int32) × (Nat → Int32) × Int32 × Int32 × Int32 × Int32) := (m_term z_tape z_taped z_sign z_length z_next z_wrong z_number z_text z_made).bind (fun q1 => (if q1.1 = 0 then some ((0 : Int32), q1.2.1, q1.2.2.1, q1.2.2.2.1, q1.2.2.2.2.1, q1.2.2.2.2.2.1, q1.2.2.2.2.2.2) else m_sum_l9 z_tape z_taped z_text FU q1.2.1 q1.2.2.1 q1.2.2.2.1 q1.2.2.2.2.1 q1.2.2.2.2.2.1 q1.2.2.2.2.2.2))
set_option maxRecDepth 20000 in
theorem cm_sum {q : Int32 × (Nat → Int32) × (Nat → Int32) × Int32 × Int32 × Int32 × Int32}  (h : m_sum z_tape z_taped z_sign z_length z_next z_wrong z_number z_text z_made = some q) : rMet l D Z (ty7 K) Mm_sum [.ref (ad 0)] (wM K ad z_tape z_taped z_rules z_sign z_length z_clause z_clauses z_read z_next z_wrong z_number z_text z_made z_deep z_lines z_open z_opened z_stack z_top z_word z_said z_force z_x z_absent z_isRaining z_wasSaid z_undone z_kept z_order z_bestOrder z_hasBy z_wealthThen z_isFit z_tillThen z_drawX z_images z_imageForce z_imageX z_isMade) (wM K ad z_tape z_taped z_rules q.2.1 q.2.2.1 z_clause z_clauses z_read q.2.2.2.1 q.2.2.2.2.1 q.2.2.2.2.2.1 z_text q.2.2.2.2.2.2 z_deep z_lines z_open z_opened z_stack z_top z_word z_said z_force z_x z_absent z_isRaining z_wasSaid z_undone z_kept z_order z_bestOrder z_hasBy z_wealthThen z_isFit z_tillThen z_drawX z_images z_imageForce z_imageX z_isMade) (some (.int q.1)) := by
  refine rMet.of (by decide) rfl (Nat.le_of_ble_eq_true rfl) ?_
  refine r_sub (lv' := [(0, .ref (ad 0))]) [0] rfl ?_
  unfold m_sum at h
  refine r_aload_n 0 dX12_sum_0 rfl ?_
  obtain ⟨q1, h1, h⟩ := bd_some h
  refine cvM (st := []) (cm_term h1) rfl rfl (Nat.le_of_ble_eq_true rfl) km_term (tb_in (i := 20) (j := 0) rfl rfl) (by decide) rfl dX12_sum_1 ?_
  refine r_if_ne 9 dX12_sum_4 (by decide) (fun c2 => ?_) (fun c2 => ?_)
  · replace h := it_neg c2 h
    exact cm_sum_l9  FU _ _ _ _ _ _ h
  · replace h := it_pos c2 h
    refine r_iconst (x := (0 : Int32)) dX12_sum_7 (by decide) ?_
    have hq := Option.some.inj h
    subst hq
    exact r_zret (ty := .boolean) rfl rfl dX12_sum_8
theorem dX12_compare_0 : decode cX12_compare 0 = .ok (.aload_n 0, 1) := by decide +kernel
theorem dX12_compare_1 : decode cX12_compare 1 = .ok (.invokevirtual 189, 3) := by decide +kernel
theorem dX12_compare_4 : decode cX12_compare 4 = .ok (.ifCond .ne 5, 3) := by decide +kernel
theorem dX12_compare_7 : decode cX12_compare 7 = .ok (.iconst 0, 1) := by decide +kernel
theorem dX12_compare_8 : decode cX12_compare 8 = .ok (.ireturn, 1) := by decide +kernel
theorem dX12_compare_9 : decode cX12_compare 9 = .ok (.aload_n 0, 1) := by decide +kernel
theorem dX12_compare_10 : decode cX12_compare 10 = .ok (.invokevirtual 99, 3) := by decide +kernel
theorem dX12_compare_13 : decode cX12_compare 13 = .ok (.istore_n 1, 1) := by decide +kernel
theorem dX12_compare_14 : decode cX12_compare 14 = .ok (.aload_n 0, 1) := by decide +kernel
theorem dX12_compare_15 : decode cX12_compare 15 = .ok (.getfield 96, 3) := by decide +kernel
theorem dX12_compare_18 : decode cX12_compare 18 = .ok (.istore_n 2, 1) := by decide +kernel
theorem dX12_compare_19 : decode cX12_compare 19 = .ok (.iload_n 1, 1) := by decide +kernel
theorem dX12_compare_20 : decode cX12_compare 20 = .ok (.bipush 60, 2) := by decide +kernel
theorem dX12_compare_22 : decode cX12_compare 22 = .ok (.if_icmp .eq 22, 3) := by decide +kernel
theorem dX12_compare_25 : decode cX12_compare 25 = .ok (.iload_n 1, 1) := by decide +kernel
theorem dX12_compare_26 : decode cX12_compare 26 = .ok (.bipush 61, 2) := by decide +kernel
theorem dX12_compare_28 : decode cX12_compare 28 = .ok (.if_icmp .eq 16, 3) := by decide +kernel
theorem dX12_compare_31 : decode cX12_compare 31 = .ok (.iload_n 1, 1) := by decide +kernel
theorem dX12_compare_32 : decode cX12_compare 32 = .ok (.bipush 62, 2) := by decide +kernel
theorem dX12_compare_34 : decode cX12_compare 34 = .ok (.if_icmp .eq 10, 3) := by decide +kernel
theorem dX12_compare_37 : decode cX12_compare 37 = .ok (.aload_n 0, 1) := by decide +kernel
theorem dX12_compare_38 : decode cX12_compare 38 = .ok (.iconst 0, 1) := by decide +kernel
theorem dX12_compare_39 : decode cX12_compare 39 = .ok (.iload_n 2, 1) := by decide +kernel
theorem dX12_compare_40 : decode cX12_compare 40 = .ok (.invokevirtual 117, 3) := by decide +kernel
theorem dX12_compare_43 : decode cX12_compare 43 = .ok (.ireturn, 1) := by decide +kernel
theorem dX12_compare_44 : decode cX12_compare 44 = .ok (.aload_n 0, 1) := by decide +kernel
theorem dX12_compare_45 : decode cX12_compare 45 = .ok (.dup, 1) := by decide +kernel
theorem dX12_compare_46 : decode cX12_compare 46 = .ok (.getfield 96, 3) := by decide +kernel
theorem dX12_compare_49 : decode cX12_compare 49 = .ok (.iconst 1, 1) := by decide +kernel
theorem dX12_compare_50 : decode cX12_compare 50 = .ok (.iadd, 1) := by decide +kernel
theorem dX12_compare_51 : decode cX12_compare 51 = .ok (.putfield 96, 3) := by decide +kernel
theorem dX12_compare_54 : decode cX12_compare 54 = .ok (.iload_n 1, 1) := by decide +kernel
theorem dX12_compare_55 : decode cX12_compare 55 = .ok (.bipush 61, 2) := by decide +kernel
theorem dX12_compare_57 : decode cX12_compare 57 = .ok (.if_icmp .eq 32, 3) := by decide +kernel
theorem dX12_compare_60 : decode cX12_compare 60 = .ok (.aload_n 0, 1) := by decide +kernel
theorem dX12_compare_61 : decode cX12_compare 61 = .ok (.getfield 96, 3) := by decide +kernel
theorem dX12_compare_64 : decode cX12_compare 64 = .ok (.aload_n 0, 1) := by decide +kernel
theorem dX12_compare_65 : decode cX12_compare 65 = .ok (.getfield 86, 3) := by decide +kernel
theorem dX12_compare_68 : decode cX12_compare 68 = .ok (.if_icmp .ge 21, 3) := by decide +kernel
theorem dX12_compare_71 : decode cX12_compare 71 = .ok (.aload_n 0, 1) := by decide +kernel
theorem dX12_compare_72 : decode cX12_compare 72 = .ok (.getfield 7, 3) := by decide +kernel
theorem dX12_compare_75 : decode cX12_compare 75 = .ok (.aload_n 0, 1) := by decide +kernel
theorem dX12_compare_76 : decode cX12_compare 76 = .ok (.getfield 96, 3) := by decide +kernel
theorem dX12_compare_79 : decode cX12_compare 79 = .ok (.baload, 1) := by decide +kernel
theorem dX12_compare_80 : decode cX12_compare 80 = .ok (.bipush 61, 2) := by decide +kernel
theorem dX12_compare_82 : decode cX12_compare 82 = .ok (.if_icmp .ne 7, 3) := by decide +kernel
theorem dX12_compare_85 : decode cX12_compare 85 = .ok (.iconst 1, 1) := by decide +kernel
theorem dX12_compare_86 : decode cX12_compare 86 = .ok (.goto 4, 3) := by decide +kernel
theorem dX12_compare_89 : decode cX12_compare 89 = .ok (.iconst 0, 1) := by decide +kernel
theorem dX12_compare_90 : decode cX12_compare 90 = .ok (.istore_n 3, 1) := by decide +kernel
theorem dX12_compare_91 : decode cX12_compare 91 = .ok (.iload_n 3, 1) := by decide +kernel
theorem dX12_compare_92 : decode cX12_compare 92 = .ok (.ifCond .eq 13, 3) := by decide +kernel
theorem dX12_compare_95 : decode cX12_compare 95 = .ok (.aload_n 0, 1) := by decide +kernel
theorem dX12_compare_96 : decode cX12_compare 96 = .ok (.dup, 1) := by decide +kernel
theorem dX12_compare_97 : decode cX12_compare 97 = .ok (.getfield 96, 3) := by decide +kernel
theorem dX12_compare_100 : decode cX12_compare 100 = .ok (.iconst 1, 1) := by decide +kernel
theorem dX12_compare_101 : decode cX12_compare 101 = .ok (.iadd, 1) := by decide +kernel
theorem dX12_compare_102 : decode cX12_compare 102 = .ok (.putfield 96, 3) := by decide +kernel
theorem dX12_compare_105 : decode cX12_compare 105 = .ok (.aload_n 0, 1) := by decide +kernel
theorem dX12_compare_106 : decode cX12_compare 106 = .ok (.iload_n 2, 1) := by decide +kernel
theorem dX12_compare_107 : decode cX12_compare 107 = .ok (.invokevirtual 176, 3) := by decide +kernel
theorem dX12_compare_110 : decode cX12_compare 110 = .ok (.ifCond .ne 5, 3) := by decide +kernel
theorem dX12_compare_113 : decode cX12_compare 113 = .ok (.iconst 0, 1) := by decide +kernel
theorem dX12_compare_114 : decode cX12_compare 114 = .ok (.ireturn, 1) := by decide +kernel
theorem dX12_compare_115 : decode cX12_compare 115 = .ok (.iload_n 1, 1) := by decide +kernel
theorem dX12_compare_116 : decode cX12_compare 116 = .ok (.bipush 60, 2) := by decide +kernel
theorem dX12_compare_118 : decode cX12_compare 118 = .ok (.if_icmp .ne 15, 3) := by decide +kernel
theorem dX12_compare_121 : decode cX12_compare 121 = .ok (.iload_n 3, 1) := by decide +kernel
theorem dX12_compare_122 : decode cX12_compare 122 = .ok (.ifCond .eq 7, 3) := by decide +kernel
theorem dX12_compare_125 : decode cX12_compare 125 = .ok (.iconst 1, 1) := by decide +kernel
theorem dX12_compare_126 : decode cX12_compare 126 = .ok (.goto 26, 3) := by decide +kernel
theorem dX12_compare_129 : decode cX12_compare 129 = .ok (.iconst 0, 1) := by decide +kernel
theorem dX12_compare_130 : decode cX12_compare 130 = .ok (.goto 22, 3) := by decide +kernel
theorem dX12_compare_133 : decode cX12_compare 133 = .ok (.iload_n 1, 1) := by decide +kernel
theorem dX12_compare_134 : decode cX12_compare 134 = .ok (.bipush 61, 2) := by decide +kernel
theorem dX12_compare_136 : decode cX12_compare 136 = .ok (.if_icmp .ne 7, 3) := by decide +kernel
theorem dX12_compare_139 : decode cX12_compare 139 = .ok (.iconst 2, 1) := by decide +kernel
theorem dX12_compare_140 : decode cX12_compare 140 = .ok (.goto 12, 3) := by decide +kernel
theorem dX12_compare_143 : decode cX12_compare 143 = .ok (.iload_n 3, 1) := by decide +kernel
theorem dX12_compare_144 : decode cX12_compare 144 = .ok (.ifCond .eq 7, 3) := by decide +kernel
theorem dX12_compare_147 : decode cX12_compare 147 = .ok (.iconst 3, 1) := by decide +kernel
theorem dX12_compare_148 : decode cX12_compare 148 = .ok (.goto 4, 3) := by decide +kernel
theorem dX12_compare_151 : decode cX12_compare 151 = .ok (.iconst 4, 1) := by decide +kernel
theorem dX12_compare_152 : decode cX12_compare 152 = .ok (.istore 4, 2) := by decide +kernel
theorem dX12_compare_154 : decode cX12_compare 154 = .ok (.aload_n 0, 1) := by decide +kernel
theorem dX12_compare_155 : decode cX12_compare 155 = .ok (.invokevirtual 189, 3) := by decide +kernel
theorem dX12_compare_158 : decode cX12_compare 158 = .ok (.ifCond .ne 5, 3) := by decide +kernel
theorem dX12_compare_161 : decode cX12_compare 161 = .ok (.iconst 0, 1) := by decide +kernel
theorem dX12_compare_162 : decode cX12_compare 162 = .ok (.ireturn, 1) := by decide +kernel
theorem dX12_compare_163 : decode cX12_compare 163 = .ok (.aload_n 0, 1) := by decide +kernel
theorem dX12_compare_164 : decode cX12_compare 164 = .ok (.bipush 6, 2) := by decide +kernel
theorem dX12_compare_166 : decode cX12_compare 166 = .ok (.iload 4, 2) := by decide +kernel
theorem dX12_compare_168 : decode cX12_compare 168 = .ok (.iadd, 1) := by decide +kernel
theorem dX12_compare_169 : decode cX12_compare 169 = .ok (.iconst 0, 1) := by decide +kernel
theorem dX12_compare_170 : decode cX12_compare 170 = .ok (.invokevirtual 168, 3) := by decide +kernel
theorem dX12_compare_173 : decode cX12_compare 173 = .ok (.iconst 1, 1) := by decide +kernel
theorem dX12_compare_174 : decode cX12_compare 174 = .ok (.ireturn, 1) := by decide +kernel
abbrev Mm_compare : rx_M := (RX12, yX12_compare, cX12_compare, 5, (some .boolean), 7)
theorem km_compare : rKv Mm_compare 0 := ⟨tb_in (i := 20) (j := 13) rfl rfl, tb_in (i := 20) (j := 14) rfl rfl, tb_in (i := 17) (j := 21) rfl rfl, tb_in (i := 20) (j := 7) rfl rfl, ⟨by decide, by decide, by decide +kernel⟩, by decide⟩
def m_compare_j105 (x1 : Int32) (x2 : Int32) (x3 : Int32) (z_tape : Nat → Int32) (z_taped : Int32) (z_sign : Nat → Int32) (z_length : Nat → Int32) (z_next : Int32) (z_wrong : Int32) (z_number : Int32) (z_text : Int32) (z_made : Int32) : Option (Int32 × (Nat → Int32) × (Nat → Int32) × Int32 × Int32 × Int32 × Int32) := (m_makes x2 z_wrong z_made).bind (fun q8 => (if q8.1 = 0 then some ((0 : Int32), z_sign, z_length, z_next, q8.2.1, z_number, q8.2.2) else (if x1 = (60 : Int32) then (if x3 = 0 then (m_sum z_tape z_taped z_sign z_length z_next q8.2.1 z_number z_text q8.2.2).bind (fun q23 => (if q23.1 = 0 then some ((0 : Int32), q23.2.1, q23.2.2.1, q23.2.2.2.1, q23.2.2.2.2.1, q23.2.2.2.2.2.1, q23.2.2.2.2.2.2) else (m_puts ((6 : Int32) + (0 : Int32)) (0 : Int32) q23.2.1 q23.2.2.1 z_text).bind (fun q25 => some ((1 : Int32), q25.1, q25.2, q23.2.2.2.1, q23.2.2.2.2.1, q23.2.2.2.2.2.1, q23.2.2.2.2.2.2)))) else (m_sum z_tape z_taped z_sign z_length z_next q8.2.1 z_number z_text q8.2.2).bind (fun q26 => (if q26.1 = 0 then some ((0 : Int32), q26.2.1, q26.2.2.1, q26.2.2.2.1, q26.2.2.2.2.1, q26.2.2.2.2.2.1, q26.2.2.2.2.2.2) else (m_puts ((6 : Int32) + (1 : Int32)) (0 : Int32) q26.2.1 q26.2.2.1 z_text).bind (fun q28 => some ((1 : Int32), q28.1, q28.2, q26.2.2.2.1, q26.2.2.2.2.1, q26.2.2.2.2.2.1, q26.2.2.2.2.2.2))))) else (if x1 = (61 : Int32) then (m_sum z_tape z_taped z_sign z_length z_next q8.2.1 z_number z_text q8.2.2).bind (fun q19 => (if q19.1 = 0 then some ((0 : Int32), q19.2.1, q19.2.2.1, q19.2.2.2.1, q19.2.2.2.2.1, q19.2.2.2.2.2.1, q19.2.2.2.2.2.2) else (m_puts ((6 : Int32) + (2 : Int32)) (0 : Int32) q19.2.1 q19.2.2.1 z_text).bind (fun q21 => some ((1 : Int32), q21.1, q21.2, q19.2.2.2.1, q19.2.2.2.2.1, q19.2.2.2.2.2.1, q19.2.2.2.2.2.2)))) else (if x3 = 0 then (m_sum z_tape z_taped z_sign z_length z_next q8.2.1 z_number z_text q8.2.2).bind (fun q13 => (if q13.1 = 0 then some ((0 : Int32), q13.2.1, q13.2.2.1, q13.2.2.2.1, q13.2.2.2.2.1, q13.2.2.2.2.2.1, q13.2.2.2.2.2.2) else (m_puts ((6 : Int32) + (4 : Int32)) (0 : Int32) q13.2.1 q13.2.2.1 z_text).bind (fun q15 => some ((1 : Int32), q15.1, q15.2, q13.2.2.2.1, q13.2.2.2.2.1, q13.2.2.2.2.2.1, q13.2.2.2.2.2.2)))) else (m_sum z_tape z_taped z_sign z_length z_next q8.2.1 z_number z_text q8.2.2).bind (fun q16 => (if q16.1 = 0 then some ((0 : Int32), q16.2.1, q16.2.2.1, q16.2.2.2.1, q16.2.2.2.2.1, q16.2.2.2.2.2.1, q16.2.2.2.2.2.2) else (m_puts ((6 : Int32) + (3 : Int32)) (0 : Int32) q16.2.1 q16.2.2.1 z_text).bind (fun q18 => some ((1 : Int32), q18.1, q18.2, q16.2.2.2.1, q16.2.2.2.2.1, q16.2.2.2.2.2.1, q16.2.2.2.2.2.2)))))))))
set_option maxRecDepth 20000 in
theorem cm_compare_j105 {q : Int32 × (Nat → Int32) × (Nat → Int32) × Int32 × Int32 × Int32 × Int32} {x1 : Int32} {x2 : Int32} {x3 : Int32}  (h : m_compare_j105 x1 x2 x3 z_tape z_taped z_sign z_length z_next z_wrong z_number z_text z_made = some q) : rW l D Z (ty7 K) Mm_compare 105 [(0, .ref (ad 0)), (1, .int x1), (2, .int x2), (3, .int x3)] [] (wM K ad z_tape z_taped z_rules z_sign z_length z_clause z_clauses z_read z_next z_wrong z_number z_text z_made z_deep z_lines z_open z_opened z_stack z_top z_word z_said z_force z_x z_absent z_isRaining z_wasSaid z_undone z_kept z_order z_bestOrder z_hasBy z_wealthThen z_isFit z_tillThen z_drawX z_images z_imageForce z_imageX z_isMade) (wM K ad z_tape z_taped z_rules q.2.1 q.2.2.1 z_clause z_clauses z_read q.2.2.2.1 q.2.2.2.2.1 q.2.2.2.2.2.1 z_text q.2.2.2.2.2.2 z_deep z_lines z_open z_opened z_stack z_top z_word z_said z_force z_x z_absent z_isRaining z_wasSaid z_undone z_kept z_order z_bestOrder z_hasBy z_wealthThen z_isFit z_tillThen z_drawX z_images z_imageForce z_imageX z_isMade) (some (.int q.1)) := by
  unfold m_compare_j105 at h
  refine r_aload_n 0 dX12_compare_105 rfl ?_
  refine r_iload_n 2 dX12_compare_106 rfl ?_
  obtain ⟨q8, h8, h⟩ := bd_some h
  refine cvM (st := []) (cm_makes h8) rfl rfl (Nat.le_of_ble_eq_true rfl) km_makes (tb_in (i := 19) (j := 21) rfl rfl) (by decide) rfl dX12_compare_107 ?_
  refine r_if_ne 115 dX12_compare_110 (by decide) (fun c9 => ?_) (fun c9 => ?_)
  · replace h := it_neg c9 h
    refine r_iload_n 1 dX12_compare_115 rfl ?_
    refine r_bipush (x := (60 : Int32)) dX12_compare_116 (by decide) ?_
    refine r_icmp_ne 133 dX12_compare_118 (by decide) (fun c10 => ?_) (fun c10 => ?_)
    · replace h := it_neg c10 h
      refine r_iload_n 1 dX12_compare_133 rfl ?_
      refine r_bipush (x := (61 : Int32)) dX12_compare_134 (by decide) ?_
      refine r_icmp_ne 143 dX12_compare_136 (by decide) (fun c11 => ?_) (fun c11 => ?_)
      · replace h := it_neg c11 h
        refine r_iload_n 3 dX12_compare_143 rfl ?_
        refine r_if_eq 151 dX12_compare_144 (by decide) (fun c12 => ?_) (fun c12 => ?_)
        · replace h := it_pos c12 h
          refine r_iconst (x := (4 : Int32)) dX12_compare_151 (by decide) ?_
          refine r_istore (lv' := [(4, .int (4 : Int32)), (0, .ref (ad 0)), (1, .int x1), (2, .int x2), (3, .int x3)]) dX12_compare_152 (by decide) rfl ?_
          refine r_aload_n 1 dX12_compare_154 rfl ?_
          obtain ⟨q13, h13, h⟩ := bd_some h
          refine cvM (st := []) (cm_sum h13) rfl rfl (Nat.le_of_ble_eq_true rfl) km_sum (tb_in (i := 20) (j := 4) rfl rfl) (by decide) rfl dX12_compare_155 ?_
          refine r_if_ne 163 dX12_compare_158 (by decide) (fun c14 => ?_) (fun c14 => ?_)
          · replace h := it_neg c14 h
            refine r_aload_n 1 dX12_compare_163 rfl ?_
            refine r_bipush (x := (6 : Int32)) dX12_compare_164 (by decide) ?_
            refine r_iload 0 dX12_compare_166 rfl ?_
            refine r_iadd dX12_compare_168 ?_
            refine r_iconst (x := (0 : Int32)) dX12_compare_169 (by decide) ?_
            obtain ⟨q15, h15, h⟩ := bd_some h
            refine cvM (st := []) (cm_puts h15) rfl rfl (Nat.le_of_ble_eq_true rfl) km_puts (tb_in (i := 19) (j := 14) rfl rfl) (by decide) rfl dX12_compare_170 ?_
            refine r_iconst (x := (1 : Int32)) dX12_compare_173 (by decide) ?_
            have hq := Option.some.inj h
            subst hq
            exact r_zret (ty := .boolean) rfl rfl dX12_compare_174
          · replace h := it_pos c14 h
            refine r_iconst (x := (0 : Int32)) dX12_compare_161 (by decide) ?_
            have hq := Option.some.inj h
            subst hq
            exact r_zret (ty := .boolean) rfl rfl dX12_compare_162
        · replace h := it_neg c12 h
          refine r_iconst (x := (3 : Int32)) dX12_compare_147 (by decide) ?_
          refine r_goto 152 dX12_compare_148 (by decide) ?_
          refine r_istore (lv' := [(4, .int (3 : Int32)), (0, .ref (ad 0)), (1, .int x1), (2, .int x2), (3, .int x3)]) dX12_compare_152 (by decide) rfl ?_
          refine r_aload_n 1 dX12_compare_154 rfl ?_
          obtain ⟨q16, h16, h⟩ := bd_some h
          refine cvM (st := []) (cm_sum h16) rfl rfl (Nat.le_of_ble_eq_true rfl) km_sum (tb_in (i := 20) (j := 4) rfl rfl) (by decide) rfl dX12_compare_155 ?_
          refine r_if_ne 163 dX12_compare_158 (by decide) (fun c17 => ?_) (fun c17 => ?_)
          · replace h := it_neg c17 h
            refine r_aload_n 1 dX12_compare_163 rfl ?_
            refine r_bipush (x := (6 : Int32)) dX12_compare_164 (by decide) ?_
            refine r_iload 0 dX12_compare_166 rfl ?_
            refine r_iadd dX12_compare_168 ?_
            refine r_iconst (x := (0 : Int32)) dX12_compare_169 (by decide) ?_
            obtain ⟨q18, h18, h⟩ := bd_some h
            refine cvM (st := []) (cm_puts h18) rfl rfl (Nat.le_of_ble_eq_true rfl) km_puts (tb_in (i := 19) (j := 14) rfl rfl) (by decide) rfl dX12_compare_170 ?_
            refine r_iconst (x := (1 : Int32)) dX12_compare_173 (by decide) ?_
            have hq := Option.some.inj h
            subst hq
            exact r_zret (ty := .boolean) rfl rfl dX12_compare_174
          · replace h := it_pos c17 h
            refine r_iconst (x := (0 : Int32)) dX12_compare_161 (by decide) ?_
            have hq := Option.some.inj h
            subst hq
            exact r_zret (ty := .boolean) rfl rfl dX12_compare_162
      · replace h := it_pos c11 h
        refine r_iconst (x := (2 : Int32)) dX12_compare_139 (by decide) ?_
        refine r_goto 152 dX12_compare_140 (by decide) ?_
        refine r_istore (lv' := [(4, .int (2 : Int32)), (0, .ref (ad 0)), (1, .int x1), (2, .int x2), (3, .int x3)]) dX12_compare_152 (by decide) rfl ?_
        refine r_aload_n 1 dX12_compare_154 rfl ?_
        obtain ⟨q19, h19, h⟩ := bd_some h
        refine cvM (st := []) (cm_sum h19) rfl rfl (Nat.le_of_ble_eq_true rfl) km_sum (tb_in (i := 20) (j := 4) rfl rfl) (by decide) rfl dX12_compare_155 ?_
        refine r_if_ne 163 dX12_compare_158 (by decide) (fun c20 => ?_) (fun c20 => ?_)
        · replace h := it_neg c20 h
          refine r_aload_n 1 dX12_compare_163 rfl ?_
          refine r_bipush (x := (6 : Int32)) dX12_compare_164 (by decide) ?_
          refine r_iload 0 dX12_compare_166 rfl ?_
          refine r_iadd dX12_compare_168 ?_
          refine r_iconst (x := (0 : Int32)) dX12_compare_169 (by decide) ?_
          obtain ⟨q21, h21, h⟩ := bd_some h
          refine cvM (st := []) (cm_puts h21) rfl rfl (Nat.le_of_ble_eq_true rfl) km_puts (tb_in (i := 19) (j := 14) rfl rfl) (by decide) rfl dX12_compare_170 ?_
          refine r_iconst (x := (1 : Int32)) dX12_compare_173 (by decide) ?_
          have hq := Option.some.inj h
          subst hq
          exact r_zret (ty := .boolean) rfl rfl dX12_compare_174
        · replace h := it_pos c20 h
          refine r_iconst (x := (0 : Int32)) dX12_compare_161 (by decide) ?_
          have hq := Option.some.inj h
          subst hq
          exact r_zret (ty := .boolean) rfl rfl dX12_compare_162
    · replace h := it_pos c10 h
      refine r_iload_n 3 dX12_compare_121 rfl ?_
      refine r_if_eq 129 dX12_compare_122 (by decide) (fun c22 => ?_) (fun c22 => ?_)
      · replace h := it_pos c22 h
        refine r_iconst (x := (0 : Int32)) dX12_compare_129 (by decide) ?_
        refine r_goto 152 dX12_compare_130 (by decide) ?_
        refine r_istore (lv' := [(4, .int (0 : Int32)), (0, .ref (ad 0)), (1, .int x1), (2, .int x2), (3, .int x3)]) dX12_compare_152 (by decide) rfl ?_
        refine r_aload_n 1 dX12_compare_154 rfl ?_
        obtain ⟨q23, h23, h⟩ := bd_some h
        refine cvM (st := []) (cm_sum h23) rfl rfl (Nat.le_of_ble_eq_true rfl) km_sum (tb_in (i := 20) (j := 4) rfl rfl) (by decide) rfl dX12_compare_155 ?_
        refine r_if_ne 163 dX12_compare_158 (by decide) (fun c24 => ?_) (fun c24 => ?_)
        · replace h := it_neg c24 h
          refine r_aload_n 1 dX12_compare_163 rfl ?_
          refine r_bipush (x := (6 : Int32)) dX12_compare_164 (by decide) ?_
          refine r_iload 0 dX12_compare_166 rfl ?_
          refine r_iadd dX12_compare_168 ?_
          refine r_iconst (x := (0 : Int32)) dX12_compare_169 (by decide) ?_
          obtain ⟨q25, h25, h⟩ := bd_some h
          refine cvM (st := []) (cm_puts h25) rfl rfl (Nat.le_of_ble_eq_true rfl) km_puts (tb_in (i := 19) (j := 14) rfl rfl) (by decide) rfl dX12_compare_170 ?_
          refine r_iconst (x := (1 : Int32)) dX12_compare_173 (by decide) ?_
          have hq := Option.some.inj h
          subst hq
          exact r_zret (ty := .boolean) rfl rfl dX12_compare_174
        · replace h := it_pos c24 h
          refine r_iconst (x := (0 : Int32)) dX12_compare_161 (by decide) ?_
          have hq := Option.some.inj h
          subst hq
          exact r_zret (ty := .boolean) rfl rfl dX12_compare_162
      · replace h := it_neg c22 h
        refine r_iconst (x := (1 : Int32)) dX12_compare_125 (by decide) ?_
        refine r_goto 152 dX12_compare_126 (by decide) ?_
        refine r_istore (lv' := [(4, .int (1 : Int32)), (0, .ref (ad 0)), (1, .int x1), (2, .int x2), (3, .int x3)]) dX12_compare_152 (by decide) rfl ?_
        refine r_aload_n 1 dX12_compare_154 rfl ?_
        obtain ⟨q26, h26, h⟩ := bd_some h
        refine cvM (st := []) (cm_sum h26) rfl rfl (Nat.le_of_ble_eq_true rfl) km_sum (tb_in (i := 20) (j := 4) rfl rfl) (by decide) rfl dX12_compare_155 ?_
        refine r_if_ne 163 dX12_compare_158 (by decide) (fun c27 => ?_) (fun c27 => ?_)
        · replace h := it_neg c27 h
          refine r_aload_n 1 dX12_compare_163 rfl ?_
          refine r_bipush (x := (6 : Int32)) dX12_compare_164 (by decide) ?_
          refine r_iload 0 dX12_compare_166 rfl ?_
          refine r_iadd dX12_compare_168 ?_
          refine r_iconst (x := (0 : Int32)) dX12_compare_169 (by decide) ?_
          obtain ⟨q28, h28, h⟩ := bd_some h
          refine cvM (st := []) (cm_puts h28) rfl rfl (Nat.le_of_ble_eq_true rfl) km_puts (tb_in (i := 19) (j := 14) rfl rfl) (by decide) rfl dX12_compare_170 ?_
          refine r_iconst (x := (1 : Int32)) dX12_compare_173 (by decide) ?_
          have hq := Option.some.inj h
          subst hq
          exact r_zret (ty := .boolean) rfl rfl dX12_compare_174
        · replace h := it_pos c27 h
          refine r_iconst (x := (0 : Int32)) dX12_compare_161 (by decide) ?_
          have hq := Option.some.inj h
          subst hq
          exact r_zret (ty := .boolean) rfl rfl dX12_compare_162
  · replace h := it_pos c9 h
    refine r_iconst (x := (0 : Int32)) dX12_compare_113 (by decide) ?_
    have hq := Option.some.inj h
    subst hq
    exact r_zret (ty := .boolean) rfl rfl dX12_compare_114
def m_compare_j90 (x1 : Int32) (x2 : Int32) (z_tape : Nat → Int32) (z_taped : Int32) (z_sign : Nat → Int32) (z_length : Nat → Int32) (z_next : Int32) (z_wrong : Int32) (z_number : Int32) (z_text : Int32) (z_made : Int32) (s0 : Int32) : Option (Int32 × (Nat → Int32) × (Nat → Int32) × Int32 × Int32 × Int32 × Int32) := (if s0 = 0 then m_compare_j105 x1 x2 s0 z_tape z_taped z_sign z_length z_next z_wrong z_number z_text z_made else lt (z_next + (1 : Int32)) (fun y29 => m_compare_j105 x1 x2 s0 z_tape z_taped z_sign z_length y29 z_wrong z_number z_text z_made))
set_option maxRecDepth 20000 in
theorem cm_compare_j90 {q : Int32 × (Nat → Int32) × (Nat → Int32) × Int32 × Int32 × Int32 × Int32} {x1 : Int32} {x2 : Int32} {s0 : Int32}  (h : m_compare_j90 x1 x2 z_tape z_taped z_sign z_length z_next z_wrong z_number z_text z_made s0 = some q) : rW l D Z (ty7 K) Mm_compare 90 [(0, .ref (ad 0)), (1, .int x1), (2, .int x2)] [.int s0] (wM K ad z_tape z_taped z_rules z_sign z_length z_clause z_clauses z_read z_next z_wrong z_number z_text z_made z_deep z_lines z_open z_opened z_stack z_top z_word z_said z_force z_x z_absent z_isRaining z_wasSaid z_undone z_kept z_order z_bestOrder z_hasBy z_wealthThen z_isFit z_tillThen z_drawX z_images z_imageForce z_imageX z_isMade) (wM K ad z_tape z_taped z_rules q.2.1 q.2.2.1 z_clause z_clauses z_read q.2.2.2.1 q.2.2.2.2.1 q.2.2.2.2.2.1 z_text q.2.2.2.2.2.2 z_deep z_lines z_open z_opened z_stack z_top z_word z_said z_force z_x z_absent z_isRaining z_wasSaid z_undone z_kept z_order z_bestOrder z_hasBy z_wealthThen z_isFit z_tillThen z_drawX z_images z_imageForce z_imageX z_isMade) (some (.int q.1)) := by
  unfold m_compare_j90 at h
  refine r_istore_n (lv' := [(3, .int s0), (0, .ref (ad 0)), (1, .int x1), (2, .int x2)]) dX12_compare_90 (by decide) rfl ?_
  refine r_iload_n 0 dX12_compare_91 rfl ?_
  refine r_if_eq 105 dX12_compare_92 (by decide) (fun c7 => ?_) (fun c7 => ?_)
  · replace h := it_pos c7 h
    refine r_sub (lv' := [(0, .ref (ad 0)), (1, .int x1), (2, .int x2), (3, .int s0)]) [1, 2, 3, 0] rfl ?_
    exact cm_compare_j105  h
  · replace h := it_neg c7 h
    refine r_aload_n 1 dX12_compare_95 rfl ?_
    refine r_dup dX12_compare_96 rfl ?_
    refine gM_next rfl dX12_compare_97 ?_
    refine r_iconst (x := (1 : Int32)) dX12_compare_100 (by decide) ?_
    refine r_iadd dX12_compare_101 ?_
    obtain ⟨y29, e29, h⟩ := lt_some h
    refine r_top e29 ?_
    refine pM_next rfl dX12_compare_102 ?_
    refine r_sub (lv' := [(0, .ref (ad 0)), (1, .int x1), (2, .int x2), (3, .int s0)]) [1, 2, 3, 0] rfl ?_
    exact cm_compare_j105  h
def m_compare_j89 (x1 : Int32) (x2 : Int32) (z_tape : Nat → Int32) (z_taped : Int32) (z_sign : Nat → Int32) (z_length : Nat → Int32) (z_next : Int32) (z_wrong : Int32) (z_number : Int32) (z_text : Int32) (z_made : Int32) : Option (Int32 × (Nat → Int32) × (Nat → Int32) × Int32 × Int32 × Int32 × Int32) := m_compare_j90 x1 x2 z_tape z_taped z_sign z_length z_next z_wrong z_number z_text z_made (0 : Int32)
set_option maxRecDepth 20000 in
theorem cm_compare_j89 {q : Int32 × (Nat → Int32) × (Nat → Int32) × Int32 × Int32 × Int32 × Int32} {x1 : Int32} {x2 : Int32}  (h : m_compare_j89 x1 x2 z_tape z_taped z_sign z_length z_next z_wrong z_number z_text z_made = some q) : rW l D Z (ty7 K) Mm_compare 89 [(0, .ref (ad 0)), (1, .int x1), (2, .int x2)] [] (wM K ad z_tape z_taped z_rules z_sign z_length z_clause z_clauses z_read z_next z_wrong z_number z_text z_made z_deep z_lines z_open z_opened z_stack z_top z_word z_said z_force z_x z_absent z_isRaining z_wasSaid z_undone z_kept z_order z_bestOrder z_hasBy z_wealthThen z_isFit z_tillThen z_drawX z_images z_imageForce z_imageX z_isMade) (wM K ad z_tape z_taped z_rules q.2.1 q.2.2.1 z_clause z_clauses z_read q.2.2.2.1 q.2.2.2.2.1 q.2.2.2.2.2.1 z_text q.2.2.2.2.2.2 z_deep z_lines z_open z_opened z_stack z_top z_word z_said z_force z_x z_absent z_isRaining z_wasSaid z_undone z_kept z_order z_bestOrder z_hasBy z_wealthThen z_isFit z_tillThen z_drawX z_images z_imageForce z_imageX z_isMade) (some (.int q.1)) := by
  unfold m_compare_j89 at h
  refine r_iconst (x := (0 : Int32)) dX12_compare_89 (by decide) ?_
  exact cm_compare_j90  h
def m_compare_j44 (x1 : Int32) (x2 : Int32) (z_tape : Nat → Int32) (z_taped : Int32) (z_sign : Nat → Int32) (z_length : Nat → Int32) (z_next : Int32) (z_wrong : Int32) (z_number : Int32) (z_text : Int32) (z_made : Int32) : Option (Int32 × (Nat → Int32) × (Nat → Int32) × Int32 × Int32 × Int32 × Int32) := lt (z_next + (1 : Int32)) (fun y5 => (if x1 = (61 : Int32) then m_compare_j89 x1 x2 z_tape z_taped z_sign z_length y5 z_wrong z_number z_text z_made else (if z_taped ≤ y5 then m_compare_j89 x1 x2 z_tape z_taped z_sign z_length y5 z_wrong z_number z_text z_made else rq (inb y5 400) ((if (z_tape y5.toNatClampNeg) = (61 : Int32) then m_compare_j90 x1 x2 z_tape z_taped z_sign z_length y5 z_wrong z_number z_text z_made (1 : Int32) else m_compare_j89 x1 x2 z_tape z_taped z_sign z_length y5 z_wrong z_number z_text z_made)))))
set_option maxRecDepth 20000 in
theorem cm_compare_j44 {q : Int32 × (Nat → Int32) × (Nat → Int32) × Int32 × Int32 × Int32 × Int32} {x1 : Int32} {x2 : Int32}  (h : m_compare_j44 x1 x2 z_tape z_taped z_sign z_length z_next z_wrong z_number z_text z_made = some q) : rW l D Z (ty7 K) Mm_compare 44 [(0, .ref (ad 0)), (1, .int x1), (2, .int x2)] [] (wM K ad z_tape z_taped z_rules z_sign z_length z_clause z_clauses z_read z_next z_wrong z_number z_text z_made z_deep z_lines z_open z_opened z_stack z_top z_word z_said z_force z_x z_absent z_isRaining z_wasSaid z_undone z_kept z_order z_bestOrder z_hasBy z_wealthThen z_isFit z_tillThen z_drawX z_images z_imageForce z_imageX z_isMade) (wM K ad z_tape z_taped z_rules q.2.1 q.2.2.1 z_clause z_clauses z_read q.2.2.2.1 q.2.2.2.2.1 q.2.2.2.2.2.1 z_text q.2.2.2.2.2.2 z_deep z_lines z_open z_opened z_stack z_top z_word z_said z_force z_x z_absent z_isRaining z_wasSaid z_undone z_kept z_order z_bestOrder z_hasBy z_wealthThen z_isFit z_tillThen z_drawX z_images z_imageForce z_imageX z_isMade) (some (.int q.1)) := by
  unfold m_compare_j44 at h
  refine r_aload_n 0 dX12_compare_44 rfl ?_
  refine r_dup dX12_compare_45 rfl ?_
  refine gM_next rfl dX12_compare_46 ?_
  refine r_iconst (x := (1 : Int32)) dX12_compare_49 (by decide) ?_
  refine r_iadd dX12_compare_50 ?_
  obtain ⟨y5, e5, h⟩ := lt_some h
  refine r_top e5 ?_
  refine pM_next rfl dX12_compare_51 ?_
  refine r_iload_n 1 dX12_compare_54 rfl ?_
  refine r_bipush (x := (61 : Int32)) dX12_compare_55 (by decide) ?_
  refine r_icmp_eq 89 dX12_compare_57 (by decide) (fun c6 => ?_) (fun c6 => ?_)
  · replace h := it_pos c6 h
    exact cm_compare_j89  h
  · replace h := it_neg c6 h
    refine r_aload_n 0 dX12_compare_60 rfl ?_
    refine gM_next rfl dX12_compare_61 ?_
    refine r_aload_n 0 dX12_compare_64 rfl ?_
    refine gM_taped rfl dX12_compare_65 ?_
    refine r_icmp_ge 89 dX12_compare_68 (by decide) (fun c30 => ?_) (fun c30 => ?_)
    · replace h := it_pos c30 h
      exact cm_compare_j89  h
    · replace h := it_neg c30 h
      refine r_aload_n 0 dX12_compare_71 rfl ?_
      refine gM_tape rfl dX12_compare_72 ?_
      refine r_aload_n 0 dX12_compare_75 rfl ?_
      refine gM_next rfl dX12_compare_76 ?_
      obtain ⟨h31, h⟩ := rq_some h
      refine lM_tape (inb_in h31) dX12_compare_79 ?_
      refine r_bipush (x := (61 : Int32)) dX12_compare_80 (by decide) ?_
      refine r_icmp_ne 89 dX12_compare_82 (by decide) (fun c32 => ?_) (fun c32 => ?_)
      · replace h := it_neg c32 h
        exact cm_compare_j89  h
      · replace h := it_pos c32 h
        refine r_iconst (x := (1 : Int32)) dX12_compare_85 (by decide) ?_
        refine r_goto 90 dX12_compare_86 (by decide) ?_
        exact cm_compare_j90  h
def m_compare (z_tape : Nat → Int32) (z_taped : Int32) (z_sign : Nat → Int32) (z_length : Nat → Int32) (z_next : Int32) (z_wrong : Int32) (z_number : Int32) (z_text : Int32) (z_made : Int32) : Option (Int32 × (Nat → Int32) × (Nat → Int32) × Int32 × Int32 × Int32 × Int32) := (m_sum z_tape z_taped z_sign z_length z_next z_wrong z_number z_text z_made).bind (fun q1 => (if q1.1 = 0 then some ((0 : Int32), q1.2.1, q1.2.2.1, q1.2.2.2.1, q1.2.2.2.2.1, q1.2.2.2.2.2.1, q1.2.2.2.2.2.2) else (m_see z_tape z_taped q1.2.2.2.1).bind (fun q3 => (if q3.1 = (60 : Int32) then m_compare_j44 q3.1 q3.2 z_tape z_taped q1.2.1 q1.2.2.1 q3.2 q1.2.2.2.2.1 q1.2.2.2.2.2.1 z_text q1.2.2.2.2.2.2 else (if q3.1 = (61 : Int32) then m_compare_j44 q3.1 q3.2 z_tape z_taped q1.2.1 q1.2.2.1 q3.2 q1.2.2.2.2.1 q1.2.2.2.2.2.1 z_text q1.2.2.2.2.2.2 else (if q3.1 = (62 : Int32) then m_compare_j44 q3.1 q3.2 z_tape z_taped q1.2.1 q1.2.2.1 q3.2 q1.2.2.2.2.1 q1.2.2.2.2.2.1 z_text q1.2.2.2.2.2.2 else (m_fails (0 : Int32) q3.2 q1.2.2.2.2.1).bind (fun q35 => rq (bo q35.1) (some (q35.1, q1.2.1, q1.2.2.1, q3.2, q35.2, q1.2.2.2.2.2.1, q1.2.2.2.2.2.2)))))))))
set_option maxRecDepth 20000 in
theorem cm_compare {q : Int32 × (Nat → Int32) × (Nat → Int32) × Int32 × Int32 × Int32 × Int32}  (h : m_compare z_tape z_taped z_sign z_length z_next z_wrong z_number z_text z_made = some q) : rMet l D Z (ty7 K) Mm_compare [.ref (ad 0)] (wM K ad z_tape z_taped z_rules z_sign z_length z_clause z_clauses z_read z_next z_wrong z_number z_text z_made z_deep z_lines z_open z_opened z_stack z_top z_word z_said z_force z_x z_absent z_isRaining z_wasSaid z_undone z_kept z_order z_bestOrder z_hasBy z_wealthThen z_isFit z_tillThen z_drawX z_images z_imageForce z_imageX z_isMade) (wM K ad z_tape z_taped z_rules q.2.1 q.2.2.1 z_clause z_clauses z_read q.2.2.2.1 q.2.2.2.2.1 q.2.2.2.2.2.1 z_text q.2.2.2.2.2.2 z_deep z_lines z_open z_opened z_stack z_top z_word z_said z_force z_x z_absent z_isRaining z_wasSaid z_undone z_kept z_order z_bestOrder z_hasBy z_wealthThen z_isFit z_tillThen z_drawX z_images z_imageForce z_imageX z_isMade) (some (.int q.1)) := by
  refine rMet.of (by decide) rfl (Nat.le_of_ble_eq_true rfl) ?_
  refine r_sub (lv' := [(0, .ref (ad 0))]) [0] rfl ?_
  unfold m_compare at h
  refine r_aload_n 0 dX12_compare_0 rfl ?_
  obtain ⟨q1, h1, h⟩ := bd_some h
  refine cvM (st := []) (cm_sum h1) rfl rfl (Nat.le_of_ble_eq_true rfl) km_sum (tb_in (i := 20) (j := 4) rfl rfl) (by decide) rfl dX12_compare_1 ?_
  refine r_if_ne 9 dX12_compare_4 (by decide) (fun c2 => ?_) (fun c2 => ?_)
  · replace h := it_neg c2 h
    refine r_aload_n 0 dX12_compare_9 rfl ?_
    obtain ⟨q3, h3, h⟩ := bd_some h
    refine cvM (st := []) (cm_see h3) rfl rfl (Nat.le_of_ble_eq_true rfl) km_see (tb_in (i := 17) (j := 30) rfl rfl) (by decide) rfl dX12_compare_10 ?_
    refine r_istore_n (lv' := [(1, .int q3.1), (0, .ref (ad 0))]) dX12_compare_13 (by decide) rfl ?_
    refine r_aload_n 1 dX12_compare_14 rfl ?_
    refine gM_next rfl dX12_compare_15 ?_
    refine r_istore_n (lv' := [(2, .int q3.2), (1, .int q3.1), (0, .ref (ad 0))]) dX12_compare_18 (by decide) rfl ?_
    refine r_iload_n 1 dX12_compare_19 rfl ?_
    refine r_bipush (x := (60 : Int32)) dX12_compare_20 (by decide) ?_
    refine r_icmp_eq 44 dX12_compare_22 (by decide) (fun c4 => ?_) (fun c4 => ?_)
    · replace h := it_pos c4 h
      refine r_sub (lv' := [(0, .ref (ad 0)), (1, .int q3.1), (2, .int q3.2)]) [2, 1, 0] rfl ?_
      exact cm_compare_j44  h
    · replace h := it_neg c4 h
      refine r_iload_n 1 dX12_compare_25 rfl ?_
      refine r_bipush (x := (61 : Int32)) dX12_compare_26 (by decide) ?_
      refine r_icmp_eq 44 dX12_compare_28 (by decide) (fun c33 => ?_) (fun c33 => ?_)
      · replace h := it_pos c33 h
        refine r_sub (lv' := [(0, .ref (ad 0)), (1, .int q3.1), (2, .int q3.2)]) [2, 1, 0] rfl ?_
        exact cm_compare_j44  h
      · replace h := it_neg c33 h
        refine r_iload_n 1 dX12_compare_31 rfl ?_
        refine r_bipush (x := (62 : Int32)) dX12_compare_32 (by decide) ?_
        refine r_icmp_eq 44 dX12_compare_34 (by decide) (fun c34 => ?_) (fun c34 => ?_)
        · replace h := it_pos c34 h
          refine r_sub (lv' := [(0, .ref (ad 0)), (1, .int q3.1), (2, .int q3.2)]) [2, 1, 0] rfl ?_
          exact cm_compare_j44  h
        · replace h := it_neg c34 h
          refine r_aload_n 2 dX12_compare_37 rfl ?_
          refine r_iconst (x := (0 : Int32)) dX12_compare_38 (by decide) ?_
          refine r_iload_n 0 dX12_compare_39 rfl ?_
          obtain ⟨q35, h35, h⟩ := bd_some h
          refine cvM (st := []) (cm_fails h35) rfl rfl (Nat.le_of_ble_eq_true rfl) km_fails (tb_in (i := 18) (j := 17) rfl rfl) (by decide) rfl dX12_compare_40 ?_
          obtain ⟨h36, h⟩ := rq_some h
          have hq := Option.some.inj h
          subst hq
          exact r_zret (ty := .boolean) rfl (bo_nar h36) dX12_compare_43
  · replace h := it_pos c2 h
    refine r_iconst (x := (0 : Int32)) dX12_compare_7 (by decide) ?_
    have hq := Option.some.inj h
    subst hq
    exact r_zret (ty := .boolean) rfl rfl dX12_compare_8
end PM0
