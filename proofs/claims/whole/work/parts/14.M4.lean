section PM4
variable {l : Launch} {D : va_G} {Z : (Nat → Nat) × (Nat → Nat)} {K : Nat → ClassId} {ad : Nat → Nat} {tys : List (ClassId × FieldType)} {ws : va_W}
variable {z_tape : Nat → Int32} {z_taped : Int32} {z_rules : Int32} {z_sign : Nat → Int32} {z_length : Nat → Int32} {z_clause : Nat → Int32} {z_clauses : Nat → Int32} {z_read : Nat → Int32} {z_next : Int32} {z_wrong : Int32} {z_number : Int32} {z_text : Int32} {z_made : Int32} {z_deep : Int32} {z_lines : Int32} {z_open : Nat → Int32} {z_opened : Int32} {z_stack : Nat → Int64} {z_top : Int32} {z_word : Nat → Int64} {z_said : Nat → Int32} {z_force : Int32} {z_x : Int32} {z_absent : Int32} {z_isRaining : Int32} {z_wasSaid : Nat → Int32} {z_undone : Int32} {z_kept : Nat → Int32} {z_order : Nat → Int32} {z_bestOrder : Nat → Int32} {z_hasBy : Nat → Int32} {z_wealthThen : Nat → Int32} {z_isFit : Nat → Int32} {z_tillThen : Nat → Int32} {z_drawX : Int64} {z_images : Nat → Int32} {z_imageForce : Nat → Int32} {z_imageX : Nat → Int32} {z_isMade : Nat → Int32}
theorem dX12_standsAsOrder_0 : decode cX12_standsAsOrder 0 = .ok (.iconst 0, 1) := by decide +kernel
theorem dX12_standsAsOrder_1 : decode cX12_standsAsOrder 1 = .ok (.istore_n 1, 1) := by decide +kernel
theorem dX12_standsAsOrder_2 : decode cX12_standsAsOrder 2 = .ok (.iload_n 1, 1) := by decide +kernel
theorem dX12_standsAsOrder_3 : decode cX12_standsAsOrder 3 = .ok (.aload_n 0, 1) := by decide +kernel
theorem dX12_standsAsOrder_4 : decode cX12_standsAsOrder 4 = .ok (.getfield 39, 3) := by decide +kernel
theorem dX12_standsAsOrder_7 : decode cX12_standsAsOrder 7 = .ok (.iconst 3, 1) := by decide +kernel
theorem dX12_standsAsOrder_8 : decode cX12_standsAsOrder 8 = .ok (.iaload, 1) := by decide +kernel
theorem dX12_standsAsOrder_9 : decode cX12_standsAsOrder 9 = .ok (.if_icmp .ge 24, 3) := by decide +kernel
theorem dX12_standsAsOrder_12 : decode cX12_standsAsOrder 12 = .ok (.aload_n 0, 1) := by decide +kernel
theorem dX12_standsAsOrder_13 : decode cX12_standsAsOrder 13 = .ok (.getfield 39, 3) := by decide +kernel
theorem dX12_standsAsOrder_16 : decode cX12_standsAsOrder 16 = .ok (.bipush 35, 2) := by decide +kernel
theorem dX12_standsAsOrder_18 : decode cX12_standsAsOrder 18 = .ok (.iload_n 1, 1) := by decide +kernel
theorem dX12_standsAsOrder_19 : decode cX12_standsAsOrder 19 = .ok (.iadd, 1) := by decide +kernel
theorem dX12_standsAsOrder_20 : decode cX12_standsAsOrder 20 = .ok (.aload_n 0, 1) := by decide +kernel
theorem dX12_standsAsOrder_21 : decode cX12_standsAsOrder 21 = .ok (.getfield 55, 3) := by decide +kernel
theorem dX12_standsAsOrder_24 : decode cX12_standsAsOrder 24 = .ok (.iload_n 1, 1) := by decide +kernel
theorem dX12_standsAsOrder_25 : decode cX12_standsAsOrder 25 = .ok (.iaload, 1) := by decide +kernel
theorem dX12_standsAsOrder_26 : decode cX12_standsAsOrder 26 = .ok (.iastore, 1) := by decide +kernel
theorem dX12_standsAsOrder_27 : decode cX12_standsAsOrder 27 = .ok (.iinc 1 1, 3) := by decide +kernel
theorem dX12_standsAsOrder_30 : decode cX12_standsAsOrder 30 = .ok (.goto (-28), 3) := by decide +kernel
theorem dX12_standsAsOrder_33 : decode cX12_standsAsOrder 33 = .ok (.return_, 1) := by decide +kernel
abbrev Mm_standsAsOrder : rx_M := (RX12, yX12_standsAsOrder, cX12_standsAsOrder, 2, none, 1)
theorem km_standsAsOrder : rKv Mm_standsAsOrder 0 := ⟨tb_in (i := 27) (j := 27) rfl rfl, tb_in (i := 27) (j := 28) rfl rfl, tb_in (i := 17) (j := 21) rfl rfl, tb_in (i := 27) (j := 19) rfl rfl, ⟨by decide, by decide, by decide +kernel⟩, by decide⟩
def m_standsAsOrder_l2 (z_order : Nat → Int32) : Nat → Int32 → (Nat → Int32) → Option ((Nat → Int32))
  | 0, _, _ => none
  | n + 1, x1, z_said => rq (inb (3 : Int32) 156) ((if (z_said (3 : Int32).toNatClampNeg) ≤ x1 then some (z_said) else rq (inb x1 6) (rq (inb ((35 : Int32) + x1) 156) (lt (upd z_said ((35 : Int32) + x1).toNatClampNeg (z_order x1.toNatClampNeg)) (fun u4 => m_standsAsOrder_l2 z_order n (x1 + (1 : Int32)) u4)))))
set_option maxRecDepth 20000 in
theorem cm_standsAsOrder_l2 {q : (Nat → Int32)}   : ∀ (n : Nat) (x1 : Int32) (z_said : Nat → Int32), m_standsAsOrder_l2 z_order n x1 z_said = some q → rW l D Z (ty7 K) Mm_standsAsOrder 2 [(0, .ref (ad 0)), (1, .int x1)] [] (wM K ad z_tape z_taped z_rules z_sign z_length z_clause z_clauses z_read z_next z_wrong z_number z_text z_made z_deep z_lines z_open z_opened z_stack z_top z_word z_said z_force z_x z_absent z_isRaining z_wasSaid z_undone z_kept z_order z_bestOrder z_hasBy z_wealthThen z_isFit z_tillThen z_drawX z_images z_imageForce z_imageX z_isMade) (wM K ad z_tape z_taped z_rules z_sign z_length z_clause z_clauses z_read z_next z_wrong z_number z_text z_made z_deep z_lines z_open z_opened z_stack z_top z_word q z_force z_x z_absent z_isRaining z_wasSaid z_undone z_kept z_order z_bestOrder z_hasBy z_wealthThen z_isFit z_tillThen z_drawX z_images z_imageForce z_imageX z_isMade) none := by
  intro n
  induction n with
  | zero => intro x1 z_said h; unfold m_standsAsOrder_l2 at h; cases h
  | succ n ih =>
    intro x1 z_said h
    unfold m_standsAsOrder_l2 at h
    refine r_iload_n 1 dX12_standsAsOrder_2 rfl ?_
    refine r_aload_n 0 dX12_standsAsOrder_3 rfl ?_
    refine gM_said rfl dX12_standsAsOrder_4 ?_
    refine r_iconst (x := (3 : Int32)) dX12_standsAsOrder_7 (by decide) ?_
    obtain ⟨h1, h⟩ := rq_some h
    refine lM_said (inb_in h1) dX12_standsAsOrder_8 ?_
    refine r_icmp_ge 33 dX12_standsAsOrder_9 (by decide) (fun c2 => ?_) (fun c2 => ?_)
    · replace h := it_pos c2 h
      have hq := Option.some.inj h
      subst hq
      exact r_vret rfl dX12_standsAsOrder_33
    · replace h := it_neg c2 h
      refine r_aload_n 0 dX12_standsAsOrder_12 rfl ?_
      refine gM_said rfl dX12_standsAsOrder_13 ?_
      refine r_bipush (x := (35 : Int32)) dX12_standsAsOrder_16 (by decide) ?_
      refine r_iload_n 1 dX12_standsAsOrder_18 rfl ?_
      refine r_iadd dX12_standsAsOrder_19 ?_
      refine r_aload_n 0 dX12_standsAsOrder_20 rfl ?_
      refine gM_order rfl dX12_standsAsOrder_21 ?_
      refine r_iload_n 1 dX12_standsAsOrder_24 rfl ?_
      obtain ⟨h3, h⟩ := rq_some h
      refine lM_order (inb_in h3) dX12_standsAsOrder_25 ?_
      obtain ⟨h4, h⟩ := rq_some h
      obtain ⟨u4, e4, h⟩ := lt_some h
      refine sM_said e4 (inb_in h4) dX12_standsAsOrder_26 ?_
      refine r_iinc (y := (x1 + (1 : Int32))) (lv' := [(1, .int (x1 + (1 : Int32))), (0, .ref (ad 0))]) 1 dX12_standsAsOrder_27 rfl rfl (by decide) rfl ?_
      refine r_goto 2 dX12_standsAsOrder_30 (by decide) ?_
      refine r_sub (lv' := [(0, .ref (ad 0)), (1, .int (x1 + (1 : Int32)))]) [1, 0] rfl ?_
      exact ih _ _ h
def m_standsAsOrder (z_said : Nat → Int32) (z_order : Nat → Int32) : Option ((Nat → Int32)) := m_standsAsOrder_l2 z_order FU (0 : Int32) z_said
set_option maxRecDepth 20000 in
theorem cm_standsAsOrder {q : (Nat → Int32)}  (h : m_standsAsOrder z_said z_order = some q) : rMet l D Z (ty7 K) Mm_standsAsOrder [.ref (ad 0)] (wM K ad z_tape z_taped z_rules z_sign z_length z_clause z_clauses z_read z_next z_wrong z_number z_text z_made z_deep z_lines z_open z_opened z_stack z_top z_word z_said z_force z_x z_absent z_isRaining z_wasSaid z_undone z_kept z_order z_bestOrder z_hasBy z_wealthThen z_isFit z_tillThen z_drawX z_images z_imageForce z_imageX z_isMade) (wM K ad z_tape z_taped z_rules z_sign z_length z_clause z_clauses z_read z_next z_wrong z_number z_text z_made z_deep z_lines z_open z_opened z_stack z_top z_word q z_force z_x z_absent z_isRaining z_wasSaid z_undone z_kept z_order z_bestOrder z_hasBy z_wealthThen z_isFit z_tillThen z_drawX z_images z_imageForce z_imageX z_isMade) none := by
  refine rMet.of (by decide) rfl (Nat.le_of_ble_eq_true rfl) ?_
  refine r_sub (lv' := [(0, .ref (ad 0))]) [0] rfl ?_
  unfold m_standsAsOrder at h
  refine r_iconst (x := (0 : Int32)) dX12_standsAsOrder_0 (by decide) ?_
  refine r_istore_n (lv' := [(1, .int (0 : Int32)), (0, .ref (ad 0))]) dX12_standsAsOrder_1 (by decide) rfl ?_
  refine r_sub (lv' := [(0, .ref (ad 0)), (1, .int (0 : Int32))]) [1, 0] rfl ?_
  exact cm_standsAsOrder_l2  FU _ _ h
theorem dX12_keepsOrder_0 : decode cX12_keepsOrder 0 = .ok (.iconst 0, 1) := by decide +kernel
theorem dX12_keepsOrder_1 : decode cX12_keepsOrder 1 = .ok (.istore_n 1, 1) := by decide +kernel
theorem dX12_keepsOrder_2 : decode cX12_keepsOrder 2 = .ok (.iload_n 1, 1) := by decide +kernel
theorem dX12_keepsOrder_3 : decode cX12_keepsOrder 3 = .ok (.bipush 6, 2) := by decide +kernel
theorem dX12_keepsOrder_5 : decode cX12_keepsOrder 5 = .ok (.if_icmp .ge 21, 3) := by decide +kernel
theorem dX12_keepsOrder_8 : decode cX12_keepsOrder 8 = .ok (.aload_n 0, 1) := by decide +kernel
theorem dX12_keepsOrder_9 : decode cX12_keepsOrder 9 = .ok (.getfield 58, 3) := by decide +kernel
theorem dX12_keepsOrder_12 : decode cX12_keepsOrder 12 = .ok (.iload_n 1, 1) := by decide +kernel
theorem dX12_keepsOrder_13 : decode cX12_keepsOrder 13 = .ok (.aload_n 0, 1) := by decide +kernel
theorem dX12_keepsOrder_14 : decode cX12_keepsOrder 14 = .ok (.getfield 55, 3) := by decide +kernel
theorem dX12_keepsOrder_17 : decode cX12_keepsOrder 17 = .ok (.iload_n 1, 1) := by decide +kernel
theorem dX12_keepsOrder_18 : decode cX12_keepsOrder 18 = .ok (.iaload, 1) := by decide +kernel
theorem dX12_keepsOrder_19 : decode cX12_keepsOrder 19 = .ok (.iastore, 1) := by decide +kernel
theorem dX12_keepsOrder_20 : decode cX12_keepsOrder 20 = .ok (.iinc 1 1, 3) := by decide +kernel
theorem dX12_keepsOrder_23 : decode cX12_keepsOrder 23 = .ok (.goto (-21), 3) := by decide +kernel
theorem dX12_keepsOrder_26 : decode cX12_keepsOrder 26 = .ok (.return_, 1) := by decide +kernel
abbrev Mm_keepsOrder : rx_M := (RX12, yX12_keepsOrder, cX12_keepsOrder, 2, none, 1)
theorem km_keepsOrder : rKv Mm_keepsOrder 0 := ⟨tb_in (i := 27) (j := 30) rfl rfl, tb_in (i := 27) (j := 31) rfl rfl, tb_in (i := 17) (j := 21) rfl rfl, tb_in (i := 27) (j := 20) rfl rfl, ⟨by decide, by decide, by decide +kernel⟩, by decide⟩
def m_keepsOrder_l2 (z_order : Nat → Int32) : Nat → Int32 → (Nat → Int32) → Option ((Nat → Int32))
  | 0, _, _ => none
  | n + 1, x1, z_bestOrder => (if (6 : Int32) ≤ x1 then some (z_bestOrder) else rq (inb x1 6) (rq (inb x1 6) (lt (upd z_bestOrder x1.toNatClampNeg (z_order x1.toNatClampNeg)) (fun u3 => m_keepsOrder_l2 z_order n (x1 + (1 : Int32)) u3))))
set_option maxRecDepth 20000 in
theorem cm_keepsOrder_l2 {q : (Nat → Int32)}   : ∀ (n : Nat) (x1 : Int32) (z_bestOrder : Nat → Int32), m_keepsOrder_l2 z_order n x1 z_bestOrder = some q → rW l D Z (ty7 K) Mm_keepsOrder 2 [(0, .ref (ad 0)), (1, .int x1)] [] (wM K ad z_tape z_taped z_rules z_sign z_length z_clause z_clauses z_read z_next z_wrong z_number z_text z_made z_deep z_lines z_open z_opened z_stack z_top z_word z_said z_force z_x z_absent z_isRaining z_wasSaid z_undone z_kept z_order z_bestOrder z_hasBy z_wealthThen z_isFit z_tillThen z_drawX z_images z_imageForce z_imageX z_isMade) (wM K ad z_tape z_taped z_rules z_sign z_length z_clause z_clauses z_read z_next z_wrong z_number z_text z_made z_deep z_lines z_open z_opened z_stack z_top z_word z_said z_force z_x z_absent z_isRaining z_wasSaid z_undone z_kept z_order q z_hasBy z_wealthThen z_isFit z_tillThen z_drawX z_images z_imageForce z_imageX z_isMade) none := by
  intro n
  induction n with
  | zero => intro x1 z_bestOrder h; unfold m_keepsOrder_l2 at h; cases h
  | succ n ih =>
    intro x1 z_bestOrder h
    unfold m_keepsOrder_l2 at h
    refine r_iload_n 1 dX12_keepsOrder_2 rfl ?_
    refine r_bipush (x := (6 : Int32)) dX12_keepsOrder_3 (by decide) ?_
    refine r_icmp_ge 26 dX12_keepsOrder_5 (by decide) (fun c1 => ?_) (fun c1 => ?_)
    · replace h := it_pos c1 h
      have hq := Option.some.inj h
      subst hq
      exact r_vret rfl dX12_keepsOrder_26
    · replace h := it_neg c1 h
      refine r_aload_n 0 dX12_keepsOrder_8 rfl ?_
      refine gM_bestOrder rfl dX12_keepsOrder_9 ?_
      refine r_iload_n 1 dX12_keepsOrder_12 rfl ?_
      refine r_aload_n 0 dX12_keepsOrder_13 rfl ?_
      refine gM_order rfl dX12_keepsOrder_14 ?_
      refine r_iload_n 1 dX12_keepsOrder_17 rfl ?_
      obtain ⟨h2, h⟩ := rq_some h
      refine lM_order (inb_in h2) dX12_keepsOrder_18 ?_
      obtain ⟨h3, h⟩ := rq_some h
      obtain ⟨u3, e3, h⟩ := lt_some h
      refine sM_bestOrder e3 (inb_in h3) dX12_keepsOrder_19 ?_
      refine r_iinc (y := (x1 + (1 : Int32))) (lv' := [(1, .int (x1 + (1 : Int32))), (0, .ref (ad 0))]) 1 dX12_keepsOrder_20 rfl rfl (by decide) rfl ?_
      refine r_goto 2 dX12_keepsOrder_23 (by decide) ?_
      refine r_sub (lv' := [(0, .ref (ad 0)), (1, .int (x1 + (1 : Int32)))]) [1, 0] rfl ?_
      exact ih _ _ h
def m_keepsOrder (z_order : Nat → Int32) (z_bestOrder : Nat → Int32) : Option ((Nat → Int32)) := m_keepsOrder_l2 z_order FU (0 : Int32) z_bestOrder
set_option maxRecDepth 20000 in
theorem cm_keepsOrder {q : (Nat → Int32)}  (h : m_keepsOrder z_order z_bestOrder = some q) : rMet l D Z (ty7 K) Mm_keepsOrder [.ref (ad 0)] (wM K ad z_tape z_taped z_rules z_sign z_length z_clause z_clauses z_read z_next z_wrong z_number z_text z_made z_deep z_lines z_open z_opened z_stack z_top z_word z_said z_force z_x z_absent z_isRaining z_wasSaid z_undone z_kept z_order z_bestOrder z_hasBy z_wealthThen z_isFit z_tillThen z_drawX z_images z_imageForce z_imageX z_isMade) (wM K ad z_tape z_taped z_rules z_sign z_length z_clause z_clauses z_read z_next z_wrong z_number z_text z_made z_deep z_lines z_open z_opened z_stack z_top z_word z_said z_force z_x z_absent z_isRaining z_wasSaid z_undone z_kept z_order q z_hasBy z_wealthThen z_isFit z_tillThen z_drawX z_images z_imageForce z_imageX z_isMade) none := by
  refine rMet.of (by decide) rfl (Nat.le_of_ble_eq_true rfl) ?_
  refine r_sub (lv' := [(0, .ref (ad 0))]) [0] rfl ?_
  unfold m_keepsOrder at h
  refine r_iconst (x := (0 : Int32)) dX12_keepsOrder_0 (by decide) ?_
  refine r_istore_n (lv' := [(1, .int (0 : Int32)), (0, .ref (ad 0))]) dX12_keepsOrder_1 (by decide) rfl ?_
  refine r_sub (lv' := [(0, .ref (ad 0)), (1, .int (0 : Int32))]) [1, 0] rfl ?_
  exact cm_keepsOrder_l2  FU _ _ h
theorem dX12_bestRing_0 : decode cX12_bestRing 0 = .ok (.aload_n 0, 1) := by decide +kernel
theorem dX12_bestRing_1 : decode cX12_bestRing 1 = .ok (.invokevirtual 358, 3) := by decide +kernel
theorem dX12_bestRing_4 : decode cX12_bestRing 4 = .ok (.ifCond .eq 29, 3) := by decide +kernel
theorem dX12_bestRing_7 : decode cX12_bestRing 7 = .ok (.iload_n 1, 1) := by decide +kernel
theorem dX12_bestRing_8 : decode cX12_bestRing 8 = .ok (.i2l, 1) := by decide +kernel
theorem dX12_bestRing_9 : decode cX12_bestRing 9 = .ok (.lconst 1, 1) := by decide +kernel
theorem dX12_bestRing_10 : decode cX12_bestRing 10 = .ok (.ldc2_w 370, 3) := by decide +kernel
theorem dX12_bestRing_13 : decode cX12_bestRing 13 = .ok (.invokestatic 124, 3) := by decide +kernel
theorem dX12_bestRing_16 : decode cX12_bestRing 16 = .ok (.ifCond .eq 17, 3) := by decide +kernel
theorem dX12_bestRing_19 : decode cX12_bestRing 19 = .ok (.iload_n 2, 1) := by decide +kernel
theorem dX12_bestRing_20 : decode cX12_bestRing 20 = .ok (.i2l, 1) := by decide +kernel
theorem dX12_bestRing_21 : decode cX12_bestRing 21 = .ok (.ldc2_w 394, 3) := by decide +kernel
theorem dX12_bestRing_24 : decode cX12_bestRing 24 = .ok (.ldc2_w 396, 3) := by decide +kernel
theorem dX12_bestRing_27 : decode cX12_bestRing 27 = .ok (.invokestatic 124, 3) := by decide +kernel
theorem dX12_bestRing_30 : decode cX12_bestRing 30 = .ok (.ifCond .ne 6, 3) := by decide +kernel
theorem dX12_bestRing_33 : decode cX12_bestRing 33 = .ok (.bipush (-3), 2) := by decide +kernel
theorem dX12_bestRing_35 : decode cX12_bestRing 35 = .ok (.ireturn, 1) := by decide +kernel
theorem dX12_bestRing_36 : decode cX12_bestRing 36 = .ok (.iconst (-1), 1) := by decide +kernel
theorem dX12_bestRing_37 : decode cX12_bestRing 37 = .ok (.istore_n 3, 1) := by decide +kernel
theorem dX12_bestRing_38 : decode cX12_bestRing 38 = .ok (.aload_n 0, 1) := by decide +kernel
theorem dX12_bestRing_39 : decode cX12_bestRing 39 = .ok (.invokevirtual 376, 3) := by decide +kernel
theorem dX12_bestRing_42 : decode cX12_bestRing 42 = .ok (.aload_n 0, 1) := by decide +kernel
theorem dX12_bestRing_43 : decode cX12_bestRing 43 = .ok (.invokevirtual 398, 3) := by decide +kernel
theorem dX12_bestRing_46 : decode cX12_bestRing 46 = .ok (.iconst 1, 1) := by decide +kernel
theorem dX12_bestRing_47 : decode cX12_bestRing 47 = .ok (.istore 4, 2) := by decide +kernel
theorem dX12_bestRing_49 : decode cX12_bestRing 49 = .ok (.iload 4, 2) := by decide +kernel
theorem dX12_bestRing_51 : decode cX12_bestRing 51 = .ok (.ifCond .eq 36, 3) := by decide +kernel
theorem dX12_bestRing_54 : decode cX12_bestRing 54 = .ok (.aload_n 0, 1) := by decide +kernel
theorem dX12_bestRing_55 : decode cX12_bestRing 55 = .ok (.invokevirtual 401, 3) := by decide +kernel
theorem dX12_bestRing_58 : decode cX12_bestRing 58 = .ok (.aload_n 0, 1) := by decide +kernel
theorem dX12_bestRing_59 : decode cX12_bestRing 59 = .ok (.iload_n 1, 1) := by decide +kernel
theorem dX12_bestRing_60 : decode cX12_bestRing 60 = .ok (.invokevirtual 388, 3) := by decide +kernel
theorem dX12_bestRing_63 : decode cX12_bestRing 63 = .ok (.istore 5, 2) := by decide +kernel
theorem dX12_bestRing_65 : decode cX12_bestRing 65 = .ok (.iload 5, 2) := by decide +kernel
theorem dX12_bestRing_67 : decode cX12_bestRing 67 = .ok (.iload_n 3, 1) := by decide +kernel
theorem dX12_bestRing_68 : decode cX12_bestRing 68 = .ok (.if_icmp .le 10, 3) := by decide +kernel
theorem dX12_bestRing_71 : decode cX12_bestRing 71 = .ok (.iload 5, 2) := by decide +kernel
theorem dX12_bestRing_73 : decode cX12_bestRing 73 = .ok (.istore_n 3, 1) := by decide +kernel
theorem dX12_bestRing_74 : decode cX12_bestRing 74 = .ok (.aload_n 0, 1) := by decide +kernel
theorem dX12_bestRing_75 : decode cX12_bestRing 75 = .ok (.invokevirtual 404, 3) := by decide +kernel
theorem dX12_bestRing_78 : decode cX12_bestRing 78 = .ok (.aload_n 0, 1) := by decide +kernel
theorem dX12_bestRing_79 : decode cX12_bestRing 79 = .ok (.invokevirtual 407, 3) := by decide +kernel
theorem dX12_bestRing_82 : decode cX12_bestRing 82 = .ok (.istore 4, 2) := by decide +kernel
theorem dX12_bestRing_84 : decode cX12_bestRing 84 = .ok (.goto (-35), 3) := by decide +kernel
theorem dX12_bestRing_87 : decode cX12_bestRing 87 = .ok (.iload_n 2, 1) := by decide +kernel
theorem dX12_bestRing_88 : decode cX12_bestRing 88 = .ok (.iconst (-1), 1) := by decide +kernel
theorem dX12_bestRing_89 : decode cX12_bestRing 89 = .ok (.if_icmp .ne 7, 3) := by decide +kernel
theorem dX12_bestRing_92 : decode cX12_bestRing 92 = .ok (.iload_n 3, 1) := by decide +kernel
theorem dX12_bestRing_93 : decode cX12_bestRing 93 = .ok (.goto 22, 3) := by decide +kernel
theorem dX12_bestRing_96 : decode cX12_bestRing 96 = .ok (.aload_n 0, 1) := by decide +kernel
theorem dX12_bestRing_97 : decode cX12_bestRing 97 = .ok (.iload_n 2, 1) := by decide +kernel
theorem dX12_bestRing_98 : decode cX12_bestRing 98 = .ok (.invokevirtual 311, 3) := by decide +kernel
theorem dX12_bestRing_101 : decode cX12_bestRing 101 = .ok (.ifCond .eq 12, 3) := by decide +kernel
theorem dX12_bestRing_104 : decode cX12_bestRing 104 = .ok (.aload_n 0, 1) := by decide +kernel
theorem dX12_bestRing_105 : decode cX12_bestRing 105 = .ok (.getfield 58, 3) := by decide +kernel
theorem dX12_bestRing_108 : decode cX12_bestRing 108 = .ok (.iload_n 2, 1) := by decide +kernel
theorem dX12_bestRing_109 : decode cX12_bestRing 109 = .ok (.iaload, 1) := by decide +kernel
theorem dX12_bestRing_110 : decode cX12_bestRing 110 = .ok (.goto 5, 3) := by decide +kernel
theorem dX12_bestRing_113 : decode cX12_bestRing 113 = .ok (.bipush (-2), 2) := by decide +kernel
theorem dX12_bestRing_115 : decode cX12_bestRing 115 = .ok (.ireturn, 1) := by decide +kernel
abbrev Mm_bestRing : rx_M := (RX12, yX12_bestRing, cX12_bestRing, 6, (some .int), 10)
theorem km_bestRing : rKv Mm_bestRing 2 := ⟨tb_in (i := 33) (j := 26) rfl rfl, tb_in (i := 33) (j := 27) rfl rfl, tb_in (i := 17) (j := 21) rfl rfl, tb_in (i := 28) (j := 3) rfl rfl, ⟨by decide, by decide, by decide +kernel⟩, by decide⟩
def m_bestRing_l49 (z_sign : Nat → Int32) (z_clause : Nat → Int32) (z_clauses : Nat → Int32) (z_force : Int32) (z_absent : Int32) (z_kept : Nat → Int32) (x1 : Int32) (x2 : Int32) : Nat → Int32 → Int32 → (Nat → Int64) → Int32 → (Nat → Int64) → (Nat → Int32) → Int32 → (Nat → Int32) → (Nat → Int32) → Option (Int32 × (Nat → Int64) × Int32 × (Nat → Int64) × (Nat → Int32) × Int32 × (Nat → Int32) × (Nat → Int32) × (Nat → Int32))
  | 0, _, _, _, _, _, _, _, _, _ => none
  | n + 1, x3, x4, z_stack, z_top, z_word, z_said, z_isRaining, z_order, z_bestOrder => (if x4 = 0 then (if x2 = (-1 : Int32) then some (x3, z_stack, z_top, z_word, z_said, z_isRaining, z_kept, z_order, z_bestOrder) else (m_isStall x2 z_said).bind (fun q11 => (if q11 = 0 then some ((-2 : Int32), z_stack, z_top, z_word, z_said, z_isRaining, z_kept, z_order, z_bestOrder) else rq (inb x2 6) (some ((z_bestOrder x2.toNatClampNeg), z_stack, z_top, z_word, z_said, z_isRaining, z_kept, z_order, z_bestOrder))))) else (m_standsAsOrder z_said z_order).bind (fun q14 => (m_takenIn x1 z_sign z_clause z_clauses z_stack z_top z_word q14 z_force z_absent z_isRaining z_kept).bind (fun q15 => (if q15.1 ≤ x3 then (m_nextOrder q15.2.2.2.2.1 z_order).bind (fun q17 => m_bestRing_l49 z_sign z_clause z_clauses z_force z_absent z_kept x1 x2 n x3 q17.1 q15.2.1 q15.2.2.1 q15.2.2.2.1 q15.2.2.2.2.1 q15.2.2.2.2.2 q17.2 z_bestOrder) else (m_keepsOrder z_order z_bestOrder).bind (fun q18 => (m_nextOrder q15.2.2.2.2.1 z_order).bind (fun q19 => m_bestRing_l49 z_sign z_clause z_clauses z_force z_absent z_kept x1 x2 n q15.1 q19.1 q15.2.1 q15.2.2.1 q15.2.2.2.1 q15.2.2.2.2.1 q15.2.2.2.2.2 q19.2 q18))))))
set_option maxRecDepth 20000 in
theorem cm_bestRing_l49 {q : Int32 × (Nat → Int64) × Int32 × (Nat → Int64) × (Nat → Int32) × Int32 × (Nat → Int32) × (Nat → Int32) × (Nat → Int32)} {x1 : Int32} {x2 : Int32}  : ∀ (n : Nat) (x3 : Int32) (x4 : Int32) (z_stack : Nat → Int64) (z_top : Int32) (z_word : Nat → Int64) (z_said : Nat → Int32) (z_isRaining : Int32) (z_order : Nat → Int32) (z_bestOrder : Nat → Int32), m_bestRing_l49 z_sign z_clause z_clauses z_force z_absent z_kept x1 x2 n x3 x4 z_stack z_top z_word z_said z_isRaining z_order z_bestOrder = some q → rW l D Z (ty7 K) Mm_bestRing 49 [(0, .ref (ad 0)), (1, .int x1), (2, .int x2), (3, .int x3), (4, .int x4)] [] (wM K ad z_tape z_taped z_rules z_sign z_length z_clause z_clauses z_read z_next z_wrong z_number z_text z_made z_deep z_lines z_open z_opened z_stack z_top z_word z_said z_force z_x z_absent z_isRaining z_wasSaid z_undone z_kept z_order z_bestOrder z_hasBy z_wealthThen z_isFit z_tillThen z_drawX z_images z_imageForce z_imageX z_isMade) (wM K ad z_tape z_taped z_rules z_sign z_length z_clause z_clauses z_read z_next z_wrong z_number z_text z_made z_deep z_lines z_open z_opened q.2.1 q.2.2.1 q.2.2.2.1 q.2.2.2.2.1 z_force z_x z_absent q.2.2.2.2.2.1 z_wasSaid z_undone q.2.2.2.2.2.2.1 q.2.2.2.2.2.2.2.1 q.2.2.2.2.2.2.2.2 z_hasBy z_wealthThen z_isFit z_tillThen z_drawX z_images z_imageForce z_imageX z_isMade) (some (.int q.1)) := by
  intro n
  induction n with
  | zero => intro x3 x4 z_stack z_top z_word z_said z_isRaining z_order z_bestOrder h; unfold m_bestRing_l49 at h; cases h
  | succ n ih =>
    intro x3 x4 z_stack z_top z_word z_said z_isRaining z_order z_bestOrder h
    unfold m_bestRing_l49 at h
    refine r_iload 4 dX12_bestRing_49 rfl ?_
    refine r_if_eq 87 dX12_bestRing_51 (by decide) (fun c9 => ?_) (fun c9 => ?_)
    · replace h := it_pos c9 h
      refine r_iload_n 2 dX12_bestRing_87 rfl ?_
      refine r_iconst (x := (-1 : Int32)) dX12_bestRing_88 (by decide) ?_
      refine r_icmp_ne 96 dX12_bestRing_89 (by decide) (fun c10 => ?_) (fun c10 => ?_)
      · replace h := it_neg c10 h
        refine r_aload_n 0 dX12_bestRing_96 rfl ?_
        refine r_iload_n 2 dX12_bestRing_97 rfl ?_
        obtain ⟨q11, h11, h⟩ := bd_some h
        refine cvM (st := []) (cm_isStall h11) rfl rfl (Nat.le_of_ble_eq_true rfl) km_isStall (tb_in (i := 24) (j := 15) rfl rfl) (by decide) rfl dX12_bestRing_98 ?_
        refine r_if_eq 113 dX12_bestRing_101 (by decide) (fun c12 => ?_) (fun c12 => ?_)
        · replace h := it_pos c12 h
          refine r_bipush (x := (-2 : Int32)) dX12_bestRing_113 (by decide) ?_
          have hq := Option.some.inj h
          subst hq
          exact r_iret rfl dX12_bestRing_115
        · replace h := it_neg c12 h
          refine r_aload_n 0 dX12_bestRing_104 rfl ?_
          refine gM_bestOrder rfl dX12_bestRing_105 ?_
          refine r_iload_n 2 dX12_bestRing_108 rfl ?_
          obtain ⟨h13, h⟩ := rq_some h
          refine lM_bestOrder (inb_in h13) dX12_bestRing_109 ?_
          refine r_goto 115 dX12_bestRing_110 (by decide) ?_
          have hq := Option.some.inj h
          subst hq
          exact r_iret rfl dX12_bestRing_115
      · replace h := it_pos c10 h
        refine r_iload_n 3 dX12_bestRing_92 rfl ?_
        refine r_goto 115 dX12_bestRing_93 (by decide) ?_
        have hq := Option.some.inj h
        subst hq
        exact r_iret rfl dX12_bestRing_115
    · replace h := it_neg c9 h
      refine r_aload_n 0 dX12_bestRing_54 rfl ?_
      obtain ⟨q14, h14, h⟩ := bd_some h
      refine cvM (st := []) (cm_standsAsOrder h14) rfl rfl (Nat.le_of_ble_eq_true rfl) km_standsAsOrder (tb_in (i := 27) (j := 26) rfl rfl) (by decide) rfl dX12_bestRing_55 ?_
      refine r_aload_n 0 dX12_bestRing_58 rfl ?_
      refine r_iload_n 1 dX12_bestRing_59 rfl ?_
      obtain ⟨q15, h15, h⟩ := bd_some h
      refine cvM (st := []) (cm_takenIn h15) rfl rfl (Nat.le_of_ble_eq_true rfl) km_takenIn (tb_in (i := 27) (j := 9) rfl rfl) (by decide) rfl dX12_bestRing_60 ?_
      refine r_istore (lv' := [(5, .int q15.1), (0, .ref (ad 0)), (1, .int x1), (2, .int x2), (3, .int x3), (4, .int x4)]) dX12_bestRing_63 (by decide) rfl ?_
      refine r_iload 0 dX12_bestRing_65 rfl ?_
      refine r_iload_n 4 dX12_bestRing_67 rfl ?_
      refine r_icmp_le 78 dX12_bestRing_68 (by decide) (fun c16 => ?_) (fun c16 => ?_)
      · replace h := it_pos c16 h
        refine r_aload_n 1 dX12_bestRing_78 rfl ?_
        obtain ⟨q17, h17, h⟩ := bd_some h
        refine cvM (st := []) (cm_nextOrder h17) rfl rfl (Nat.le_of_ble_eq_true rfl) km_nextOrder (tb_in (i := 28) (j := 0) rfl rfl) (by decide) rfl dX12_bestRing_79 ?_
        refine r_istore (lv' := [(4, .int q17.1), (5, .int q15.1), (0, .ref (ad 0)), (1, .int x1), (2, .int x2), (3, .int x3)]) dX12_bestRing_82 (by decide) rfl ?_
        refine r_goto 49 dX12_bestRing_84 (by decide) ?_
        refine r_sub (lv' := [(0, .ref (ad 0)), (1, .int x1), (2, .int x2), (3, .int x3), (4, .int q17.1)]) [2, 3, 4, 5, 0] rfl ?_
        exact ih _ _ _ _ _ _ _ _ _ h
      · replace h := it_neg c16 h
        refine r_iload 0 dX12_bestRing_71 rfl ?_
        refine r_istore_n (lv' := [(3, .int q15.1), (5, .int q15.1), (0, .ref (ad 0)), (1, .int x1), (2, .int x2), (4, .int x4)]) dX12_bestRing_73 (by decide) rfl ?_
        refine r_aload_n 2 dX12_bestRing_74 rfl ?_
        obtain ⟨q18, h18, h⟩ := bd_some h
        refine cvM (st := []) (cm_keepsOrder h18) rfl rfl (Nat.le_of_ble_eq_true rfl) km_keepsOrder (tb_in (i := 27) (j := 29) rfl rfl) (by decide) rfl dX12_bestRing_75 ?_
        refine r_aload_n 2 dX12_bestRing_78 rfl ?_
        obtain ⟨q19, h19, h⟩ := bd_some h
        refine cvM (st := []) (cm_nextOrder h19) rfl rfl (Nat.le_of_ble_eq_true rfl) km_nextOrder (tb_in (i := 28) (j := 0) rfl rfl) (by decide) rfl dX12_bestRing_79 ?_
        refine r_istore (lv' := [(4, .int q19.1), (3, .int q15.1), (5, .int q15.1), (0, .ref (ad 0)), (1, .int x1), (2, .int x2)]) dX12_bestRing_82 (by decide) rfl ?_
        refine r_goto 49 dX12_bestRing_84 (by decide) ?_
        refine r_sub (lv' := [(0, .ref (ad 0)), (1, .int x1), (2, .int x2), (3, .int q15.1), (4, .int q19.1)]) [3, 4, 5, 1, 0] rfl ?_
        exact ih _ _ _ _ _ _ _ _ _ h
def m_bestRing (x1 : Int32) (x2 : Int32) (z_sign : Nat → Int32) (z_clause : Nat → Int32) (z_clauses : Nat → Int32) (z_stack : Nat → Int64) (z_top : Int32) (z_word : Nat → Int64) (z_said : Nat → Int32) (z_force : Int32) (z_absent : Int32) (z_isRaining : Int32) (z_kept : Nat → Int32) (z_order : Nat → Int32) (z_bestOrder : Nat → Int32) : Option (Int32 × (Nat → Int64) × Int32 × (Nat → Int64) × (Nat → Int32) × Int32 × (Nat → Int32) × (Nat → Int32) × (Nat → Int32)) := (m_isFair z_said).bind (fun q1 => (if q1 = 0 then some ((-3 : Int32), z_stack, z_top, z_word, z_said, z_isRaining, z_kept, z_order, z_bestOrder) else (m_in (x1.toInt64) (1 : Int64) (40 : Int64)).bind (fun q3 => (if q3 = 0 then some ((-3 : Int32), z_stack, z_top, z_word, z_said, z_isRaining, z_kept, z_order, z_bestOrder) else (m_in (x2.toInt64) (-1 : Int64) (5 : Int64)).bind (fun q5 => (if q5 = 0 then some ((-3 : Int32), z_stack, z_top, z_word, z_said, z_isRaining, z_kept, z_order, z_bestOrder) else (m_keeps z_said z_kept).bind (fun q7 => (m_beginsOrder z_order).bind (fun q8 => m_bestRing_l49 z_sign z_clause z_clauses z_force z_absent q7 x1 x2 FU (-1 : Int32) (1 : Int32) z_stack z_top z_word z_said z_isRaining q8 z_bestOrder))))))))
set_option maxRecDepth 20000 in
theorem cm_bestRing {q : Int32 × (Nat → Int64) × Int32 × (Nat → Int64) × (Nat → Int32) × Int32 × (Nat → Int32) × (Nat → Int32) × (Nat → Int32)} {x1 : Int32} {x2 : Int32} (h : m_bestRing x1 x2 z_sign z_clause z_clauses z_stack z_top z_word z_said z_force z_absent z_isRaining z_kept z_order z_bestOrder = some q) : rMet l D Z (ty7 K) Mm_bestRing [.ref (ad 0), .int x1, .int x2] (wM K ad z_tape z_taped z_rules z_sign z_length z_clause z_clauses z_read z_next z_wrong z_number z_text z_made z_deep z_lines z_open z_opened z_stack z_top z_word z_said z_force z_x z_absent z_isRaining z_wasSaid z_undone z_kept z_order z_bestOrder z_hasBy z_wealthThen z_isFit z_tillThen z_drawX z_images z_imageForce z_imageX z_isMade) (wM K ad z_tape z_taped z_rules z_sign z_length z_clause z_clauses z_read z_next z_wrong z_number z_text z_made z_deep z_lines z_open z_opened q.2.1 q.2.2.1 q.2.2.2.1 q.2.2.2.2.1 z_force z_x z_absent q.2.2.2.2.2.1 z_wasSaid z_undone q.2.2.2.2.2.2.1 q.2.2.2.2.2.2.2.1 q.2.2.2.2.2.2.2.2 z_hasBy z_wealthThen z_isFit z_tillThen z_drawX z_images z_imageForce z_imageX z_isMade) (some (.int q.1)) := by
  refine rMet.of (by decide) rfl (Nat.le_of_ble_eq_true rfl) ?_
  refine r_sub (lv' := [(0, .ref (ad 0)), (1, .int x1), (2, .int x2)]) [0, 1, 2] rfl ?_
  unfold m_bestRing at h
  refine r_aload_n 0 dX12_bestRing_0 rfl ?_
  obtain ⟨q1, h1, h⟩ := bd_some h
  refine cvM (st := []) (cm_isFair h1) rfl rfl (Nat.le_of_ble_eq_true rfl) km_isFair (tb_in (i := 26) (j := 2) rfl rfl) (by decide) rfl dX12_bestRing_1 ?_
  refine r_if_eq 33 dX12_bestRing_4 (by decide) (fun c2 => ?_) (fun c2 => ?_)
  · replace h := it_pos c2 h
    refine r_bipush (x := (-3 : Int32)) dX12_bestRing_33 (by decide) ?_
    have hq := Option.some.inj h
    subst hq
    exact r_iret rfl dX12_bestRing_35
  · replace h := it_neg c2 h
    refine r_iload_n 1 dX12_bestRing_7 rfl ?_
    refine r_i2l dX12_bestRing_8 ?_
    refine r_lconst (x := (1 : Int64)) dX12_bestRing_9 (by decide) ?_
    refine r_ldc2 (x := (40 : Int64)) (tb_in (i := 26) (j := 19) rfl rfl) dX12_bestRing_10 ?_
    obtain ⟨q3, h3, h⟩ := bd_some h
    refine r_callS (st := []) (cm_in h3) rfl rfl (Nat.le_of_ble_eq_true rfl) km_in (tb_in (i := 18) (j := 20) rfl rfl) (by decide) dX12_bestRing_13 ?_
    refine r_if_eq 33 dX12_bestRing_16 (by decide) (fun c4 => ?_) (fun c4 => ?_)
    · replace h := it_pos c4 h
      refine r_bipush (x := (-3 : Int32)) dX12_bestRing_33 (by decide) ?_
      have hq := Option.some.inj h
      subst hq
      exact r_iret rfl dX12_bestRing_35
    · replace h := it_neg c4 h
      refine r_iload_n 2 dX12_bestRing_19 rfl ?_
      refine r_i2l dX12_bestRing_20 ?_
      refine r_ldc2 (x := (-1 : Int64)) (tb_in (i := 27) (j := 21) rfl rfl) dX12_bestRing_21 ?_
      refine r_ldc2 (x := (5 : Int64)) (tb_in (i := 27) (j := 22) rfl rfl) dX12_bestRing_24 ?_
      obtain ⟨q5, h5, h⟩ := bd_some h
      refine r_callS (st := []) (cm_in h5) rfl rfl (Nat.le_of_ble_eq_true rfl) km_in (tb_in (i := 18) (j := 20) rfl rfl) (by decide) dX12_bestRing_27 ?_
      refine r_if_ne 36 dX12_bestRing_30 (by decide) (fun c6 => ?_) (fun c6 => ?_)
      · replace h := it_neg c6 h
        refine r_iconst (x := (-1 : Int32)) dX12_bestRing_36 (by decide) ?_
        refine r_istore_n (lv' := [(3, .int (-1 : Int32)), (0, .ref (ad 0)), (1, .int x1), (2, .int x2)]) dX12_bestRing_37 (by decide) rfl ?_
        refine r_aload_n 1 dX12_bestRing_38 rfl ?_
        obtain ⟨q7, h7, h⟩ := bd_some h
        refine cvM (st := []) (cm_keeps h7) rfl rfl (Nat.le_of_ble_eq_true rfl) km_keeps (tb_in (i := 26) (j := 26) rfl rfl) (by decide) rfl dX12_bestRing_39 ?_
        refine r_aload_n 1 dX12_bestRing_42 rfl ?_
        obtain ⟨q8, h8, h⟩ := bd_some h
        refine cvM (st := []) (cm_beginsOrder h8) rfl rfl (Nat.le_of_ble_eq_true rfl) km_beginsOrder (tb_in (i := 27) (j := 23) rfl rfl) (by decide) rfl dX12_bestRing_43 ?_
        refine r_iconst (x := (1 : Int32)) dX12_bestRing_46 (by decide) ?_
        refine r_istore (lv' := [(4, .int (1 : Int32)), (3, .int (-1 : Int32)), (0, .ref (ad 0)), (1, .int x1), (2, .int x2)]) dX12_bestRing_47 (by decide) rfl ?_
        refine r_sub (lv' := [(0, .ref (ad 0)), (1, .int x1), (2, .int x2), (3, .int (-1 : Int32)), (4, .int (1 : Int32))]) [2, 3, 4, 1, 0] rfl ?_
        exact cm_bestRing_l49  FU _ _ _ _ _ _ _ _ _ h
      · replace h := it_pos c6 h
        refine r_bipush (x := (-3 : Int32)) dX12_bestRing_33 (by decide) ?_
        have hq := Option.some.inj h
        subst hq
        exact r_iret rfl dX12_bestRing_35
theorem dX12_grudgesInOrder_0 : decode cX12_grudgesInOrder 0 = .ok (.iconst 0, 1) := by decide +kernel
theorem dX12_grudgesInOrder_1 : decode cX12_grudgesInOrder 1 = .ok (.istore_n 1, 1) := by decide +kernel
theorem dX12_grudgesInOrder_2 : decode cX12_grudgesInOrder 2 = .ok (.iconst 0, 1) := by decide +kernel
theorem dX12_grudgesInOrder_3 : decode cX12_grudgesInOrder 3 = .ok (.istore_n 2, 1) := by decide +kernel
theorem dX12_grudgesInOrder_4 : decode cX12_grudgesInOrder 4 = .ok (.iload_n 2, 1) := by decide +kernel
theorem dX12_grudgesInOrder_5 : decode cX12_grudgesInOrder 5 = .ok (.aload_n 0, 1) := by decide +kernel
theorem dX12_grudgesInOrder_6 : decode cX12_grudgesInOrder 6 = .ok (.getfield 39, 3) := by decide +kernel
theorem dX12_grudgesInOrder_9 : decode cX12_grudgesInOrder 9 = .ok (.iconst 3, 1) := by decide +kernel
theorem dX12_grudgesInOrder_10 : decode cX12_grudgesInOrder 10 = .ok (.iaload, 1) := by decide +kernel
theorem dX12_grudgesInOrder_11 : decode cX12_grudgesInOrder 11 = .ok (.if_icmp .ge 45, 3) := by decide +kernel
theorem dX12_grudgesInOrder_14 : decode cX12_grudgesInOrder 14 = .ok (.iload_n 1, 1) := by decide +kernel
theorem dX12_grudgesInOrder_15 : decode cX12_grudgesInOrder 15 = .ok (.aload_n 0, 1) := by decide +kernel
theorem dX12_grudgesInOrder_16 : decode cX12_grudgesInOrder 16 = .ok (.aload_n 0, 1) := by decide +kernel
theorem dX12_grudgesInOrder_17 : decode cX12_grudgesInOrder 17 = .ok (.getfield 55, 3) := by decide +kernel
theorem dX12_grudgesInOrder_20 : decode cX12_grudgesInOrder 20 = .ok (.iload_n 2, 1) := by decide +kernel
theorem dX12_grudgesInOrder_21 : decode cX12_grudgesInOrder 21 = .ok (.iaload, 1) := by decide +kernel
theorem dX12_grudgesInOrder_22 : decode cX12_grudgesInOrder 22 = .ok (.aload_n 0, 1) := by decide +kernel
theorem dX12_grudgesInOrder_23 : decode cX12_grudgesInOrder 23 = .ok (.getfield 55, 3) := by decide +kernel
theorem dX12_grudgesInOrder_26 : decode cX12_grudgesInOrder 26 = .ok (.iload_n 2, 1) := by decide +kernel
theorem dX12_grudgesInOrder_27 : decode cX12_grudgesInOrder 27 = .ok (.iconst 1, 1) := by decide +kernel
theorem dX12_grudgesInOrder_28 : decode cX12_grudgesInOrder 28 = .ok (.iadd, 1) := by decide +kernel
theorem dX12_grudgesInOrder_29 : decode cX12_grudgesInOrder 29 = .ok (.aload_n 0, 1) := by decide +kernel
theorem dX12_grudgesInOrder_30 : decode cX12_grudgesInOrder 30 = .ok (.getfield 39, 3) := by decide +kernel
theorem dX12_grudgesInOrder_33 : decode cX12_grudgesInOrder 33 = .ok (.iconst 3, 1) := by decide +kernel
theorem dX12_grudgesInOrder_34 : decode cX12_grudgesInOrder 34 = .ok (.iaload, 1) := by decide +kernel
theorem dX12_grudgesInOrder_35 : decode cX12_grudgesInOrder 35 = .ok (.irem, 1) := by decide +kernel
theorem dX12_grudgesInOrder_36 : decode cX12_grudgesInOrder 36 = .ok (.iaload, 1) := by decide +kernel
theorem dX12_grudgesInOrder_37 : decode cX12_grudgesInOrder 37 = .ok (.invokevirtual 299, 3) := by decide +kernel
theorem dX12_grudgesInOrder_40 : decode cX12_grudgesInOrder 40 = .ok (.ifCond .eq 7, 3) := by decide +kernel
theorem dX12_grudgesInOrder_43 : decode cX12_grudgesInOrder 43 = .ok (.iconst 1, 1) := by decide +kernel
theorem dX12_grudgesInOrder_44 : decode cX12_grudgesInOrder 44 = .ok (.goto 4, 3) := by decide +kernel
theorem dX12_grudgesInOrder_47 : decode cX12_grudgesInOrder 47 = .ok (.iconst 0, 1) := by decide +kernel
theorem dX12_grudgesInOrder_48 : decode cX12_grudgesInOrder 48 = .ok (.iadd, 1) := by decide +kernel
theorem dX12_grudgesInOrder_49 : decode cX12_grudgesInOrder 49 = .ok (.istore_n 1, 1) := by decide +kernel
theorem dX12_grudgesInOrder_50 : decode cX12_grudgesInOrder 50 = .ok (.iinc 2 1, 3) := by decide +kernel
theorem dX12_grudgesInOrder_53 : decode cX12_grudgesInOrder 53 = .ok (.goto (-49), 3) := by decide +kernel
theorem dX12_grudgesInOrder_56 : decode cX12_grudgesInOrder 56 = .ok (.iload_n 1, 1) := by decide +kernel
theorem dX12_grudgesInOrder_57 : decode cX12_grudgesInOrder 57 = .ok (.ireturn, 1) := by decide +kernel
abbrev Mm_grudgesInOrder : rx_M := (RX12, yX12_grudgesInOrder, cX12_grudgesInOrder, 3, (some .int), 3)
theorem km_grudgesInOrder : rKv Mm_grudgesInOrder 0 := ⟨tb_in (i := 28) (j := 6) rfl rfl, tb_in (i := 28) (j := 7) rfl rfl, tb_in (i := 17) (j := 21) rfl rfl, tb_in (i := 28) (j := 4) rfl rfl, ⟨by decide, by decide, by decide +kernel⟩, by decide⟩
def m_grudgesInOrder_l4 (z_said : Nat → Int32) (z_order : Nat → Int32) : Nat → Int32 → Int32 → Option (Int32)
  | 0, _, _ => none
  | n + 1, x1, x2 => rq (inb (3 : Int32) 156) ((if (z_said (3 : Int32).toNatClampNeg) ≤ x2 then some (x1) else rq (inb x2 6) (rq (inb (3 : Int32) 156) (rq (decide (¬ (z_said (3 : Int32).toNatClampNeg) = 0)) (rq (inb ((x2 + (1 : Int32)) - (x2 + (1 : Int32)) / (z_said (3 : Int32).toNatClampNeg) * (z_said (3 : Int32).toNatClampNeg)) 6) ((m_bears (z_order x2.toNatClampNeg) (z_order ((x2 + (1 : Int32)) - (x2 + (1 : Int32)) / (z_said (3 : Int32).toNatClampNeg) * (z_said (3 : Int32).toNatClampNeg)).toNatClampNeg) z_said).bind (fun q7 => (if q7 = 0 then lt (x1 + (0 : Int32)) (fun y9 => m_grudgesInOrder_l4 z_said z_order n y9 (x2 + (1 : Int32))) else lt (x1 + (1 : Int32)) (fun y10 => m_grudgesInOrder_l4 z_said z_order n y10 (x2 + (1 : Int32)))))))))))
set_option maxRecDepth 20000 in
theorem cm_grudgesInOrder_l4 {q : Int32}   : ∀ (n : Nat) (x1 : Int32) (x2 : Int32), m_grudgesInOrder_l4 z_said z_order n x1 x2 = some q → rW l D Z (ty7 K) Mm_grudgesInOrder 4 [(0, .ref (ad 0)), (1, .int x1), (2, .int x2)] [] (wM K ad z_tape z_taped z_rules z_sign z_length z_clause z_clauses z_read z_next z_wrong z_number z_text z_made z_deep z_lines z_open z_opened z_stack z_top z_word z_said z_force z_x z_absent z_isRaining z_wasSaid z_undone z_kept z_order z_bestOrder z_hasBy z_wealthThen z_isFit z_tillThen z_drawX z_images z_imageForce z_imageX z_isMade) (wM K ad z_tape z_taped z_rules z_sign z_length z_clause z_clauses z_read z_next z_wrong z_number z_text z_made z_deep z_lines z_open z_opened z_stack z_top z_word z_said z_force z_x z_absent z_isRaining z_wasSaid z_undone z_kept z_order z_bestOrder z_hasBy z_wealthThen z_isFit z_tillThen z_drawX z_images z_imageForce z_imageX z_isMade) (some (.int q)) := by
  intro n
  induction n with
  | zero => intro x1 x2 h; unfold m_grudgesInOrder_l4 at h; cases h
  | succ n ih =>
    intro x1 x2 h
    unfold m_grudgesInOrder_l4 at h
    refine r_iload_n 2 dX12_grudgesInOrder_4 rfl ?_
    refine r_aload_n 0 dX12_grudgesInOrder_5 rfl ?_
    refine gM_said rfl dX12_grudgesInOrder_6 ?_
    refine r_iconst (x := (3 : Int32)) dX12_grudgesInOrder_9 (by decide) ?_
    obtain ⟨h1, h⟩ := rq_some h
    refine lM_said (inb_in h1) dX12_grudgesInOrder_10 ?_
    refine r_icmp_ge 56 dX12_grudgesInOrder_11 (by decide) (fun c2 => ?_) (fun c2 => ?_)
    · replace h := it_pos c2 h
      refine r_iload_n 1 dX12_grudgesInOrder_56 rfl ?_
      have hq := Option.some.inj h
      subst hq
      exact r_iret rfl dX12_grudgesInOrder_57
    · replace h := it_neg c2 h
      refine r_iload_n 1 dX12_grudgesInOrder_14 rfl ?_
      refine r_aload_n 0 dX12_grudgesInOrder_15 rfl ?_
      refine r_aload_n 0 dX12_grudgesInOrder_16 rfl ?_
      refine gM_order rfl dX12_grudgesInOrder_17 ?_
      refine r_iload_n 2 dX12_grudgesInOrder_20 rfl ?_
      obtain ⟨h3, h⟩ := rq_some h
      refine lM_order (inb_in h3) dX12_grudgesInOrder_21 ?_
      refine r_aload_n 0 dX12_grudgesInOrder_22 rfl ?_
      refine gM_order rfl dX12_grudgesInOrder_23 ?_
      refine r_iload_n 2 dX12_grudgesInOrder_26 rfl ?_
      refine r_iconst (x := (1 : Int32)) dX12_grudgesInOrder_27 (by decide) ?_
      refine r_iadd dX12_grudgesInOrder_28 ?_
      refine r_aload_n 0 dX12_grudgesInOrder_29 rfl ?_
      refine gM_said rfl dX12_grudgesInOrder_30 ?_
      refine r_iconst (x := (3 : Int32)) dX12_grudgesInOrder_33 (by decide) ?_
      obtain ⟨h4, h⟩ := rq_some h
      refine lM_said (inb_in h4) dX12_grudgesInOrder_34 ?_
      obtain ⟨h5, h⟩ := rq_some h
      refine r_irem dX12_grudgesInOrder_35 (of_decide_eq_true h5) ?_
      obtain ⟨h6, h⟩ := rq_some h
      refine lM_order (inb_in h6) dX12_grudgesInOrder_36 ?_
      obtain ⟨q7, h7, h⟩ := bd_some h
      refine cvM (st := [.int x1]) (cm_bears h7) rfl rfl (Nat.le_of_ble_eq_true rfl) km_bears (tb_in (i := 24) (j := 0) rfl rfl) (by decide) rfl dX12_grudgesInOrder_37 ?_
      refine r_if_eq 47 dX12_grudgesInOrder_40 (by decide) (fun c8 => ?_) (fun c8 => ?_)
      · replace h := it_pos c8 h
        refine r_iconst (x := (0 : Int32)) dX12_grudgesInOrder_47 (by decide) ?_
        refine r_iadd dX12_grudgesInOrder_48 ?_
        obtain ⟨y9, e9, h⟩ := lt_some h
        refine r_top e9 ?_
        refine r_istore_n (lv' := [(1, .int y9), (0, .ref (ad 0)), (2, .int x2)]) dX12_grudgesInOrder_49 (by decide) rfl ?_
        refine r_iinc (y := (x2 + (1 : Int32))) (lv' := [(2, .int (x2 + (1 : Int32))), (1, .int y9), (0, .ref (ad 0))]) 2 dX12_grudgesInOrder_50 rfl rfl (by decide) rfl ?_
        refine r_goto 4 dX12_grudgesInOrder_53 (by decide) ?_
        refine r_sub (lv' := [(0, .ref (ad 0)), (1, .int y9), (2, .int (x2 + (1 : Int32)))]) [2, 1, 0] rfl ?_
        exact ih _ _ h
      · replace h := it_neg c8 h
        refine r_iconst (x := (1 : Int32)) dX12_grudgesInOrder_43 (by decide) ?_
        refine r_goto 48 dX12_grudgesInOrder_44 (by decide) ?_
        refine r_iadd dX12_grudgesInOrder_48 ?_
        obtain ⟨y10, e10, h⟩ := lt_some h
        refine r_top e10 ?_
        refine r_istore_n (lv' := [(1, .int y10), (0, .ref (ad 0)), (2, .int x2)]) dX12_grudgesInOrder_49 (by decide) rfl ?_
        refine r_iinc (y := (x2 + (1 : Int32))) (lv' := [(2, .int (x2 + (1 : Int32))), (1, .int y10), (0, .ref (ad 0))]) 2 dX12_grudgesInOrder_50 rfl rfl (by decide) rfl ?_
        refine r_goto 4 dX12_grudgesInOrder_53 (by decide) ?_
        refine r_sub (lv' := [(0, .ref (ad 0)), (1, .int y10), (2, .int (x2 + (1 : Int32)))]) [2, 1, 0] rfl ?_
        exact ih _ _ h
def m_grudgesInOrder (z_said : Nat → Int32) (z_order : Nat → Int32) : Option (Int32) := m_grudgesInOrder_l4 z_said z_order FU (0 : Int32) (0 : Int32)
set_option maxRecDepth 20000 in
theorem cm_grudgesInOrder {q : Int32}  (h : m_grudgesInOrder z_said z_order = some q) : rMet l D Z (ty7 K) Mm_grudgesInOrder [.ref (ad 0)] (wM K ad z_tape z_taped z_rules z_sign z_length z_clause z_clauses z_read z_next z_wrong z_number z_text z_made z_deep z_lines z_open z_opened z_stack z_top z_word z_said z_force z_x z_absent z_isRaining z_wasSaid z_undone z_kept z_order z_bestOrder z_hasBy z_wealthThen z_isFit z_tillThen z_drawX z_images z_imageForce z_imageX z_isMade) (wM K ad z_tape z_taped z_rules z_sign z_length z_clause z_clauses z_read z_next z_wrong z_number z_text z_made z_deep z_lines z_open z_opened z_stack z_top z_word z_said z_force z_x z_absent z_isRaining z_wasSaid z_undone z_kept z_order z_bestOrder z_hasBy z_wealthThen z_isFit z_tillThen z_drawX z_images z_imageForce z_imageX z_isMade) (some (.int q)) := by
  refine rMet.of (by decide) rfl (Nat.le_of_ble_eq_true rfl) ?_
  refine r_sub (lv' := [(0, .ref (ad 0))]) [0] rfl ?_
  unfold m_grudgesInOrder at h
  refine r_iconst (x := (0 : Int32)) dX12_grudgesInOrder_0 (by decide) ?_
  refine r_istore_n (lv' := [(1, .int (0 : Int32)), (0, .ref (ad 0))]) dX12_grudgesInOrder_1 (by decide) rfl ?_
  refine r_iconst (x := (0 : Int32)) dX12_grudgesInOrder_2 (by decide) ?_
  refine r_istore_n (lv' := [(2, .int (0 : Int32)), (1, .int (0 : Int32)), (0, .ref (ad 0))]) dX12_grudgesInOrder_3 (by decide) rfl ?_
  refine r_sub (lv' := [(0, .ref (ad 0)), (1, .int (0 : Int32)), (2, .int (0 : Int32))]) [2, 1, 0] rfl ?_
  exact cm_grudgesInOrder_l4  FU _ _ h
theorem dX12_quietRing_0 : decode cX12_quietRing 0 = .ok (.aload_n 0, 1) := by decide +kernel
theorem dX12_quietRing_1 : decode cX12_quietRing 1 = .ok (.invokevirtual 358, 3) := by decide +kernel
theorem dX12_quietRing_4 : decode cX12_quietRing 4 = .ok (.ifCond .eq 17, 3) := by decide +kernel
theorem dX12_quietRing_7 : decode cX12_quietRing 7 = .ok (.iload_n 1, 1) := by decide +kernel
theorem dX12_quietRing_8 : decode cX12_quietRing 8 = .ok (.i2l, 1) := by decide +kernel
theorem dX12_quietRing_9 : decode cX12_quietRing 9 = .ok (.ldc2_w 394, 3) := by decide +kernel
theorem dX12_quietRing_12 : decode cX12_quietRing 12 = .ok (.ldc2_w 396, 3) := by decide +kernel
theorem dX12_quietRing_15 : decode cX12_quietRing 15 = .ok (.invokestatic 124, 3) := by decide +kernel
theorem dX12_quietRing_18 : decode cX12_quietRing 18 = .ok (.ifCond .ne 6, 3) := by decide +kernel
theorem dX12_quietRing_21 : decode cX12_quietRing 21 = .ok (.bipush (-3), 2) := by decide +kernel
theorem dX12_quietRing_23 : decode cX12_quietRing 23 = .ok (.ireturn, 1) := by decide +kernel
theorem dX12_quietRing_24 : decode cX12_quietRing 24 = .ok (.iconst (-1), 1) := by decide +kernel
theorem dX12_quietRing_25 : decode cX12_quietRing 25 = .ok (.istore_n 2, 1) := by decide +kernel
theorem dX12_quietRing_26 : decode cX12_quietRing 26 = .ok (.aload_n 0, 1) := by decide +kernel
theorem dX12_quietRing_27 : decode cX12_quietRing 27 = .ok (.invokevirtual 398, 3) := by decide +kernel
theorem dX12_quietRing_30 : decode cX12_quietRing 30 = .ok (.iconst 1, 1) := by decide +kernel
theorem dX12_quietRing_31 : decode cX12_quietRing 31 = .ok (.istore_n 3, 1) := by decide +kernel
theorem dX12_quietRing_32 : decode cX12_quietRing 32 = .ok (.iload_n 3, 1) := by decide +kernel
theorem dX12_quietRing_33 : decode cX12_quietRing 33 = .ok (.ifCond .eq 34, 3) := by decide +kernel
theorem dX12_quietRing_36 : decode cX12_quietRing 36 = .ok (.aload_n 0, 1) := by decide +kernel
theorem dX12_quietRing_37 : decode cX12_quietRing 37 = .ok (.invokevirtual 410, 3) := by decide +kernel
theorem dX12_quietRing_40 : decode cX12_quietRing 40 = .ok (.istore 4, 2) := by decide +kernel
theorem dX12_quietRing_42 : decode cX12_quietRing 42 = .ok (.iload_n 2, 1) := by decide +kernel
theorem dX12_quietRing_43 : decode cX12_quietRing 43 = .ok (.ifCond .lt 9, 3) := by decide +kernel
theorem dX12_quietRing_46 : decode cX12_quietRing 46 = .ok (.iload 4, 2) := by decide +kernel
theorem dX12_quietRing_48 : decode cX12_quietRing 48 = .ok (.iload_n 2, 1) := by decide +kernel
theorem dX12_quietRing_49 : decode cX12_quietRing 49 = .ok (.if_icmp .ge 10, 3) := by decide +kernel
theorem dX12_quietRing_52 : decode cX12_quietRing 52 = .ok (.iload 4, 2) := by decide +kernel
theorem dX12_quietRing_54 : decode cX12_quietRing 54 = .ok (.istore_n 2, 1) := by decide +kernel
theorem dX12_quietRing_55 : decode cX12_quietRing 55 = .ok (.aload_n 0, 1) := by decide +kernel
theorem dX12_quietRing_56 : decode cX12_quietRing 56 = .ok (.invokevirtual 404, 3) := by decide +kernel
theorem dX12_quietRing_59 : decode cX12_quietRing 59 = .ok (.aload_n 0, 1) := by decide +kernel
theorem dX12_quietRing_60 : decode cX12_quietRing 60 = .ok (.invokevirtual 407, 3) := by decide +kernel
theorem dX12_quietRing_63 : decode cX12_quietRing 63 = .ok (.istore_n 3, 1) := by decide +kernel
theorem dX12_quietRing_64 : decode cX12_quietRing 64 = .ok (.goto (-32), 3) := by decide +kernel
theorem dX12_quietRing_67 : decode cX12_quietRing 67 = .ok (.iload_n 1, 1) := by decide +kernel
theorem dX12_quietRing_68 : decode cX12_quietRing 68 = .ok (.iconst (-1), 1) := by decide +kernel
theorem dX12_quietRing_69 : decode cX12_quietRing 69 = .ok (.if_icmp .ne 7, 3) := by decide +kernel
theorem dX12_quietRing_72 : decode cX12_quietRing 72 = .ok (.iload_n 2, 1) := by decide +kernel
theorem dX12_quietRing_73 : decode cX12_quietRing 73 = .ok (.goto 22, 3) := by decide +kernel
theorem dX12_quietRing_76 : decode cX12_quietRing 76 = .ok (.aload_n 0, 1) := by decide +kernel
theorem dX12_quietRing_77 : decode cX12_quietRing 77 = .ok (.iload_n 1, 1) := by decide +kernel
theorem dX12_quietRing_78 : decode cX12_quietRing 78 = .ok (.invokevirtual 311, 3) := by decide +kernel
theorem dX12_quietRing_81 : decode cX12_quietRing 81 = .ok (.ifCond .eq 12, 3) := by decide +kernel
theorem dX12_quietRing_84 : decode cX12_quietRing 84 = .ok (.aload_n 0, 1) := by decide +kernel
theorem dX12_quietRing_85 : decode cX12_quietRing 85 = .ok (.getfield 58, 3) := by decide +kernel
theorem dX12_quietRing_88 : decode cX12_quietRing 88 = .ok (.iload_n 1, 1) := by decide +kernel
theorem dX12_quietRing_89 : decode cX12_quietRing 89 = .ok (.iaload, 1) := by decide +kernel
theorem dX12_quietRing_90 : decode cX12_quietRing 90 = .ok (.goto 5, 3) := by decide +kernel
theorem dX12_quietRing_93 : decode cX12_quietRing 93 = .ok (.bipush (-2), 2) := by decide +kernel
theorem dX12_quietRing_95 : decode cX12_quietRing 95 = .ok (.ireturn, 1) := by decide +kernel
abbrev Mm_quietRing : rx_M := (RX12, yX12_quietRing, cX12_quietRing, 5, (some .int), 4)
theorem km_quietRing : rKv Mm_quietRing 1 := ⟨tb_in (i := 34) (j := 0) rfl rfl, tb_in (i := 34) (j := 1) rfl rfl, tb_in (i := 17) (j := 21) rfl rfl, tb_in (i := 28) (j := 8) rfl rfl, ⟨by decide, by decide, by decide +kernel⟩, by decide⟩
def m_quietRing_l32 (z_said : Nat → Int32) (x1 : Int32) : Nat → Int32 → Int32 → (Nat → Int32) → (Nat → Int32) → Option (Int32 × (Nat → Int32) × (Nat → Int32))
  | 0, _, _, _, _ => none
  | n + 1, x2, x3, z_order, z_bestOrder => (if x3 = 0 then (if x1 = (-1 : Int32) then some (x2, z_order, z_bestOrder) else (m_isStall x1 z_said).bind (fun q8 => (if q8 = 0 then some ((-2 : Int32), z_order, z_bestOrder) else rq (inb x1 6) (some ((z_bestOrder x1.toNatClampNeg), z_order, z_bestOrder))))) else (m_grudgesInOrder z_said z_order).bind (fun q11 => (if x2 < 0 then (m_keepsOrder z_order z_bestOrder).bind (fun q13 => (m_nextOrder z_said z_order).bind (fun q14 => m_quietRing_l32 z_said x1 n q11 q14.1 q14.2 q13)) else (if x2 ≤ q11 then (m_nextOrder z_said z_order).bind (fun q16 => m_quietRing_l32 z_said x1 n x2 q16.1 q16.2 z_bestOrder) else (m_keepsOrder z_order z_bestOrder).bind (fun q17 => (m_nextOrder z_said z_order).bind (fun q18 => m_quietRing_l32 z_said x1 n q11 q18.1 q18.2 q17))))))
set_option maxRecDepth 20000 in
theorem cm_quietRing_l32 {q : Int32 × (Nat → Int32) × (Nat → Int32)} {x1 : Int32}  : ∀ (n : Nat) (x2 : Int32) (x3 : Int32) (z_order : Nat → Int32) (z_bestOrder : Nat → Int32), m_quietRing_l32 z_said x1 n x2 x3 z_order z_bestOrder = some q → rW l D Z (ty7 K) Mm_quietRing 32 [(0, .ref (ad 0)), (1, .int x1), (2, .int x2), (3, .int x3)] [] (wM K ad z_tape z_taped z_rules z_sign z_length z_clause z_clauses z_read z_next z_wrong z_number z_text z_made z_deep z_lines z_open z_opened z_stack z_top z_word z_said z_force z_x z_absent z_isRaining z_wasSaid z_undone z_kept z_order z_bestOrder z_hasBy z_wealthThen z_isFit z_tillThen z_drawX z_images z_imageForce z_imageX z_isMade) (wM K ad z_tape z_taped z_rules z_sign z_length z_clause z_clauses z_read z_next z_wrong z_number z_text z_made z_deep z_lines z_open z_opened z_stack z_top z_word z_said z_force z_x z_absent z_isRaining z_wasSaid z_undone z_kept q.2.1 q.2.2 z_hasBy z_wealthThen z_isFit z_tillThen z_drawX z_images z_imageForce z_imageX z_isMade) (some (.int q.1)) := by
  intro n
  induction n with
  | zero => intro x2 x3 z_order z_bestOrder h; unfold m_quietRing_l32 at h; cases h
  | succ n ih =>
    intro x2 x3 z_order z_bestOrder h
    unfold m_quietRing_l32 at h
    refine r_iload_n 3 dX12_quietRing_32 rfl ?_
    refine r_if_eq 67 dX12_quietRing_33 (by decide) (fun c6 => ?_) (fun c6 => ?_)
    · replace h := it_pos c6 h
      refine r_iload_n 1 dX12_quietRing_67 rfl ?_
      refine r_iconst (x := (-1 : Int32)) dX12_quietRing_68 (by decide) ?_
      refine r_icmp_ne 76 dX12_quietRing_69 (by decide) (fun c7 => ?_) (fun c7 => ?_)
      · replace h := it_neg c7 h
        refine r_aload_n 0 dX12_quietRing_76 rfl ?_
        refine r_iload_n 1 dX12_quietRing_77 rfl ?_
        obtain ⟨q8, h8, h⟩ := bd_some h
        refine cvM (st := []) (cm_isStall h8) rfl rfl (Nat.le_of_ble_eq_true rfl) km_isStall (tb_in (i := 24) (j := 15) rfl rfl) (by decide) rfl dX12_quietRing_78 ?_
        refine r_if_eq 93 dX12_quietRing_81 (by decide) (fun c9 => ?_) (fun c9 => ?_)
        · replace h := it_pos c9 h
          refine r_bipush (x := (-2 : Int32)) dX12_quietRing_93 (by decide) ?_
          have hq := Option.some.inj h
          subst hq
          exact r_iret rfl dX12_quietRing_95
        · replace h := it_neg c9 h
          refine r_aload_n 0 dX12_quietRing_84 rfl ?_
          refine gM_bestOrder rfl dX12_quietRing_85 ?_
          refine r_iload_n 1 dX12_quietRing_88 rfl ?_
          obtain ⟨h10, h⟩ := rq_some h
          refine lM_bestOrder (inb_in h10) dX12_quietRing_89 ?_
          refine r_goto 95 dX12_quietRing_90 (by decide) ?_
          have hq := Option.some.inj h
          subst hq
          exact r_iret rfl dX12_quietRing_95
      · replace h := it_pos c7 h
        refine r_iload_n 2 dX12_quietRing_72 rfl ?_
        refine r_goto 95 dX12_quietRing_73 (by decide) ?_
        have hq := Option.some.inj h
        subst hq
        exact r_iret rfl dX12_quietRing_95
    · replace h := it_neg c6 h
      refine r_aload_n 0 dX12_quietRing_36 rfl ?_
      obtain ⟨q11, h11, h⟩ := bd_some h
      refine cvM (st := []) (cm_grudgesInOrder h11) rfl rfl (Nat.le_of_ble_eq_true rfl) km_grudgesInOrder (tb_in (i := 28) (j := 5) rfl rfl) (by decide) rfl dX12_quietRing_37 ?_
      refine r_istore (lv' := [(4, .int q11), (0, .ref (ad 0)), (1, .int x1), (2, .int x2), (3, .int x3)]) dX12_quietRing_40 (by decide) rfl ?_
      refine r_iload_n 3 dX12_quietRing_42 rfl ?_
      refine r_if_lt 52 dX12_quietRing_43 (by decide) (fun c12 => ?_) (fun c12 => ?_)
      · replace h := it_pos c12 h
        refine r_iload 0 dX12_quietRing_52 rfl ?_
        refine r_istore_n (lv' := [(2, .int q11), (4, .int q11), (0, .ref (ad 0)), (1, .int x1), (3, .int x3)]) dX12_quietRing_54 (by decide) rfl ?_
        refine r_aload_n 2 dX12_quietRing_55 rfl ?_
        obtain ⟨q13, h13, h⟩ := bd_some h
        refine cvM (st := []) (cm_keepsOrder h13) rfl rfl (Nat.le_of_ble_eq_true rfl) km_keepsOrder (tb_in (i := 27) (j := 29) rfl rfl) (by decide) rfl dX12_quietRing_56 ?_
        refine r_aload_n 2 dX12_quietRing_59 rfl ?_
        obtain ⟨q14, h14, h⟩ := bd_some h
        refine cvM (st := []) (cm_nextOrder h14) rfl rfl (Nat.le_of_ble_eq_true rfl) km_nextOrder (tb_in (i := 28) (j := 0) rfl rfl) (by decide) rfl dX12_quietRing_60 ?_
        refine r_istore_n (lv' := [(3, .int q14.1), (2, .int q11), (4, .int q11), (0, .ref (ad 0)), (1, .int x1)]) dX12_quietRing_63 (by decide) rfl ?_
        refine r_goto 32 dX12_quietRing_64 (by decide) ?_
        refine r_sub (lv' := [(0, .ref (ad 0)), (1, .int x1), (2, .int q11), (3, .int q14.1)]) [3, 4, 1, 0] rfl ?_
        exact ih _ _ _ _ h
      · replace h := it_neg c12 h
        refine r_iload 0 dX12_quietRing_46 rfl ?_
        refine r_iload_n 3 dX12_quietRing_48 rfl ?_
        refine r_icmp_ge 59 dX12_quietRing_49 (by decide) (fun c15 => ?_) (fun c15 => ?_)
        · replace h := it_pos c15 h
          refine r_aload_n 1 dX12_quietRing_59 rfl ?_
          obtain ⟨q16, h16, h⟩ := bd_some h
          refine cvM (st := []) (cm_nextOrder h16) rfl rfl (Nat.le_of_ble_eq_true rfl) km_nextOrder (tb_in (i := 28) (j := 0) rfl rfl) (by decide) rfl dX12_quietRing_60 ?_
          refine r_istore_n (lv' := [(3, .int q16.1), (4, .int q11), (0, .ref (ad 0)), (1, .int x1), (2, .int x2)]) dX12_quietRing_63 (by decide) rfl ?_
          refine r_goto 32 dX12_quietRing_64 (by decide) ?_
          refine r_sub (lv' := [(0, .ref (ad 0)), (1, .int x1), (2, .int x2), (3, .int q16.1)]) [2, 3, 4, 0] rfl ?_
          exact ih _ _ _ _ h
        · replace h := it_neg c15 h
          refine r_iload 0 dX12_quietRing_52 rfl ?_
          refine r_istore_n (lv' := [(2, .int q11), (4, .int q11), (0, .ref (ad 0)), (1, .int x1), (3, .int x3)]) dX12_quietRing_54 (by decide) rfl ?_
          refine r_aload_n 2 dX12_quietRing_55 rfl ?_
          obtain ⟨q17, h17, h⟩ := bd_some h
          refine cvM (st := []) (cm_keepsOrder h17) rfl rfl (Nat.le_of_ble_eq_true rfl) km_keepsOrder (tb_in (i := 27) (j := 29) rfl rfl) (by decide) rfl dX12_quietRing_56 ?_
          refine r_aload_n 2 dX12_quietRing_59 rfl ?_
          obtain ⟨q18, h18, h⟩ := bd_some h
          refine cvM (st := []) (cm_nextOrder h18) rfl rfl (Nat.le_of_ble_eq_true rfl) km_nextOrder (tb_in (i := 28) (j := 0) rfl rfl) (by decide) rfl dX12_quietRing_60 ?_
          refine r_istore_n (lv' := [(3, .int q18.1), (2, .int q11), (4, .int q11), (0, .ref (ad 0)), (1, .int x1)]) dX12_quietRing_63 (by decide) rfl ?_
          refine r_goto 32 dX12_quietRing_64 (by decide) ?_
          refine r_sub (lv' := [(0, .ref (ad 0)), (1, .int x1), (2, .int q11), (3, .int q18.1)]) [3, 4, 1, 0] rfl ?_
          exact ih _ _ _ _ h
def m_quietRing (x1 : Int32) (z_said : Nat → Int32) (z_order : Nat → Int32) (z_bestOrder : Nat → Int32) : Option (Int32 × (Nat → Int32) × (Nat → Int32)) := (m_isFair z_said).bind (fun q1 => (if q1 = 0 then some ((-3 : Int32), z_order, z_bestOrder) else (m_in (x1.toInt64) (-1 : Int64) (5 : Int64)).bind (fun q3 => (if q3 = 0 then some ((-3 : Int32), z_order, z_bestOrder) else (m_beginsOrder z_order).bind (fun q5 => m_quietRing_l32 z_said x1 FU (-1 : Int32) (1 : Int32) q5 z_bestOrder)))))
set_option maxRecDepth 20000 in
theorem cm_quietRing {q : Int32 × (Nat → Int32) × (Nat → Int32)} {x1 : Int32} (h : m_quietRing x1 z_said z_order z_bestOrder = some q) : rMet l D Z (ty7 K) Mm_quietRing [.ref (ad 0), .int x1] (wM K ad z_tape z_taped z_rules z_sign z_length z_clause z_clauses z_read z_next z_wrong z_number z_text z_made z_deep z_lines z_open z_opened z_stack z_top z_word z_said z_force z_x z_absent z_isRaining z_wasSaid z_undone z_kept z_order z_bestOrder z_hasBy z_wealthThen z_isFit z_tillThen z_drawX z_images z_imageForce z_imageX z_isMade) (wM K ad z_tape z_taped z_rules z_sign z_length z_clause z_clauses z_read z_next z_wrong z_number z_text z_made z_deep z_lines z_open z_opened z_stack z_top z_word z_said z_force z_x z_absent z_isRaining z_wasSaid z_undone z_kept q.2.1 q.2.2 z_hasBy z_wealthThen z_isFit z_tillThen z_drawX z_images z_imageForce z_imageX z_isMade) (some (.int q.1)) := by
  refine rMet.of (by decide) rfl (Nat.le_of_ble_eq_true rfl) ?_
  refine r_sub (lv' := [(0, .ref (ad 0)), (1, .int x1)]) [0, 1] rfl ?_
  unfold m_quietRing at h
  refine r_aload_n 0 dX12_quietRing_0 rfl ?_
  obtain ⟨q1, h1, h⟩ := bd_some h
  refine cvM (st := []) (cm_isFair h1) rfl rfl (Nat.le_of_ble_eq_true rfl) km_isFair (tb_in (i := 26) (j := 2) rfl rfl) (by decide) rfl dX12_quietRing_1 ?_
  refine r_if_eq 21 dX12_quietRing_4 (by decide) (fun c2 => ?_) (fun c2 => ?_)
  · replace h := it_pos c2 h
    refine r_bipush (x := (-3 : Int32)) dX12_quietRing_21 (by decide) ?_
    have hq := Option.some.inj h
    subst hq
    exact r_iret rfl dX12_quietRing_23
  · replace h := it_neg c2 h
    refine r_iload_n 1 dX12_quietRing_7 rfl ?_
    refine r_i2l dX12_quietRing_8 ?_
    refine r_ldc2 (x := (-1 : Int64)) (tb_in (i := 27) (j := 21) rfl rfl) dX12_quietRing_9 ?_
    refine r_ldc2 (x := (5 : Int64)) (tb_in (i := 27) (j := 22) rfl rfl) dX12_quietRing_12 ?_
    obtain ⟨q3, h3, h⟩ := bd_some h
    refine r_callS (st := []) (cm_in h3) rfl rfl (Nat.le_of_ble_eq_true rfl) km_in (tb_in (i := 18) (j := 20) rfl rfl) (by decide) dX12_quietRing_15 ?_
    refine r_if_ne 24 dX12_quietRing_18 (by decide) (fun c4 => ?_) (fun c4 => ?_)
    · replace h := it_neg c4 h
      refine r_iconst (x := (-1 : Int32)) dX12_quietRing_24 (by decide) ?_
      refine r_istore_n (lv' := [(2, .int (-1 : Int32)), (0, .ref (ad 0)), (1, .int x1)]) dX12_quietRing_25 (by decide) rfl ?_
      refine r_aload_n 1 dX12_quietRing_26 rfl ?_
      obtain ⟨q5, h5, h⟩ := bd_some h
      refine cvM (st := []) (cm_beginsOrder h5) rfl rfl (Nat.le_of_ble_eq_true rfl) km_beginsOrder (tb_in (i := 27) (j := 23) rfl rfl) (by decide) rfl dX12_quietRing_27 ?_
      refine r_iconst (x := (1 : Int32)) dX12_quietRing_30 (by decide) ?_
      refine r_istore_n (lv' := [(3, .int (1 : Int32)), (2, .int (-1 : Int32)), (0, .ref (ad 0)), (1, .int x1)]) dX12_quietRing_31 (by decide) rfl ?_
      refine r_sub (lv' := [(0, .ref (ad 0)), (1, .int x1), (2, .int (-1 : Int32)), (3, .int (1 : Int32))]) [2, 3, 1, 0] rfl ?_
      exact cm_quietRing_l32  FU _ _ _ _ h
    · replace h := it_pos c4 h
      refine r_bipush (x := (-3 : Int32)) dX12_quietRing_21 (by decide) ?_
      have hq := Option.some.inj h
      subst hq
      exact r_iret rfl dX12_quietRing_23
theorem dX12_wealthIn_0 : decode cX12_wealthIn 0 = .ok (.aload_n 0, 1) := by decide +kernel
theorem dX12_wealthIn_1 : decode cX12_wealthIn 1 = .ok (.iload_n 2, 1) := by decide +kernel
theorem dX12_wealthIn_2 : decode cX12_wealthIn 2 = .ok (.invokevirtual 379, 3) := by decide +kernel
theorem dX12_wealthIn_5 : decode cX12_wealthIn 5 = .ok (.pop, 1) := by decide +kernel
theorem dX12_wealthIn_6 : decode cX12_wealthIn 6 = .ok (.aload_n 0, 1) := by decide +kernel
theorem dX12_wealthIn_7 : decode cX12_wealthIn 7 = .ok (.iload_n 1, 1) := by decide +kernel
theorem dX12_wealthIn_8 : decode cX12_wealthIn 8 = .ok (.invokevirtual 382, 3) := by decide +kernel
theorem dX12_wealthIn_11 : decode cX12_wealthIn 11 = .ok (.istore_n 3, 1) := by decide +kernel
theorem dX12_wealthIn_12 : decode cX12_wealthIn 12 = .ok (.aload_n 0, 1) := by decide +kernel
theorem dX12_wealthIn_13 : decode cX12_wealthIn 13 = .ok (.invokevirtual 385, 3) := by decide +kernel
theorem dX12_wealthIn_16 : decode cX12_wealthIn 16 = .ok (.iload_n 3, 1) := by decide +kernel
theorem dX12_wealthIn_17 : decode cX12_wealthIn 17 = .ok (.ireturn, 1) := by decide +kernel
abbrev Mm_wealthIn : rx_M := (RX12, yX12_wealthIn, cX12_wealthIn, 4, (some .int), 9)
theorem km_wealthIn : rKv Mm_wealthIn 2 := ⟨tb_in (i := 28) (j := 12) rfl rfl, tb_in (i := 28) (j := 13) rfl rfl, tb_in (i := 17) (j := 21) rfl rfl, tb_in (i := 28) (j := 9) rfl rfl, ⟨by decide, by decide, by decide +kernel⟩, by decide⟩
def m_wealthIn (x1 : Int32) (x2 : Int32) (z_sign : Nat → Int32) (z_clause : Nat → Int32) (z_clauses : Nat → Int32) (z_stack : Nat → Int64) (z_top : Int32) (z_word : Nat → Int64) (z_said : Nat → Int32) (z_force : Int32) (z_absent : Int32) (z_isRaining : Int32) (z_kept : Nat → Int32) : Option (Int32 × (Nat → Int64) × Int32 × (Nat → Int64) × (Nat → Int32) × Int32) := (m_passesAll x2 z_sign z_clause z_clauses z_stack z_top z_word z_said z_force z_absent z_isRaining).bind (fun q1 => (m_wealthOf x1 q1.2.2.2.2.1).bind (fun q2 => (m_laysBack q1.2.2.2.2.1 z_kept).bind (fun q3 => some (q2, q1.2.1, q1.2.2.1, q1.2.2.2.1, q3, q1.2.2.2.2.2))))
set_option maxRecDepth 20000 in
theorem cm_wealthIn {q : Int32 × (Nat → Int64) × Int32 × (Nat → Int64) × (Nat → Int32) × Int32} {x1 : Int32} {x2 : Int32} (h : m_wealthIn x1 x2 z_sign z_clause z_clauses z_stack z_top z_word z_said z_force z_absent z_isRaining z_kept = some q) : rMet l D Z (ty7 K) Mm_wealthIn [.ref (ad 0), .int x1, .int x2] (wM K ad z_tape z_taped z_rules z_sign z_length z_clause z_clauses z_read z_next z_wrong z_number z_text z_made z_deep z_lines z_open z_opened z_stack z_top z_word z_said z_force z_x z_absent z_isRaining z_wasSaid z_undone z_kept z_order z_bestOrder z_hasBy z_wealthThen z_isFit z_tillThen z_drawX z_images z_imageForce z_imageX z_isMade) (wM K ad z_tape z_taped z_rules z_sign z_length z_clause z_clauses z_read z_next z_wrong z_number z_text z_made z_deep z_lines z_open z_opened q.2.1 q.2.2.1 q.2.2.2.1 q.2.2.2.2.1 z_force z_x z_absent q.2.2.2.2.2 z_wasSaid z_undone z_kept z_order z_bestOrder z_hasBy z_wealthThen z_isFit z_tillThen z_drawX z_images z_imageForce z_imageX z_isMade) (some (.int q.1)) := by
  refine rMet.of (by decide) rfl (Nat.le_of_ble_eq_true rfl) ?_
  refine r_sub (lv' := [(0, .ref (ad 0)), (1, .int x1), (2, .int x2)]) [0, 1, 2] rfl ?_
  unfold m_wealthIn at h
  refine r_aload_n 0 dX12_wealthIn_0 rfl ?_
  refine r_iload_n 2 dX12_wealthIn_1 rfl ?_
  obtain ⟨q1, h1, h⟩ := bd_some h
  refine cvM (st := []) (cm_passesAll h1) rfl rfl (Nat.le_of_ble_eq_true rfl) km_passesAll (tb_in (i := 26) (j := 29) rfl rfl) (by decide) rfl dX12_wealthIn_2 ?_
  refine r_pop dX12_wealthIn_5 rfl ?_
  refine r_aload_n 0 dX12_wealthIn_6 rfl ?_
  refine r_iload_n 1 dX12_wealthIn_7 rfl ?_
  obtain ⟨q2, h2, h⟩ := bd_some h
  refine cvM (st := []) (cm_wealthOf h2) rfl rfl (Nat.le_of_ble_eq_true rfl) km_wealthOf (tb_in (i := 27) (j := 0) rfl rfl) (by decide) rfl dX12_wealthIn_8 ?_
  refine r_istore_n (lv' := [(3, .int q2), (0, .ref (ad 0)), (1, .int x1), (2, .int x2)]) dX12_wealthIn_11 (by decide) rfl ?_
  refine r_aload_n 1 dX12_wealthIn_12 rfl ?_
  obtain ⟨q3, h3, h⟩ := bd_some h
  refine cvM (st := []) (cm_laysBack h3) rfl rfl (Nat.le_of_ble_eq_true rfl) km_laysBack (tb_in (i := 27) (j := 3) rfl rfl) (by decide) rfl dX12_wealthIn_13 ?_
  refine r_iload_n 0 dX12_wealthIn_16 rfl ?_
  have hq := Option.some.inj h
  subst hq
  exact r_iret rfl dX12_wealthIn_17
theorem dX12_fairPrice_0 : decode cX12_fairPrice 0 = .ok (.aload_n 0, 1) := by decide +kernel
theorem dX12_fairPrice_1 : decode cX12_fairPrice 1 = .ok (.iload_n 1, 1) := by decide +kernel
theorem dX12_fairPrice_2 : decode cX12_fairPrice 2 = .ok (.invokevirtual 311, 3) := by decide +kernel
theorem dX12_fairPrice_5 : decode cX12_fairPrice 5 = .ok (.ifCond .eq 25, 3) := by decide +kernel
theorem dX12_fairPrice_8 : decode cX12_fairPrice 8 = .ok (.iload_n 2, 1) := by decide +kernel
theorem dX12_fairPrice_9 : decode cX12_fairPrice 9 = .ok (.i2l, 1) := by decide +kernel
theorem dX12_fairPrice_10 : decode cX12_fairPrice 10 = .ok (.lconst 1, 1) := by decide +kernel
theorem dX12_fairPrice_11 : decode cX12_fairPrice 11 = .ok (.ldc2_w 413, 3) := by decide +kernel
theorem dX12_fairPrice_14 : decode cX12_fairPrice 14 = .ok (.invokestatic 124, 3) := by decide +kernel
theorem dX12_fairPrice_17 : decode cX12_fairPrice 17 = .ok (.ifCond .eq 13, 3) := by decide +kernel
theorem dX12_fairPrice_20 : decode cX12_fairPrice 20 = .ok (.iload_n 3, 1) := by decide +kernel
theorem dX12_fairPrice_21 : decode cX12_fairPrice 21 = .ok (.i2l, 1) := by decide +kernel
theorem dX12_fairPrice_22 : decode cX12_fairPrice 22 = .ok (.lconst 0, 1) := by decide +kernel
theorem dX12_fairPrice_23 : decode cX12_fairPrice 23 = .ok (.lconst 1, 1) := by decide +kernel
theorem dX12_fairPrice_24 : decode cX12_fairPrice 24 = .ok (.invokestatic 124, 3) := by decide +kernel
theorem dX12_fairPrice_27 : decode cX12_fairPrice 27 = .ok (.ifCond .ne 5, 3) := by decide +kernel
theorem dX12_fairPrice_30 : decode cX12_fairPrice 30 = .ok (.iconst (-1), 1) := by decide +kernel
theorem dX12_fairPrice_31 : decode cX12_fairPrice 31 = .ok (.ireturn, 1) := by decide +kernel
theorem dX12_fairPrice_32 : decode cX12_fairPrice 32 = .ok (.iconst (-1), 1) := by decide +kernel
theorem dX12_fairPrice_33 : decode cX12_fairPrice 33 = .ok (.istore 4, 2) := by decide +kernel
theorem dX12_fairPrice_35 : decode cX12_fairPrice 35 = .ok (.iconst (-1), 1) := by decide +kernel
theorem dX12_fairPrice_36 : decode cX12_fairPrice 36 = .ok (.istore 5, 2) := by decide +kernel
theorem dX12_fairPrice_38 : decode cX12_fairPrice 38 = .ok (.aload_n 0, 1) := by decide +kernel
theorem dX12_fairPrice_39 : decode cX12_fairPrice 39 = .ok (.invokevirtual 376, 3) := by decide +kernel
theorem dX12_fairPrice_42 : decode cX12_fairPrice 42 = .ok (.iconst 1, 1) := by decide +kernel
theorem dX12_fairPrice_43 : decode cX12_fairPrice 43 = .ok (.istore 6, 2) := by decide +kernel
theorem dX12_fairPrice_45 : decode cX12_fairPrice 45 = .ok (.iload 6, 2) := by decide +kernel
theorem dX12_fairPrice_47 : decode cX12_fairPrice 47 = .ok (.bipush 40, 2) := by decide +kernel
theorem dX12_fairPrice_49 : decode cX12_fairPrice 49 = .ok (.if_icmp .gt 50, 3) := by decide +kernel
theorem dX12_fairPrice_52 : decode cX12_fairPrice 52 = .ok (.aload_n 0, 1) := by decide +kernel
theorem dX12_fairPrice_53 : decode cX12_fairPrice 53 = .ok (.getfield 39, 3) := by decide +kernel
theorem dX12_fairPrice_56 : decode cX12_fairPrice 56 = .ok (.bipush 11, 2) := by decide +kernel
theorem dX12_fairPrice_58 : decode cX12_fairPrice 58 = .ok (.iconst 4, 1) := by decide +kernel
theorem dX12_fairPrice_59 : decode cX12_fairPrice 59 = .ok (.iload_n 1, 1) := by decide +kernel
theorem dX12_fairPrice_60 : decode cX12_fairPrice 60 = .ok (.imul, 1) := by decide +kernel
theorem dX12_fairPrice_61 : decode cX12_fairPrice 61 = .ok (.iadd, 1) := by decide +kernel
theorem dX12_fairPrice_62 : decode cX12_fairPrice 62 = .ok (.iconst 1, 1) := by decide +kernel
theorem dX12_fairPrice_63 : decode cX12_fairPrice 63 = .ok (.iadd, 1) := by decide +kernel
theorem dX12_fairPrice_64 : decode cX12_fairPrice 64 = .ok (.iload 6, 2) := by decide +kernel
theorem dX12_fairPrice_66 : decode cX12_fairPrice 66 = .ok (.iastore, 1) := by decide +kernel
theorem dX12_fairPrice_67 : decode cX12_fairPrice 67 = .ok (.aload_n 0, 1) := by decide +kernel
theorem dX12_fairPrice_68 : decode cX12_fairPrice 68 = .ok (.iload_n 1, 1) := by decide +kernel
theorem dX12_fairPrice_69 : decode cX12_fairPrice 69 = .ok (.iload_n 2, 1) := by decide +kernel
theorem dX12_fairPrice_70 : decode cX12_fairPrice 70 = .ok (.invokevirtual 415, 3) := by decide +kernel
theorem dX12_fairPrice_73 : decode cX12_fairPrice 73 = .ok (.istore 7, 2) := by decide +kernel
theorem dX12_fairPrice_75 : decode cX12_fairPrice 75 = .ok (.iload 7, 2) := by decide +kernel
theorem dX12_fairPrice_77 : decode cX12_fairPrice 77 = .ok (.iload 5, 2) := by decide +kernel
theorem dX12_fairPrice_79 : decode cX12_fairPrice 79 = .ok (.if_icmp .gt 6, 3) := by decide +kernel
theorem dX12_fairPrice_82 : decode cX12_fairPrice 82 = .ok (.goto 11, 3) := by decide +kernel
theorem dX12_fairPrice_85 : decode cX12_fairPrice 85 = .ok (.iload 6, 2) := by decide +kernel
theorem dX12_fairPrice_87 : decode cX12_fairPrice 87 = .ok (.istore 4, 2) := by decide +kernel
theorem dX12_fairPrice_89 : decode cX12_fairPrice 89 = .ok (.iload 7, 2) := by decide +kernel
theorem dX12_fairPrice_91 : decode cX12_fairPrice 91 = .ok (.istore 5, 2) := by decide +kernel
theorem dX12_fairPrice_93 : decode cX12_fairPrice 93 = .ok (.iinc 6 1, 3) := by decide +kernel
theorem dX12_fairPrice_96 : decode cX12_fairPrice 96 = .ok (.goto (-51), 3) := by decide +kernel
theorem dX12_fairPrice_99 : decode cX12_fairPrice 99 = .ok (.iload_n 3, 1) := by decide +kernel
theorem dX12_fairPrice_100 : decode cX12_fairPrice 100 = .ok (.ifCond .ne 8, 3) := by decide +kernel
theorem dX12_fairPrice_103 : decode cX12_fairPrice 103 = .ok (.iload 4, 2) := by decide +kernel
theorem dX12_fairPrice_105 : decode cX12_fairPrice 105 = .ok (.goto 5, 3) := by decide +kernel
theorem dX12_fairPrice_108 : decode cX12_fairPrice 108 = .ok (.iload 5, 2) := by decide +kernel
theorem dX12_fairPrice_110 : decode cX12_fairPrice 110 = .ok (.ireturn, 1) := by decide +kernel
abbrev Mm_fairPrice : rx_M := (RX12, yX12_fairPrice, cX12_fairPrice, 8, (some .int), 10)
theorem km_fairPrice : rKv Mm_fairPrice 3 := ⟨tb_in (i := 34) (j := 6) rfl rfl, tb_in (i := 34) (j := 7) rfl rfl, tb_in (i := 17) (j := 21) rfl rfl, tb_in (i := 28) (j := 14) rfl rfl, ⟨by decide, by decide, by decide +kernel⟩, by decide⟩
def m_fairPrice_l45 (z_sign : Nat → Int32) (z_clause : Nat → Int32) (z_clauses : Nat → Int32) (z_force : Int32) (z_absent : Int32) (z_kept : Nat → Int32) (x1 : Int32) (x2 : Int32) (x3 : Int32) : Nat → Int32 → Int32 → Int32 → (Nat → Int64) → Int32 → (Nat → Int64) → (Nat → Int32) → Int32 → Option (Int32 × (Nat → Int64) × Int32 × (Nat → Int64) × (Nat → Int32) × Int32 × (Nat → Int32))
  | 0, _, _, _, _, _, _, _, _ => none
  | n + 1, x4, x5, x6, z_stack, z_top, z_word, z_said, z_isRaining => (if (40 : Int32) < x6 then (if x3 = 0 then some (x4, z_stack, z_top, z_word, z_said, z_isRaining, z_kept) else some (x5, z_stack, z_top, z_word, z_said, z_isRaining, z_kept)) else rq (inb (((11 : Int32) + ((4 : Int32) * x1)) + (1 : Int32)) 156) (lt (upd z_said (((11 : Int32) + ((4 : Int32) * x1)) + (1 : Int32)).toNatClampNeg x6) (fun u10 => (m_wealthIn x1 x2 z_sign z_clause z_clauses z_stack z_top z_word u10 z_force z_absent z_isRaining z_kept).bind (fun q11 => (if x5 < q11.1 then m_fairPrice_l45 z_sign z_clause z_clauses z_force z_absent z_kept x1 x2 x3 n x6 q11.1 (x6 + (1 : Int32)) q11.2.1 q11.2.2.1 q11.2.2.2.1 q11.2.2.2.2.1 q11.2.2.2.2.2 else m_fairPrice_l45 z_sign z_clause z_clauses z_force z_absent z_kept x1 x2 x3 n x4 x5 (x6 + (1 : Int32)) q11.2.1 q11.2.2.1 q11.2.2.2.1 q11.2.2.2.2.1 q11.2.2.2.2.2)))))
set_option maxRecDepth 20000 in
theorem cm_fairPrice_l45 {q : Int32 × (Nat → Int64) × Int32 × (Nat → Int64) × (Nat → Int32) × Int32 × (Nat → Int32)} {x1 : Int32} {x2 : Int32} {x3 : Int32}  : ∀ (n : Nat) (x4 : Int32) (x5 : Int32) (x6 : Int32) (z_stack : Nat → Int64) (z_top : Int32) (z_word : Nat → Int64) (z_said : Nat → Int32) (z_isRaining : Int32), m_fairPrice_l45 z_sign z_clause z_clauses z_force z_absent z_kept x1 x2 x3 n x4 x5 x6 z_stack z_top z_word z_said z_isRaining = some q → rW l D Z (ty7 K) Mm_fairPrice 45 [(0, .ref (ad 0)), (1, .int x1), (2, .int x2), (3, .int x3), (4, .int x4), (5, .int x5), (6, .int x6)] [] (wM K ad z_tape z_taped z_rules z_sign z_length z_clause z_clauses z_read z_next z_wrong z_number z_text z_made z_deep z_lines z_open z_opened z_stack z_top z_word z_said z_force z_x z_absent z_isRaining z_wasSaid z_undone z_kept z_order z_bestOrder z_hasBy z_wealthThen z_isFit z_tillThen z_drawX z_images z_imageForce z_imageX z_isMade) (wM K ad z_tape z_taped z_rules z_sign z_length z_clause z_clauses z_read z_next z_wrong z_number z_text z_made z_deep z_lines z_open z_opened q.2.1 q.2.2.1 q.2.2.2.1 q.2.2.2.2.1 z_force z_x z_absent q.2.2.2.2.2.1 z_wasSaid z_undone q.2.2.2.2.2.2 z_order z_bestOrder z_hasBy z_wealthThen z_isFit z_tillThen z_drawX z_images z_imageForce z_imageX z_isMade) (some (.int q.1)) := by
  intro n
  induction n with
  | zero => intro x4 x5 x6 z_stack z_top z_word z_said z_isRaining h; unfold m_fairPrice_l45 at h; cases h
  | succ n ih =>
    intro x4 x5 x6 z_stack z_top z_word z_said z_isRaining h
    unfold m_fairPrice_l45 at h
    refine r_iload 6 dX12_fairPrice_45 rfl ?_
    refine r_bipush (x := (40 : Int32)) dX12_fairPrice_47 (by decide) ?_
    refine r_icmp_gt 99 dX12_fairPrice_49 (by decide) (fun c8 => ?_) (fun c8 => ?_)
    · replace h := it_pos c8 h
      refine r_iload_n 3 dX12_fairPrice_99 rfl ?_
      refine r_if_ne 108 dX12_fairPrice_100 (by decide) (fun c9 => ?_) (fun c9 => ?_)
      · replace h := it_neg c9 h
        refine r_iload 5 dX12_fairPrice_108 rfl ?_
        have hq := Option.some.inj h
        subst hq
        exact r_iret rfl dX12_fairPrice_110
      · replace h := it_pos c9 h
        refine r_iload 4 dX12_fairPrice_103 rfl ?_
        refine r_goto 110 dX12_fairPrice_105 (by decide) ?_
        have hq := Option.some.inj h
        subst hq
        exact r_iret rfl dX12_fairPrice_110
    · replace h := it_neg c8 h
      refine r_aload_n 0 dX12_fairPrice_52 rfl ?_
      refine gM_said rfl dX12_fairPrice_53 ?_
      refine r_bipush (x := (11 : Int32)) dX12_fairPrice_56 (by decide) ?_
      refine r_iconst (x := (4 : Int32)) dX12_fairPrice_58 (by decide) ?_
      refine r_iload_n 1 dX12_fairPrice_59 rfl ?_
      refine r_imul dX12_fairPrice_60 ?_
      refine r_iadd dX12_fairPrice_61 ?_
      refine r_iconst (x := (1 : Int32)) dX12_fairPrice_62 (by decide) ?_
      refine r_iadd dX12_fairPrice_63 ?_
      refine r_iload 6 dX12_fairPrice_64 rfl ?_
      obtain ⟨h10, h⟩ := rq_some h
      obtain ⟨u10, e10, h⟩ := lt_some h
      refine sM_said e10 (inb_in h10) dX12_fairPrice_66 ?_
      refine r_aload_n 0 dX12_fairPrice_67 rfl ?_
      refine r_iload_n 1 dX12_fairPrice_68 rfl ?_
      refine r_iload_n 2 dX12_fairPrice_69 rfl ?_
      obtain ⟨q11, h11, h⟩ := bd_some h
      refine cvM (st := []) (cm_wealthIn h11) rfl rfl (Nat.le_of_ble_eq_true rfl) km_wealthIn (tb_in (i := 28) (j := 11) rfl rfl) (by decide) rfl dX12_fairPrice_70 ?_
      refine r_istore (lv' := [(7, .int q11.1), (0, .ref (ad 0)), (1, .int x1), (2, .int x2), (3, .int x3), (4, .int x4), (5, .int x5), (6, .int x6)]) dX12_fairPrice_73 (by decide) rfl ?_
      refine r_iload 0 dX12_fairPrice_75 rfl ?_
      refine r_iload 6 dX12_fairPrice_77 rfl ?_
      refine r_icmp_gt 85 dX12_fairPrice_79 (by decide) (fun c12 => ?_) (fun c12 => ?_)
      · replace h := it_pos c12 h
        refine r_iload 7 dX12_fairPrice_85 rfl ?_
        refine r_istore (lv' := [(4, .int x6), (7, .int q11.1), (0, .ref (ad 0)), (1, .int x1), (2, .int x2), (3, .int x3), (5, .int x5), (6, .int x6)]) dX12_fairPrice_87 (by decide) rfl ?_
        refine r_iload 1 dX12_fairPrice_89 rfl ?_
        refine r_istore (lv' := [(5, .int q11.1), (4, .int x6), (7, .int q11.1), (0, .ref (ad 0)), (1, .int x1), (2, .int x2), (3, .int x3), (6, .int x6)]) dX12_fairPrice_91 (by decide) rfl ?_
        refine r_iinc (y := (x6 + (1 : Int32))) (lv' := [(6, .int (x6 + (1 : Int32))), (5, .int q11.1), (4, .int x6), (7, .int q11.1), (0, .ref (ad 0)), (1, .int x1), (2, .int x2), (3, .int x3)]) 7 dX12_fairPrice_93 rfl rfl (by decide) rfl ?_
        refine r_goto 45 dX12_fairPrice_96 (by decide) ?_
        refine r_sub (lv' := [(0, .ref (ad 0)), (1, .int x1), (2, .int x2), (3, .int x3), (4, .int x6), (5, .int q11.1), (6, .int (x6 + (1 : Int32)))]) [4, 5, 6, 7, 2, 1, 0] rfl ?_
        exact ih _ _ _ _ _ _ _ _ h
      · replace h := it_neg c12 h
        refine r_goto 93 dX12_fairPrice_82 (by decide) ?_
        refine r_iinc (y := (x6 + (1 : Int32))) (lv' := [(6, .int (x6 + (1 : Int32))), (7, .int q11.1), (0, .ref (ad 0)), (1, .int x1), (2, .int x2), (3, .int x3), (4, .int x4), (5, .int x5)]) 7 dX12_fairPrice_93 rfl rfl (by decide) rfl ?_
        refine r_goto 45 dX12_fairPrice_96 (by decide) ?_
        refine r_sub (lv' := [(0, .ref (ad 0)), (1, .int x1), (2, .int x2), (3, .int x3), (4, .int x4), (5, .int x5), (6, .int (x6 + (1 : Int32)))]) [2, 3, 4, 5, 6, 7, 0] rfl ?_
        exact ih _ _ _ _ _ _ _ _ h
def m_fairPrice (x1 : Int32) (x2 : Int32) (x3 : Int32) (z_sign : Nat → Int32) (z_clause : Nat → Int32) (z_clauses : Nat → Int32) (z_stack : Nat → Int64) (z_top : Int32) (z_word : Nat → Int64) (z_said : Nat → Int32) (z_force : Int32) (z_absent : Int32) (z_isRaining : Int32) (z_kept : Nat → Int32) : Option (Int32 × (Nat → Int64) × Int32 × (Nat → Int64) × (Nat → Int32) × Int32 × (Nat → Int32)) := (m_isStall x1 z_said).bind (fun q1 => (if q1 = 0 then some ((-1 : Int32), z_stack, z_top, z_word, z_said, z_isRaining, z_kept) else (m_in (x2.toInt64) (1 : Int64) (60 : Int64)).bind (fun q3 => (if q3 = 0 then some ((-1 : Int32), z_stack, z_top, z_word, z_said, z_isRaining, z_kept) else (m_in (x3.toInt64) (0 : Int64) (1 : Int64)).bind (fun q5 => (if q5 = 0 then some ((-1 : Int32), z_stack, z_top, z_word, z_said, z_isRaining, z_kept) else (m_keeps z_said z_kept).bind (fun q7 => m_fairPrice_l45 z_sign z_clause z_clauses z_force z_absent q7 x1 x2 x3 FU (-1 : Int32) (-1 : Int32) (1 : Int32) z_stack z_top z_word z_said z_isRaining)))))))
set_option maxRecDepth 20000 in
theorem cm_fairPrice {q : Int32 × (Nat → Int64) × Int32 × (Nat → Int64) × (Nat → Int32) × Int32 × (Nat → Int32)} {x1 : Int32} {x2 : Int32} {x3 : Int32} (h : m_fairPrice x1 x2 x3 z_sign z_clause z_clauses z_stack z_top z_word z_said z_force z_absent z_isRaining z_kept = some q) : rMet l D Z (ty7 K) Mm_fairPrice [.ref (ad 0), .int x1, .int x2, .int x3] (wM K ad z_tape z_taped z_rules z_sign z_length z_clause z_clauses z_read z_next z_wrong z_number z_text z_made z_deep z_lines z_open z_opened z_stack z_top z_word z_said z_force z_x z_absent z_isRaining z_wasSaid z_undone z_kept z_order z_bestOrder z_hasBy z_wealthThen z_isFit z_tillThen z_drawX z_images z_imageForce z_imageX z_isMade) (wM K ad z_tape z_taped z_rules z_sign z_length z_clause z_clauses z_read z_next z_wrong z_number z_text z_made z_deep z_lines z_open z_opened q.2.1 q.2.2.1 q.2.2.2.1 q.2.2.2.2.1 z_force z_x z_absent q.2.2.2.2.2.1 z_wasSaid z_undone q.2.2.2.2.2.2 z_order z_bestOrder z_hasBy z_wealthThen z_isFit z_tillThen z_drawX z_images z_imageForce z_imageX z_isMade) (some (.int q.1)) := by
  refine rMet.of (by decide) rfl (Nat.le_of_ble_eq_true rfl) ?_
  refine r_sub (lv' := [(0, .ref (ad 0)), (1, .int x1), (2, .int x2), (3, .int x3)]) [0, 1, 2, 3] rfl ?_
  unfold m_fairPrice at h
  refine r_aload_n 0 dX12_fairPrice_0 rfl ?_
  refine r_iload_n 1 dX12_fairPrice_1 rfl ?_
  obtain ⟨q1, h1, h⟩ := bd_some h
  refine cvM (st := []) (cm_isStall h1) rfl rfl (Nat.le_of_ble_eq_true rfl) km_isStall (tb_in (i := 24) (j := 15) rfl rfl) (by decide) rfl dX12_fairPrice_2 ?_
  refine r_if_eq 30 dX12_fairPrice_5 (by decide) (fun c2 => ?_) (fun c2 => ?_)
  · replace h := it_pos c2 h
    refine r_iconst (x := (-1 : Int32)) dX12_fairPrice_30 (by decide) ?_
    have hq := Option.some.inj h
    subst hq
    exact r_iret rfl dX12_fairPrice_31
  · replace h := it_neg c2 h
    refine r_iload_n 2 dX12_fairPrice_8 rfl ?_
    refine r_i2l dX12_fairPrice_9 ?_
    refine r_lconst (x := (1 : Int64)) dX12_fairPrice_10 (by decide) ?_
    refine r_ldc2 (x := (60 : Int64)) (tb_in (i := 28) (j := 10) rfl rfl) dX12_fairPrice_11 ?_
    obtain ⟨q3, h3, h⟩ := bd_some h
    refine r_callS (st := []) (cm_in h3) rfl rfl (Nat.le_of_ble_eq_true rfl) km_in (tb_in (i := 18) (j := 20) rfl rfl) (by decide) dX12_fairPrice_14 ?_
    refine r_if_eq 30 dX12_fairPrice_17 (by decide) (fun c4 => ?_) (fun c4 => ?_)
    · replace h := it_pos c4 h
      refine r_iconst (x := (-1 : Int32)) dX12_fairPrice_30 (by decide) ?_
      have hq := Option.some.inj h
      subst hq
      exact r_iret rfl dX12_fairPrice_31
    · replace h := it_neg c4 h
      refine r_iload_n 3 dX12_fairPrice_20 rfl ?_
      refine r_i2l dX12_fairPrice_21 ?_
      refine r_lconst (x := (0 : Int64)) dX12_fairPrice_22 (by decide) ?_
      refine r_lconst (x := (1 : Int64)) dX12_fairPrice_23 (by decide) ?_
      obtain ⟨q5, h5, h⟩ := bd_some h
      refine r_callS (st := []) (cm_in h5) rfl rfl (Nat.le_of_ble_eq_true rfl) km_in (tb_in (i := 18) (j := 20) rfl rfl) (by decide) dX12_fairPrice_24 ?_
      refine r_if_ne 32 dX12_fairPrice_27 (by decide) (fun c6 => ?_) (fun c6 => ?_)
      · replace h := it_neg c6 h
        refine r_iconst (x := (-1 : Int32)) dX12_fairPrice_32 (by decide) ?_
        refine r_istore (lv' := [(4, .int (-1 : Int32)), (0, .ref (ad 0)), (1, .int x1), (2, .int x2), (3, .int x3)]) dX12_fairPrice_33 (by decide) rfl ?_
        refine r_iconst (x := (-1 : Int32)) dX12_fairPrice_35 (by decide) ?_
        refine r_istore (lv' := [(5, .int (-1 : Int32)), (4, .int (-1 : Int32)), (0, .ref (ad 0)), (1, .int x1), (2, .int x2), (3, .int x3)]) dX12_fairPrice_36 (by decide) rfl ?_
        refine r_aload_n 2 dX12_fairPrice_38 rfl ?_
        obtain ⟨q7, h7, h⟩ := bd_some h
        refine cvM (st := []) (cm_keeps h7) rfl rfl (Nat.le_of_ble_eq_true rfl) km_keeps (tb_in (i := 26) (j := 26) rfl rfl) (by decide) rfl dX12_fairPrice_39 ?_
        refine r_iconst (x := (1 : Int32)) dX12_fairPrice_42 (by decide) ?_
        refine r_istore (lv' := [(6, .int (1 : Int32)), (5, .int (-1 : Int32)), (4, .int (-1 : Int32)), (0, .ref (ad 0)), (1, .int x1), (2, .int x2), (3, .int x3)]) dX12_fairPrice_43 (by decide) rfl ?_
        refine r_sub (lv' := [(0, .ref (ad 0)), (1, .int x1), (2, .int x2), (3, .int x3), (4, .int (-1 : Int32)), (5, .int (-1 : Int32)), (6, .int (1 : Int32))]) [3, 4, 5, 6, 2, 1, 0] rfl ?_
        exact cm_fairPrice_l45  FU _ _ _ _ _ _ _ _ h
      · replace h := it_pos c6 h
        refine r_iconst (x := (-1 : Int32)) dX12_fairPrice_30 (by decide) ?_
        have hq := Option.some.inj h
        subst hq
        exact r_iret rfl dX12_fairPrice_31
theorem dX12_commission_0 : decode cX12_commission 0 = .ok (.aload_n 0, 1) := by decide +kernel
theorem dX12_commission_1 : decode cX12_commission 1 = .ok (.iload_n 1, 1) := by decide +kernel
theorem dX12_commission_2 : decode cX12_commission 2 = .ok (.invokevirtual 311, 3) := by decide +kernel
theorem dX12_commission_5 : decode cX12_commission 5 = .ok (.ifCond .eq 25, 3) := by decide +kernel
theorem dX12_commission_8 : decode cX12_commission 8 = .ok (.iload_n 2, 1) := by decide +kernel
theorem dX12_commission_9 : decode cX12_commission 9 = .ok (.i2l, 1) := by decide +kernel
theorem dX12_commission_10 : decode cX12_commission 10 = .ok (.lconst 1, 1) := by decide +kernel
theorem dX12_commission_11 : decode cX12_commission 11 = .ok (.ldc2_w 413, 3) := by decide +kernel
theorem dX12_commission_14 : decode cX12_commission 14 = .ok (.invokestatic 124, 3) := by decide +kernel
theorem dX12_commission_17 : decode cX12_commission 17 = .ok (.ifCond .eq 13, 3) := by decide +kernel
theorem dX12_commission_20 : decode cX12_commission 20 = .ok (.iload_n 3, 1) := by decide +kernel
theorem dX12_commission_21 : decode cX12_commission 21 = .ok (.i2l, 1) := by decide +kernel
theorem dX12_commission_22 : decode cX12_commission 22 = .ok (.lconst 0, 1) := by decide +kernel
theorem dX12_commission_23 : decode cX12_commission 23 = .ok (.lconst 1, 1) := by decide +kernel
theorem dX12_commission_24 : decode cX12_commission 24 = .ok (.invokestatic 124, 3) := by decide +kernel
theorem dX12_commission_27 : decode cX12_commission 27 = .ok (.ifCond .ne 5, 3) := by decide +kernel
theorem dX12_commission_30 : decode cX12_commission 30 = .ok (.iconst (-1), 1) := by decide +kernel
theorem dX12_commission_31 : decode cX12_commission 31 = .ok (.ireturn, 1) := by decide +kernel
theorem dX12_commission_32 : decode cX12_commission 32 = .ok (.aload_n 0, 1) := by decide +kernel
theorem dX12_commission_33 : decode cX12_commission 33 = .ok (.getfield 39, 3) := by decide +kernel
theorem dX12_commission_36 : decode cX12_commission 36 = .ok (.iconst 2, 1) := by decide +kernel
theorem dX12_commission_37 : decode cX12_commission 37 = .ok (.iaload, 1) := by decide +kernel
theorem dX12_commission_38 : decode cX12_commission 38 = .ok (.istore 4, 2) := by decide +kernel
theorem dX12_commission_40 : decode cX12_commission 40 = .ok (.iconst (-1), 1) := by decide +kernel
theorem dX12_commission_41 : decode cX12_commission 41 = .ok (.istore 5, 2) := by decide +kernel
theorem dX12_commission_43 : decode cX12_commission 43 = .ok (.iconst (-1), 1) := by decide +kernel
theorem dX12_commission_44 : decode cX12_commission 44 = .ok (.istore 6, 2) := by decide +kernel
theorem dX12_commission_46 : decode cX12_commission 46 = .ok (.aload_n 0, 1) := by decide +kernel
theorem dX12_commission_47 : decode cX12_commission 47 = .ok (.invokevirtual 376, 3) := by decide +kernel
theorem dX12_commission_50 : decode cX12_commission 50 = .ok (.iconst 0, 1) := by decide +kernel
theorem dX12_commission_51 : decode cX12_commission 51 = .ok (.istore 7, 2) := by decide +kernel
theorem dX12_commission_53 : decode cX12_commission 53 = .ok (.iload 7, 2) := by decide +kernel
theorem dX12_commission_55 : decode cX12_commission 55 = .ok (.bipush 9, 2) := by decide +kernel
theorem dX12_commission_57 : decode cX12_commission 57 = .ok (.if_icmp .gt 43, 3) := by decide +kernel
theorem dX12_commission_60 : decode cX12_commission 60 = .ok (.aload_n 0, 1) := by decide +kernel
theorem dX12_commission_61 : decode cX12_commission 61 = .ok (.getfield 39, 3) := by decide +kernel
theorem dX12_commission_64 : decode cX12_commission 64 = .ok (.iconst 2, 1) := by decide +kernel
theorem dX12_commission_65 : decode cX12_commission 65 = .ok (.iload 7, 2) := by decide +kernel
theorem dX12_commission_67 : decode cX12_commission 67 = .ok (.iastore, 1) := by decide +kernel
theorem dX12_commission_68 : decode cX12_commission 68 = .ok (.aload_n 0, 1) := by decide +kernel
theorem dX12_commission_69 : decode cX12_commission 69 = .ok (.iload_n 1, 1) := by decide +kernel
theorem dX12_commission_70 : decode cX12_commission 70 = .ok (.iload_n 2, 1) := by decide +kernel
theorem dX12_commission_71 : decode cX12_commission 71 = .ok (.invokevirtual 415, 3) := by decide +kernel
theorem dX12_commission_74 : decode cX12_commission 74 = .ok (.istore 8, 2) := by decide +kernel
theorem dX12_commission_76 : decode cX12_commission 76 = .ok (.iload 8, 2) := by decide +kernel
theorem dX12_commission_78 : decode cX12_commission 78 = .ok (.iload 6, 2) := by decide +kernel
theorem dX12_commission_80 : decode cX12_commission 80 = .ok (.if_icmp .gt 6, 3) := by decide +kernel
theorem dX12_commission_83 : decode cX12_commission 83 = .ok (.goto 11, 3) := by decide +kernel
theorem dX12_commission_86 : decode cX12_commission 86 = .ok (.iload 7, 2) := by decide +kernel
theorem dX12_commission_88 : decode cX12_commission 88 = .ok (.istore 5, 2) := by decide +kernel
theorem dX12_commission_90 : decode cX12_commission 90 = .ok (.iload 8, 2) := by decide +kernel
theorem dX12_commission_92 : decode cX12_commission 92 = .ok (.istore 6, 2) := by decide +kernel
theorem dX12_commission_94 : decode cX12_commission 94 = .ok (.iinc 7 1, 3) := by decide +kernel
theorem dX12_commission_97 : decode cX12_commission 97 = .ok (.goto (-44), 3) := by decide +kernel
theorem dX12_commission_100 : decode cX12_commission 100 = .ok (.aload_n 0, 1) := by decide +kernel
theorem dX12_commission_101 : decode cX12_commission 101 = .ok (.getfield 39, 3) := by decide +kernel
theorem dX12_commission_104 : decode cX12_commission 104 = .ok (.iconst 2, 1) := by decide +kernel
theorem dX12_commission_105 : decode cX12_commission 105 = .ok (.iload 4, 2) := by decide +kernel
theorem dX12_commission_107 : decode cX12_commission 107 = .ok (.iastore, 1) := by decide +kernel
theorem dX12_commission_108 : decode cX12_commission 108 = .ok (.iload_n 3, 1) := by decide +kernel
theorem dX12_commission_109 : decode cX12_commission 109 = .ok (.ifCond .ne 8, 3) := by decide +kernel
theorem dX12_commission_112 : decode cX12_commission 112 = .ok (.iload 5, 2) := by decide +kernel
theorem dX12_commission_114 : decode cX12_commission 114 = .ok (.goto 5, 3) := by decide +kernel
theorem dX12_commission_117 : decode cX12_commission 117 = .ok (.iload 6, 2) := by decide +kernel
theorem dX12_commission_119 : decode cX12_commission 119 = .ok (.ireturn, 1) := by decide +kernel
abbrev Mm_commission : rx_M := (RX12, yX12_commission, cX12_commission, 9, (some .int), 10)
theorem km_commission : rKv Mm_commission 3 := ⟨tb_in (i := 34) (j := 18) rfl rfl, tb_in (i := 34) (j := 19) rfl rfl, tb_in (i := 17) (j := 21) rfl rfl, tb_in (i := 28) (j := 15) rfl rfl, ⟨by decide, by decide, by decide +kernel⟩, by decide⟩
def m_commission_l53 (z_sign : Nat → Int32) (z_clause : Nat → Int32) (z_clauses : Nat → Int32) (z_force : Int32) (z_absent : Int32) (z_kept : Nat → Int32) (x1 : Int32) (x2 : Int32) (x3 : Int32) (x4 : Int32) : Nat → Int32 → Int32 → Int32 → (Nat → Int64) → Int32 → (Nat → Int64) → (Nat → Int32) → Int32 → Option (Int32 × (Nat → Int64) × Int32 × (Nat → Int64) × (Nat → Int32) × Int32 × (Nat → Int32))
  | 0, _, _, _, _, _, _, _, _ => none
  | n + 1, x5, x6, x7, z_stack, z_top, z_word, z_said, z_isRaining => (if (9 : Int32) < x7 then rq (inb (2 : Int32) 156) (lt (upd z_said (2 : Int32).toNatClampNeg x4) (fun u11 => (if x3 = 0 then some (x5, z_stack, z_top, z_word, u11, z_isRaining, z_kept) else some (x6, z_stack, z_top, z_word, u11, z_isRaining, z_kept)))) else rq (inb (2 : Int32) 156) (lt (upd z_said (2 : Int32).toNatClampNeg x7) (fun u13 => (m_wealthIn x1 x2 z_sign z_clause z_clauses z_stack z_top z_word u13 z_force z_absent z_isRaining z_kept).bind (fun q14 => (if x6 < q14.1 then m_commission_l53 z_sign z_clause z_clauses z_force z_absent z_kept x1 x2 x3 x4 n x7 q14.1 (x7 + (1 : Int32)) q14.2.1 q14.2.2.1 q14.2.2.2.1 q14.2.2.2.2.1 q14.2.2.2.2.2 else m_commission_l53 z_sign z_clause z_clauses z_force z_absent z_kept x1 x2 x3 x4 n x5 x6 (x7 + (1 : Int32)) q14.2.1 q14.2.2.1 q14.2.2.2.1 q14.2.2.2.2.1 q14.2.2.2.2.2)))))
set_option maxRecDepth 20000 in
theorem cm_commission_l53 {q : Int32 × (Nat → Int64) × Int32 × (Nat → Int64) × (Nat → Int32) × Int32 × (Nat → Int32)} {x1 : Int32} {x2 : Int32} {x3 : Int32} {x4 : Int32}  : ∀ (n : Nat) (x5 : Int32) (x6 : Int32) (x7 : Int32) (z_stack : Nat → Int64) (z_top : Int32) (z_word : Nat → Int64) (z_said : Nat → Int32) (z_isRaining : Int32), m_commission_l53 z_sign z_clause z_clauses z_force z_absent z_kept x1 x2 x3 x4 n x5 x6 x7 z_stack z_top z_word z_said z_isRaining = some q → rW l D Z (ty7 K) Mm_commission 53 [(0, .ref (ad 0)), (1, .int x1), (2, .int x2), (3, .int x3), (4, .int x4), (5, .int x5), (6, .int x6), (7, .int x7)] [] (wM K ad z_tape z_taped z_rules z_sign z_length z_clause z_clauses z_read z_next z_wrong z_number z_text z_made z_deep z_lines z_open z_opened z_stack z_top z_word z_said z_force z_x z_absent z_isRaining z_wasSaid z_undone z_kept z_order z_bestOrder z_hasBy z_wealthThen z_isFit z_tillThen z_drawX z_images z_imageForce z_imageX z_isMade) (wM K ad z_tape z_taped z_rules z_sign z_length z_clause z_clauses z_read z_next z_wrong z_number z_text z_made z_deep z_lines z_open z_opened q.2.1 q.2.2.1 q.2.2.2.1 q.2.2.2.2.1 z_force z_x z_absent q.2.2.2.2.2.1 z_wasSaid z_undone q.2.2.2.2.2.2 z_order z_bestOrder z_hasBy z_wealthThen z_isFit z_tillThen z_drawX z_images z_imageForce z_imageX z_isMade) (some (.int q.1)) := by
  intro n
  induction n with
  | zero => intro x5 x6 x7 z_stack z_top z_word z_said z_isRaining h; unfold m_commission_l53 at h; cases h
  | succ n ih =>
    intro x5 x6 x7 z_stack z_top z_word z_said z_isRaining h
    unfold m_commission_l53 at h
    refine r_iload 7 dX12_commission_53 rfl ?_
    refine r_bipush (x := (9 : Int32)) dX12_commission_55 (by decide) ?_
    refine r_icmp_gt 100 dX12_commission_57 (by decide) (fun c10 => ?_) (fun c10 => ?_)
    · replace h := it_pos c10 h
      refine r_aload_n 0 dX12_commission_100 rfl ?_
      refine gM_said rfl dX12_commission_101 ?_
      refine r_iconst (x := (2 : Int32)) dX12_commission_104 (by decide) ?_
      refine r_iload 4 dX12_commission_105 rfl ?_
      obtain ⟨h11, h⟩ := rq_some h
      obtain ⟨u11, e11, h⟩ := lt_some h
      refine sM_said e11 (inb_in h11) dX12_commission_107 ?_
      refine r_iload_n 3 dX12_commission_108 rfl ?_
      refine r_if_ne 117 dX12_commission_109 (by decide) (fun c12 => ?_) (fun c12 => ?_)
      · replace h := it_neg c12 h
        refine r_iload 6 dX12_commission_117 rfl ?_
        have hq := Option.some.inj h
        subst hq
        exact r_iret rfl dX12_commission_119
      · replace h := it_pos c12 h
        refine r_iload 5 dX12_commission_112 rfl ?_
        refine r_goto 119 dX12_commission_114 (by decide) ?_
        have hq := Option.some.inj h
        subst hq
        exact r_iret rfl dX12_commission_119
    · replace h := it_neg c10 h
      refine r_aload_n 0 dX12_commission_60 rfl ?_
      refine gM_said rfl dX12_commission_61 ?_
      refine r_iconst (x := (2 : Int32)) dX12_commission_64 (by decide) ?_
      refine r_iload 7 dX12_commission_65 rfl ?_
      obtain ⟨h13, h⟩ := rq_some h
      obtain ⟨u13, e13, h⟩ := lt_some h
      refine sM_said e13 (inb_in h13) dX12_commission_67 ?_
      refine r_aload_n 0 dX12_commission_68 rfl ?_
      refine r_iload_n 1 dX12_commission_69 rfl ?_
      refine r_iload_n 2 dX12_commission_70 rfl ?_
      obtain ⟨q14, h14, h⟩ := bd_some h
      refine cvM (st := []) (cm_wealthIn h14) rfl rfl (Nat.le_of_ble_eq_true rfl) km_wealthIn (tb_in (i := 28) (j := 11) rfl rfl) (by decide) rfl dX12_commission_71 ?_
      refine r_istore (lv' := [(8, .int q14.1), (0, .ref (ad 0)), (1, .int x1), (2, .int x2), (3, .int x3), (4, .int x4), (5, .int x5), (6, .int x6), (7, .int x7)]) dX12_commission_74 (by decide) rfl ?_
      refine r_iload 0 dX12_commission_76 rfl ?_
      refine r_iload 7 dX12_commission_78 rfl ?_
      refine r_icmp_gt 86 dX12_commission_80 (by decide) (fun c15 => ?_) (fun c15 => ?_)
      · replace h := it_pos c15 h
        refine r_iload 8 dX12_commission_86 rfl ?_
        refine r_istore (lv' := [(5, .int x7), (8, .int q14.1), (0, .ref (ad 0)), (1, .int x1), (2, .int x2), (3, .int x3), (4, .int x4), (6, .int x6), (7, .int x7)]) dX12_commission_88 (by decide) rfl ?_
        refine r_iload 1 dX12_commission_90 rfl ?_
        refine r_istore (lv' := [(6, .int q14.1), (5, .int x7), (8, .int q14.1), (0, .ref (ad 0)), (1, .int x1), (2, .int x2), (3, .int x3), (4, .int x4), (7, .int x7)]) dX12_commission_92 (by decide) rfl ?_
        refine r_iinc (y := (x7 + (1 : Int32))) (lv' := [(7, .int (x7 + (1 : Int32))), (6, .int q14.1), (5, .int x7), (8, .int q14.1), (0, .ref (ad 0)), (1, .int x1), (2, .int x2), (3, .int x3), (4, .int x4)]) 8 dX12_commission_94 rfl rfl (by decide) rfl ?_
        refine r_goto 53 dX12_commission_97 (by decide) ?_
        refine r_sub (lv' := [(0, .ref (ad 0)), (1, .int x1), (2, .int x2), (3, .int x3), (4, .int x4), (5, .int x7), (6, .int q14.1), (7, .int (x7 + (1 : Int32)))]) [4, 5, 6, 7, 8, 2, 1, 0] rfl ?_
        exact ih _ _ _ _ _ _ _ _ h
      · replace h := it_neg c15 h
        refine r_goto 94 dX12_commission_83 (by decide) ?_
        refine r_iinc (y := (x7 + (1 : Int32))) (lv' := [(7, .int (x7 + (1 : Int32))), (8, .int q14.1), (0, .ref (ad 0)), (1, .int x1), (2, .int x2), (3, .int x3), (4, .int x4), (5, .int x5), (6, .int x6)]) 8 dX12_commission_94 rfl rfl (by decide) rfl ?_
        refine r_goto 53 dX12_commission_97 (by decide) ?_
        refine r_sub (lv' := [(0, .ref (ad 0)), (1, .int x1), (2, .int x2), (3, .int x3), (4, .int x4), (5, .int x5), (6, .int x6), (7, .int (x7 + (1 : Int32)))]) [2, 3, 4, 5, 6, 7, 8, 0] rfl ?_
        exact ih _ _ _ _ _ _ _ _ h
def m_commission (x1 : Int32) (x2 : Int32) (x3 : Int32) (z_sign : Nat → Int32) (z_clause : Nat → Int32) (z_clauses : Nat → Int32) (z_stack : Nat → Int64) (z_top : Int32) (z_word : Nat → Int64) (z_said : Nat → Int32) (z_force : Int32) (z_absent : Int32) (z_isRaining : Int32) (z_kept : Nat → Int32) : Option (Int32 × (Nat → Int64) × Int32 × (Nat → Int64) × (Nat → Int32) × Int32 × (Nat → Int32)) := (m_isStall x1 z_said).bind (fun q1 => (if q1 = 0 then some ((-1 : Int32), z_stack, z_top, z_word, z_said, z_isRaining, z_kept) else (m_in (x2.toInt64) (1 : Int64) (60 : Int64)).bind (fun q3 => (if q3 = 0 then some ((-1 : Int32), z_stack, z_top, z_word, z_said, z_isRaining, z_kept) else (m_in (x3.toInt64) (0 : Int64) (1 : Int64)).bind (fun q5 => (if q5 = 0 then some ((-1 : Int32), z_stack, z_top, z_word, z_said, z_isRaining, z_kept) else rq (inb (2 : Int32) 156) (lt (z_said (2 : Int32).toNatClampNeg) (fun y8 => (m_keeps z_said z_kept).bind (fun q9 => m_commission_l53 z_sign z_clause z_clauses z_force z_absent q9 x1 x2 x3 y8 FU (-1 : Int32) (-1 : Int32) (0 : Int32) z_stack z_top z_word z_said z_isRaining)))))))))
set_option maxRecDepth 20000 in
theorem cm_commission {q : Int32 × (Nat → Int64) × Int32 × (Nat → Int64) × (Nat → Int32) × Int32 × (Nat → Int32)} {x1 : Int32} {x2 : Int32} {x3 : Int32} (h : m_commission x1 x2 x3 z_sign z_clause z_clauses z_stack z_top z_word z_said z_force z_absent z_isRaining z_kept = some q) : rMet l D Z (ty7 K) Mm_commission [.ref (ad 0), .int x1, .int x2, .int x3] (wM K ad z_tape z_taped z_rules z_sign z_length z_clause z_clauses z_read z_next z_wrong z_number z_text z_made z_deep z_lines z_open z_opened z_stack z_top z_word z_said z_force z_x z_absent z_isRaining z_wasSaid z_undone z_kept z_order z_bestOrder z_hasBy z_wealthThen z_isFit z_tillThen z_drawX z_images z_imageForce z_imageX z_isMade) (wM K ad z_tape z_taped z_rules z_sign z_length z_clause z_clauses z_read z_next z_wrong z_number z_text z_made z_deep z_lines z_open z_opened q.2.1 q.2.2.1 q.2.2.2.1 q.2.2.2.2.1 z_force z_x z_absent q.2.2.2.2.2.1 z_wasSaid z_undone q.2.2.2.2.2.2 z_order z_bestOrder z_hasBy z_wealthThen z_isFit z_tillThen z_drawX z_images z_imageForce z_imageX z_isMade) (some (.int q.1)) := by
  refine rMet.of (by decide) rfl (Nat.le_of_ble_eq_true rfl) ?_
  refine r_sub (lv' := [(0, .ref (ad 0)), (1, .int x1), (2, .int x2), (3, .int x3)]) [0, 1, 2, 3] rfl ?_
  unfold m_commission at h
  refine r_aload_n 0 dX12_commission_0 rfl ?_
  refine r_iload_n 1 dX12_commission_1 rfl ?_
  obtain ⟨q1, h1, h⟩ := bd_some h
  refine cvM (st := []) (cm_isStall h1) rfl rfl (Nat.le_of_ble_eq_true rfl) km_isStall (tb_in (i := 24) (j := 15) rfl rfl) (by decide) rfl dX12_commission_2 ?_
  refine r_if_eq 30 dX12_commission_5 (by decide) (fun c2 => ?_) (fun c2 => ?_)
  · replace h := it_pos c2 h
    refine r_iconst (x := (-1 : Int32)) dX12_commission_30 (by decide) ?_
    have hq := Option.some.inj h
    subst hq
    exact r_iret rfl dX12_commission_31
  · replace h := it_neg c2 h
    refine r_iload_n 2 dX12_commission_8 rfl ?_
    refine r_i2l dX12_commission_9 ?_
    refine r_lconst (x := (1 : Int64)) dX12_commission_10 (by decide) ?_
    refine r_ldc2 (x := (60 : Int64)) (tb_in (i := 28) (j := 10) rfl rfl) dX12_commission_11 ?_
    obtain ⟨q3, h3, h⟩ := bd_some h
    refine r_callS (st := []) (cm_in h3) rfl rfl (Nat.le_of_ble_eq_true rfl) km_in (tb_in (i := 18) (j := 20) rfl rfl) (by decide) dX12_commission_14 ?_
    refine r_if_eq 30 dX12_commission_17 (by decide) (fun c4 => ?_) (fun c4 => ?_)
    · replace h := it_pos c4 h
      refine r_iconst (x := (-1 : Int32)) dX12_commission_30 (by decide) ?_
      have hq := Option.some.inj h
      subst hq
      exact r_iret rfl dX12_commission_31
    · replace h := it_neg c4 h
      refine r_iload_n 3 dX12_commission_20 rfl ?_
      refine r_i2l dX12_commission_21 ?_
      refine r_lconst (x := (0 : Int64)) dX12_commission_22 (by decide) ?_
      refine r_lconst (x := (1 : Int64)) dX12_commission_23 (by decide) ?_
      obtain ⟨q5, h5, h⟩ := bd_some h
      refine r_callS (st := []) (cm_in h5) rfl rfl (Nat.le_of_ble_eq_true rfl) km_in (tb_in (i := 18) (j := 20) rfl rfl) (by decide) dX12_commission_24 ?_
      refine r_if_ne 32 dX12_commission_27 (by decide) (fun c6 => ?_) (fun c6 => ?_)
      · replace h := it_neg c6 h
        refine r_aload_n 0 dX12_commission_32 rfl ?_
        refine gM_said rfl dX12_commission_33 ?_
        refine r_iconst (x := (2 : Int32)) dX12_commission_36 (by decide) ?_
        obtain ⟨h7, h⟩ := rq_some h
        refine lM_said (inb_in h7) dX12_commission_37 ?_
        obtain ⟨y8, e8, h⟩ := lt_some h
        refine r_top e8 ?_
        refine r_istore (lv' := [(4, .int y8), (0, .ref (ad 0)), (1, .int x1), (2, .int x2), (3, .int x3)]) dX12_commission_38 (by decide) rfl ?_
        refine r_iconst (x := (-1 : Int32)) dX12_commission_40 (by decide) ?_
        refine r_istore (lv' := [(5, .int (-1 : Int32)), (4, .int y8), (0, .ref (ad 0)), (1, .int x1), (2, .int x2), (3, .int x3)]) dX12_commission_41 (by decide) rfl ?_
        refine r_iconst (x := (-1 : Int32)) dX12_commission_43 (by decide) ?_
        refine r_istore (lv' := [(6, .int (-1 : Int32)), (5, .int (-1 : Int32)), (4, .int y8), (0, .ref (ad 0)), (1, .int x1), (2, .int x2), (3, .int x3)]) dX12_commission_44 (by decide) rfl ?_
        refine r_aload_n 3 dX12_commission_46 rfl ?_
        obtain ⟨q9, h9, h⟩ := bd_some h
        refine cvM (st := []) (cm_keeps h9) rfl rfl (Nat.le_of_ble_eq_true rfl) km_keeps (tb_in (i := 26) (j := 26) rfl rfl) (by decide) rfl dX12_commission_47 ?_
        refine r_iconst (x := (0 : Int32)) dX12_commission_50 (by decide) ?_
        refine r_istore (lv' := [(7, .int (0 : Int32)), (6, .int (-1 : Int32)), (5, .int (-1 : Int32)), (4, .int y8), (0, .ref (ad 0)), (1, .int x1), (2, .int x2), (3, .int x3)]) dX12_commission_51 (by decide) rfl ?_
        refine r_sub (lv' := [(0, .ref (ad 0)), (1, .int x1), (2, .int x2), (3, .int x3), (4, .int y8), (5, .int (-1 : Int32)), (6, .int (-1 : Int32)), (7, .int (0 : Int32))]) [4, 5, 6, 7, 3, 2, 1, 0] rfl ?_
        exact cm_commission_l53  FU _ _ _ _ _ _ _ _ h
      · replace h := it_pos c6 h
        refine r_iconst (x := (-1 : Int32)) dX12_commission_30 (by decide) ?_
        have hq := Option.some.inj h
        subst hq
        exact r_iret rfl dX12_commission_31
theorem dX12_isRest_0 : decode cX12_isRest 0 = .ok (.iconst 0, 1) := by decide +kernel
theorem dX12_isRest_1 : decode cX12_isRest 1 = .ok (.istore_n 3, 1) := by decide +kernel
theorem dX12_isRest_2 : decode cX12_isRest 2 = .ok (.iload_n 3, 1) := by decide +kernel
theorem dX12_isRest_3 : decode cX12_isRest 3 = .ok (.iconst 5, 1) := by decide +kernel
theorem dX12_isRest_4 : decode cX12_isRest 4 = .ok (.if_icmp .ge 69, 3) := by decide +kernel
theorem dX12_isRest_7 : decode cX12_isRest 7 = .ok (.aload_n 0, 1) := by decide +kernel
theorem dX12_isRest_8 : decode cX12_isRest 8 = .ok (.getfield 61, 3) := by decide +kernel
theorem dX12_isRest_11 : decode cX12_isRest 11 = .ok (.iconst 2, 1) := by decide +kernel
theorem dX12_isRest_12 : decode cX12_isRest 12 = .ok (.iconst 5, 1) := by decide +kernel
theorem dX12_isRest_13 : decode cX12_isRest 13 = .ok (.iload_n 3, 1) := by decide +kernel
theorem dX12_isRest_14 : decode cX12_isRest 14 = .ok (.imul, 1) := by decide +kernel
theorem dX12_isRest_15 : decode cX12_isRest 15 = .ok (.iload_n 2, 1) := by decide +kernel
theorem dX12_isRest_16 : decode cX12_isRest 16 = .ok (.iadd, 1) := by decide +kernel
theorem dX12_isRest_17 : decode cX12_isRest 17 = .ok (.imul, 1) := by decide +kernel
theorem dX12_isRest_18 : decode cX12_isRest 18 = .ok (.iaload, 1) := by decide +kernel
theorem dX12_isRest_19 : decode cX12_isRest 19 = .ok (.aload_n 0, 1) := by decide +kernel
theorem dX12_isRest_20 : decode cX12_isRest 20 = .ok (.getfield 61, 3) := by decide +kernel
theorem dX12_isRest_23 : decode cX12_isRest 23 = .ok (.iconst 2, 1) := by decide +kernel
theorem dX12_isRest_24 : decode cX12_isRest 24 = .ok (.iconst 5, 1) := by decide +kernel
theorem dX12_isRest_25 : decode cX12_isRest 25 = .ok (.iload_n 1, 1) := by decide +kernel
theorem dX12_isRest_26 : decode cX12_isRest 26 = .ok (.imul, 1) := by decide +kernel
theorem dX12_isRest_27 : decode cX12_isRest 27 = .ok (.iload_n 2, 1) := by decide +kernel
theorem dX12_isRest_28 : decode cX12_isRest 28 = .ok (.iadd, 1) := by decide +kernel
theorem dX12_isRest_29 : decode cX12_isRest 29 = .ok (.imul, 1) := by decide +kernel
theorem dX12_isRest_30 : decode cX12_isRest 30 = .ok (.iaload, 1) := by decide +kernel
theorem dX12_isRest_31 : decode cX12_isRest 31 = .ok (.if_icmp .gt 34, 3) := by decide +kernel
theorem dX12_isRest_34 : decode cX12_isRest 34 = .ok (.aload_n 0, 1) := by decide +kernel
theorem dX12_isRest_35 : decode cX12_isRest 35 = .ok (.getfield 61, 3) := by decide +kernel
theorem dX12_isRest_38 : decode cX12_isRest 38 = .ok (.iconst 2, 1) := by decide +kernel
theorem dX12_isRest_39 : decode cX12_isRest 39 = .ok (.iconst 5, 1) := by decide +kernel
theorem dX12_isRest_40 : decode cX12_isRest 40 = .ok (.iload_n 1, 1) := by decide +kernel
theorem dX12_isRest_41 : decode cX12_isRest 41 = .ok (.imul, 1) := by decide +kernel
theorem dX12_isRest_42 : decode cX12_isRest 42 = .ok (.iload_n 3, 1) := by decide +kernel
theorem dX12_isRest_43 : decode cX12_isRest 43 = .ok (.iadd, 1) := by decide +kernel
theorem dX12_isRest_44 : decode cX12_isRest 44 = .ok (.imul, 1) := by decide +kernel
theorem dX12_isRest_45 : decode cX12_isRest 45 = .ok (.iconst 1, 1) := by decide +kernel
theorem dX12_isRest_46 : decode cX12_isRest 46 = .ok (.iadd, 1) := by decide +kernel
theorem dX12_isRest_47 : decode cX12_isRest 47 = .ok (.iaload, 1) := by decide +kernel
theorem dX12_isRest_48 : decode cX12_isRest 48 = .ok (.aload_n 0, 1) := by decide +kernel
theorem dX12_isRest_49 : decode cX12_isRest 49 = .ok (.getfield 61, 3) := by decide +kernel
theorem dX12_isRest_52 : decode cX12_isRest 52 = .ok (.iconst 2, 1) := by decide +kernel
theorem dX12_isRest_53 : decode cX12_isRest 53 = .ok (.iconst 5, 1) := by decide +kernel
theorem dX12_isRest_54 : decode cX12_isRest 54 = .ok (.iload_n 1, 1) := by decide +kernel
theorem dX12_isRest_55 : decode cX12_isRest 55 = .ok (.imul, 1) := by decide +kernel
theorem dX12_isRest_56 : decode cX12_isRest 56 = .ok (.iload_n 2, 1) := by decide +kernel
theorem dX12_isRest_57 : decode cX12_isRest 57 = .ok (.iadd, 1) := by decide +kernel
theorem dX12_isRest_58 : decode cX12_isRest 58 = .ok (.imul, 1) := by decide +kernel
theorem dX12_isRest_59 : decode cX12_isRest 59 = .ok (.iconst 1, 1) := by decide +kernel
theorem dX12_isRest_60 : decode cX12_isRest 60 = .ok (.iadd, 1) := by decide +kernel
theorem dX12_isRest_61 : decode cX12_isRest 61 = .ok (.iaload, 1) := by decide +kernel
theorem dX12_isRest_62 : decode cX12_isRest 62 = .ok (.if_icmp .le 5, 3) := by decide +kernel
theorem dX12_isRest_65 : decode cX12_isRest 65 = .ok (.iconst 0, 1) := by decide +kernel
theorem dX12_isRest_66 : decode cX12_isRest 66 = .ok (.ireturn, 1) := by decide +kernel
theorem dX12_isRest_67 : decode cX12_isRest 67 = .ok (.iinc 3 1, 3) := by decide +kernel
theorem dX12_isRest_70 : decode cX12_isRest 70 = .ok (.goto (-68), 3) := by decide +kernel
theorem dX12_isRest_73 : decode cX12_isRest 73 = .ok (.iconst 1, 1) := by decide +kernel
theorem dX12_isRest_74 : decode cX12_isRest 74 = .ok (.ireturn, 1) := by decide +kernel
abbrev Mm_isRest : rx_M := (RX12, yX12_isRest, cX12_isRest, 4, (some .boolean), 1)
theorem km_isRest : rKv Mm_isRest 2 := ⟨tb_in (i := 28) (j := 19) rfl rfl, tb_in (i := 28) (j := 20) rfl rfl, tb_in (i := 17) (j := 21) rfl rfl, tb_in (i := 28) (j := 16) rfl rfl, ⟨by decide, by decide, by decide +kernel⟩, by decide⟩
def m_isRest_l2 (z_hasBy : Nat → Int32) (x1 : Int32) (x2 : Int32) : Nat → Int32 → Option (Int32)
  | 0, _ => none
  | n + 1, x3 => (if (5 : Int32) ≤ x3 then some ((1 : Int32)) else rq (inb ((2 : Int32) * (((5 : Int32) * x3) + x2)) 50) (rq (inb ((2 : Int32) * (((5 : Int32) * x1) + x2)) 50) ((if (z_hasBy ((2 : Int32) * (((5 : Int32) * x1) + x2)).toNatClampNeg) < (z_hasBy ((2 : Int32) * (((5 : Int32) * x3) + x2)).toNatClampNeg) then some ((0 : Int32)) else rq (inb (((2 : Int32) * (((5 : Int32) * x1) + x3)) + (1 : Int32)) 50) (rq (inb (((2 : Int32) * (((5 : Int32) * x1) + x2)) + (1 : Int32)) 50) ((if (z_hasBy (((2 : Int32) * (((5 : Int32) * x1) + x3)) + (1 : Int32)).toNatClampNeg) ≤ (z_hasBy (((2 : Int32) * (((5 : Int32) * x1) + x2)) + (1 : Int32)).toNatClampNeg) then m_isRest_l2 z_hasBy x1 x2 n (x3 + (1 : Int32)) else some ((0 : Int32)))))))))
set_option maxRecDepth 20000 in
theorem cm_isRest_l2 {q : Int32} {x1 : Int32} {x2 : Int32}  : ∀ (n : Nat) (x3 : Int32), m_isRest_l2 z_hasBy x1 x2 n x3 = some q → rW l D Z (ty7 K) Mm_isRest 2 [(0, .ref (ad 0)), (1, .int x1), (2, .int x2), (3, .int x3)] [] (wM K ad z_tape z_taped z_rules z_sign z_length z_clause z_clauses z_read z_next z_wrong z_number z_text z_made z_deep z_lines z_open z_opened z_stack z_top z_word z_said z_force z_x z_absent z_isRaining z_wasSaid z_undone z_kept z_order z_bestOrder z_hasBy z_wealthThen z_isFit z_tillThen z_drawX z_images z_imageForce z_imageX z_isMade) (wM K ad z_tape z_taped z_rules z_sign z_length z_clause z_clauses z_read z_next z_wrong z_number z_text z_made z_deep z_lines z_open z_opened z_stack z_top z_word z_said z_force z_x z_absent z_isRaining z_wasSaid z_undone z_kept z_order z_bestOrder z_hasBy z_wealthThen z_isFit z_tillThen z_drawX z_images z_imageForce z_imageX z_isMade) (some (.int q)) := by
  intro n
  induction n with
  | zero => intro x3 h; unfold m_isRest_l2 at h; cases h
  | succ n ih =>
    intro x3 h
    unfold m_isRest_l2 at h
    refine r_iload_n 3 dX12_isRest_2 rfl ?_
    refine r_iconst (x := (5 : Int32)) dX12_isRest_3 (by decide) ?_
    refine r_icmp_ge 73 dX12_isRest_4 (by decide) (fun c1 => ?_) (fun c1 => ?_)
    · replace h := it_pos c1 h
      refine r_iconst (x := (1 : Int32)) dX12_isRest_73 (by decide) ?_
      have hq := Option.some.inj h
      subst hq
      exact r_zret (ty := .boolean) rfl rfl dX12_isRest_74
    · replace h := it_neg c1 h
      refine r_aload_n 0 dX12_isRest_7 rfl ?_
      refine gM_hasBy rfl dX12_isRest_8 ?_
      refine r_iconst (x := (2 : Int32)) dX12_isRest_11 (by decide) ?_
      refine r_iconst (x := (5 : Int32)) dX12_isRest_12 (by decide) ?_
      refine r_iload_n 3 dX12_isRest_13 rfl ?_
      refine r_imul dX12_isRest_14 ?_
      refine r_iload_n 2 dX12_isRest_15 rfl ?_
      refine r_iadd dX12_isRest_16 ?_
      refine r_imul dX12_isRest_17 ?_
      obtain ⟨h2, h⟩ := rq_some h
      refine lM_hasBy (inb_in h2) dX12_isRest_18 ?_
      refine r_aload_n 0 dX12_isRest_19 rfl ?_
      refine gM_hasBy rfl dX12_isRest_20 ?_
      refine r_iconst (x := (2 : Int32)) dX12_isRest_23 (by decide) ?_
      refine r_iconst (x := (5 : Int32)) dX12_isRest_24 (by decide) ?_
      refine r_iload_n 1 dX12_isRest_25 rfl ?_
      refine r_imul dX12_isRest_26 ?_
      refine r_iload_n 2 dX12_isRest_27 rfl ?_
      refine r_iadd dX12_isRest_28 ?_
      refine r_imul dX12_isRest_29 ?_
      obtain ⟨h3, h⟩ := rq_some h
      refine lM_hasBy (inb_in h3) dX12_isRest_30 ?_
      refine r_icmp_gt 65 dX12_isRest_31 (by decide) (fun c4 => ?_) (fun c4 => ?_)
      · replace h := it_pos c4 h
        refine r_iconst (x := (0 : Int32)) dX12_isRest_65 (by decide) ?_
        have hq := Option.some.inj h
        subst hq
        exact r_zret (ty := .boolean) rfl rfl dX12_isRest_66
      · replace h := it_neg c4 h
        refine r_aload_n 0 dX12_isRest_34 rfl ?_
        refine gM_hasBy rfl dX12_isRest_35 ?_
        refine r_iconst (x := (2 : Int32)) dX12_isRest_38 (by decide) ?_
        refine r_iconst (x := (5 : Int32)) dX12_isRest_39 (by decide) ?_
        refine r_iload_n 1 dX12_isRest_40 rfl ?_
        refine r_imul dX12_isRest_41 ?_
        refine r_iload_n 3 dX12_isRest_42 rfl ?_
        refine r_iadd dX12_isRest_43 ?_
        refine r_imul dX12_isRest_44 ?_
        refine r_iconst (x := (1 : Int32)) dX12_isRest_45 (by decide) ?_
        refine r_iadd dX12_isRest_46 ?_
        obtain ⟨h5, h⟩ := rq_some h
        refine lM_hasBy (inb_in h5) dX12_isRest_47 ?_
        refine r_aload_n 0 dX12_isRest_48 rfl ?_
        refine gM_hasBy rfl dX12_isRest_49 ?_
        refine r_iconst (x := (2 : Int32)) dX12_isRest_52 (by decide) ?_
        refine r_iconst (x := (5 : Int32)) dX12_isRest_53 (by decide) ?_
        refine r_iload_n 1 dX12_isRest_54 rfl ?_
        refine r_imul dX12_isRest_55 ?_
        refine r_iload_n 2 dX12_isRest_56 rfl ?_
        refine r_iadd dX12_isRest_57 ?_
        refine r_imul dX12_isRest_58 ?_
        refine r_iconst (x := (1 : Int32)) dX12_isRest_59 (by decide) ?_
        refine r_iadd dX12_isRest_60 ?_
        obtain ⟨h6, h⟩ := rq_some h
        refine lM_hasBy (inb_in h6) dX12_isRest_61 ?_
        refine r_icmp_le 67 dX12_isRest_62 (by decide) (fun c7 => ?_) (fun c7 => ?_)
        · replace h := it_pos c7 h
          refine r_iinc (y := (x3 + (1 : Int32))) (lv' := [(3, .int (x3 + (1 : Int32))), (0, .ref (ad 0)), (1, .int x1), (2, .int x2)]) 3 dX12_isRest_67 rfl rfl (by decide) rfl ?_
          refine r_goto 2 dX12_isRest_70 (by decide) ?_
          refine r_sub (lv' := [(0, .ref (ad 0)), (1, .int x1), (2, .int x2), (3, .int (x3 + (1 : Int32)))]) [1, 2, 3, 0] rfl ?_
          exact ih _ h
        · replace h := it_neg c7 h
          refine r_iconst (x := (0 : Int32)) dX12_isRest_65 (by decide) ?_
          have hq := Option.some.inj h
          subst hq
          exact r_zret (ty := .boolean) rfl rfl dX12_isRest_66
def m_isRest (x1 : Int32) (x2 : Int32) (z_hasBy : Nat → Int32) : Option (Int32) := m_isRest_l2 z_hasBy x1 x2 FU (0 : Int32)
set_option maxRecDepth 20000 in
theorem cm_isRest {q : Int32} {x1 : Int32} {x2 : Int32} (h : m_isRest x1 x2 z_hasBy = some q) : rMet l D Z (ty7 K) Mm_isRest [.ref (ad 0), .int x1, .int x2] (wM K ad z_tape z_taped z_rules z_sign z_length z_clause z_clauses z_read z_next z_wrong z_number z_text z_made z_deep z_lines z_open z_opened z_stack z_top z_word z_said z_force z_x z_absent z_isRaining z_wasSaid z_undone z_kept z_order z_bestOrder z_hasBy z_wealthThen z_isFit z_tillThen z_drawX z_images z_imageForce z_imageX z_isMade) (wM K ad z_tape z_taped z_rules z_sign z_length z_clause z_clauses z_read z_next z_wrong z_number z_text z_made z_deep z_lines z_open z_opened z_stack z_top z_word z_said z_force z_x z_absent z_isRaining z_wasSaid z_undone z_kept z_order z_bestOrder z_hasBy z_wealthThen z_isFit z_tillThen z_drawX z_images z_imageForce z_imageX z_isMade) (some (.int q)) := by
  refine rMet.of (by decide) rfl (Nat.le_of_ble_eq_true rfl) ?_
  refine r_sub (lv' := [(0, .ref (ad 0)), (1, .int x1), (2, .int x2)]) [0, 1, 2] rfl ?_
  unfold m_isRest at h
  refine r_iconst (x := (0 : Int32)) dX12_isRest_0 (by decide) ?_
  refine r_istore_n (lv' := [(3, .int (0 : Int32)), (0, .ref (ad 0)), (1, .int x1), (2, .int x2)]) dX12_isRest_1 (by decide) rfl ?_
  refine r_sub (lv' := [(0, .ref (ad 0)), (1, .int x1), (2, .int x2), (3, .int (0 : Int32))]) [1, 2, 3, 0] rfl ?_
  exact cm_isRest_l2  FU _ h
theorem dX12_rests_0 : decode cX12_rests 0 = .ok (.aload_n 0, 1) := by decide +kernel
theorem dX12_rests_1 : decode cX12_rests 1 = .ok (.iload_n 1, 1) := by decide +kernel
theorem dX12_rests_2 : decode cX12_rests 2 = .ok (.iload_n 2, 1) := by decide +kernel
theorem dX12_rests_3 : decode cX12_rests 3 = .ok (.invokevirtual 364, 3) := by decide +kernel
theorem dX12_rests_6 : decode cX12_rests 6 = .ok (.ifCond .eq 28, 3) := by decide +kernel
theorem dX12_rests_9 : decode cX12_rests 9 = .ok (.iload_n 3, 1) := by decide +kernel
theorem dX12_rests_10 : decode cX12_rests 10 = .ok (.i2l, 1) := by decide +kernel
theorem dX12_rests_11 : decode cX12_rests 11 = .ok (.lconst 1, 1) := by decide +kernel
theorem dX12_rests_12 : decode cX12_rests 12 = .ok (.ldc2_w 418, 3) := by decide +kernel
theorem dX12_rests_15 : decode cX12_rests 15 = .ok (.invokestatic 124, 3) := by decide +kernel
theorem dX12_rests_18 : decode cX12_rests 18 = .ok (.ifCond .eq 16, 3) := by decide +kernel
theorem dX12_rests_21 : decode cX12_rests 21 = .ok (.iload 4, 2) := by decide +kernel
theorem dX12_rests_23 : decode cX12_rests 23 = .ok (.i2l, 1) := by decide +kernel
theorem dX12_rests_24 : decode cX12_rests 24 = .ok (.lconst 0, 1) := by decide +kernel
theorem dX12_rests_25 : decode cX12_rests 25 = .ok (.ldc2_w 320, 3) := by decide +kernel
theorem dX12_rests_28 : decode cX12_rests 28 = .ok (.invokestatic 124, 3) := by decide +kernel
theorem dX12_rests_31 : decode cX12_rests 31 = .ok (.ifCond .ne 5, 3) := by decide +kernel
theorem dX12_rests_34 : decode cX12_rests 34 = .ok (.iconst (-1), 1) := by decide +kernel
theorem dX12_rests_35 : decode cX12_rests 35 = .ok (.ireturn, 1) := by decide +kernel
theorem dX12_rests_36 : decode cX12_rests 36 = .ok (.aload_n 0, 1) := by decide +kernel
theorem dX12_rests_37 : decode cX12_rests 37 = .ok (.invokevirtual 376, 3) := by decide +kernel
theorem dX12_rests_40 : decode cX12_rests 40 = .ok (.iconst 0, 1) := by decide +kernel
theorem dX12_rests_41 : decode cX12_rests 41 = .ok (.istore 5, 2) := by decide +kernel
theorem dX12_rests_43 : decode cX12_rests 43 = .ok (.iload 5, 2) := by decide +kernel
theorem dX12_rests_45 : decode cX12_rests 45 = .ok (.bipush 25, 2) := by decide +kernel
theorem dX12_rests_47 : decode cX12_rests 47 = .ok (.if_icmp .ge 91, 3) := by decide +kernel
theorem dX12_rests_50 : decode cX12_rests 50 = .ok (.aload_n 0, 1) := by decide +kernel
theorem dX12_rests_51 : decode cX12_rests 51 = .ok (.getfield 39, 3) := by decide +kernel
theorem dX12_rests_54 : decode cX12_rests 54 = .ok (.bipush 11, 2) := by decide +kernel
theorem dX12_rests_56 : decode cX12_rests 56 = .ok (.iconst 4, 1) := by decide +kernel
theorem dX12_rests_57 : decode cX12_rests 57 = .ok (.iload_n 1, 1) := by decide +kernel
theorem dX12_rests_58 : decode cX12_rests 58 = .ok (.imul, 1) := by decide +kernel
theorem dX12_rests_59 : decode cX12_rests 59 = .ok (.iadd, 1) := by decide +kernel
theorem dX12_rests_60 : decode cX12_rests 60 = .ok (.iconst 1, 1) := by decide +kernel
theorem dX12_rests_61 : decode cX12_rests 61 = .ok (.iadd, 1) := by decide +kernel
theorem dX12_rests_62 : decode cX12_rests 62 = .ok (.iconst 2, 1) := by decide +kernel
theorem dX12_rests_63 : decode cX12_rests 63 = .ok (.iconst 2, 1) := by decide +kernel
theorem dX12_rests_64 : decode cX12_rests 64 = .ok (.iload 5, 2) := by decide +kernel
theorem dX12_rests_66 : decode cX12_rests 66 = .ok (.iconst 5, 1) := by decide +kernel
theorem dX12_rests_67 : decode cX12_rests 67 = .ok (.idiv, 1) := by decide +kernel
theorem dX12_rests_68 : decode cX12_rests 68 = .ok (.imul, 1) := by decide +kernel
theorem dX12_rests_69 : decode cX12_rests 69 = .ok (.iadd, 1) := by decide +kernel
theorem dX12_rests_70 : decode cX12_rests 70 = .ok (.iastore, 1) := by decide +kernel
theorem dX12_rests_71 : decode cX12_rests 71 = .ok (.aload_n 0, 1) := by decide +kernel
theorem dX12_rests_72 : decode cX12_rests 72 = .ok (.getfield 39, 3) := by decide +kernel
theorem dX12_rests_75 : decode cX12_rests 75 = .ok (.bipush 11, 2) := by decide +kernel
theorem dX12_rests_77 : decode cX12_rests 77 = .ok (.iconst 4, 1) := by decide +kernel
theorem dX12_rests_78 : decode cX12_rests 78 = .ok (.iload_n 2, 1) := by decide +kernel
theorem dX12_rests_79 : decode cX12_rests 79 = .ok (.imul, 1) := by decide +kernel
theorem dX12_rests_80 : decode cX12_rests 80 = .ok (.iadd, 1) := by decide +kernel
theorem dX12_rests_81 : decode cX12_rests 81 = .ok (.iconst 1, 1) := by decide +kernel
theorem dX12_rests_82 : decode cX12_rests 82 = .ok (.iadd, 1) := by decide +kernel
theorem dX12_rests_83 : decode cX12_rests 83 = .ok (.iconst 2, 1) := by decide +kernel
theorem dX12_rests_84 : decode cX12_rests 84 = .ok (.iconst 2, 1) := by decide +kernel
theorem dX12_rests_85 : decode cX12_rests 85 = .ok (.iload 5, 2) := by decide +kernel
theorem dX12_rests_87 : decode cX12_rests 87 = .ok (.iconst 5, 1) := by decide +kernel
theorem dX12_rests_88 : decode cX12_rests 88 = .ok (.irem, 1) := by decide +kernel
theorem dX12_rests_89 : decode cX12_rests 89 = .ok (.imul, 1) := by decide +kernel
theorem dX12_rests_90 : decode cX12_rests 90 = .ok (.iadd, 1) := by decide +kernel
theorem dX12_rests_91 : decode cX12_rests 91 = .ok (.iastore, 1) := by decide +kernel
theorem dX12_rests_92 : decode cX12_rests 92 = .ok (.aload_n 0, 1) := by decide +kernel
theorem dX12_rests_93 : decode cX12_rests 93 = .ok (.iload_n 3, 1) := by decide +kernel
theorem dX12_rests_94 : decode cX12_rests 94 = .ok (.invokevirtual 379, 3) := by decide +kernel
theorem dX12_rests_97 : decode cX12_rests 97 = .ok (.pop, 1) := by decide +kernel
theorem dX12_rests_98 : decode cX12_rests 98 = .ok (.aload_n 0, 1) := by decide +kernel
theorem dX12_rests_99 : decode cX12_rests 99 = .ok (.getfield 61, 3) := by decide +kernel
theorem dX12_rests_102 : decode cX12_rests 102 = .ok (.iconst 2, 1) := by decide +kernel
theorem dX12_rests_103 : decode cX12_rests 103 = .ok (.iload 5, 2) := by decide +kernel
theorem dX12_rests_105 : decode cX12_rests 105 = .ok (.imul, 1) := by decide +kernel
theorem dX12_rests_106 : decode cX12_rests 106 = .ok (.aload_n 0, 1) := by decide +kernel
theorem dX12_rests_107 : decode cX12_rests 107 = .ok (.iload_n 1, 1) := by decide +kernel
theorem dX12_rests_108 : decode cX12_rests 108 = .ok (.invokevirtual 382, 3) := by decide +kernel
theorem dX12_rests_111 : decode cX12_rests 111 = .ok (.iastore, 1) := by decide +kernel
theorem dX12_rests_112 : decode cX12_rests 112 = .ok (.aload_n 0, 1) := by decide +kernel
theorem dX12_rests_113 : decode cX12_rests 113 = .ok (.getfield 61, 3) := by decide +kernel
theorem dX12_rests_116 : decode cX12_rests 116 = .ok (.iconst 2, 1) := by decide +kernel
theorem dX12_rests_117 : decode cX12_rests 117 = .ok (.iload 5, 2) := by decide +kernel
theorem dX12_rests_119 : decode cX12_rests 119 = .ok (.imul, 1) := by decide +kernel
theorem dX12_rests_120 : decode cX12_rests 120 = .ok (.iconst 1, 1) := by decide +kernel
theorem dX12_rests_121 : decode cX12_rests 121 = .ok (.iadd, 1) := by decide +kernel
theorem dX12_rests_122 : decode cX12_rests 122 = .ok (.aload_n 0, 1) := by decide +kernel
theorem dX12_rests_123 : decode cX12_rests 123 = .ok (.iload_n 2, 1) := by decide +kernel
theorem dX12_rests_124 : decode cX12_rests 124 = .ok (.invokevirtual 382, 3) := by decide +kernel
theorem dX12_rests_127 : decode cX12_rests 127 = .ok (.iastore, 1) := by decide +kernel
theorem dX12_rests_128 : decode cX12_rests 128 = .ok (.aload_n 0, 1) := by decide +kernel
theorem dX12_rests_129 : decode cX12_rests 129 = .ok (.invokevirtual 385, 3) := by decide +kernel
theorem dX12_rests_132 : decode cX12_rests 132 = .ok (.iinc 5 1, 3) := by decide +kernel
theorem dX12_rests_135 : decode cX12_rests 135 = .ok (.goto (-92), 3) := by decide +kernel
theorem dX12_rests_138 : decode cX12_rests 138 = .ok (.iconst 0, 1) := by decide +kernel
theorem dX12_rests_139 : decode cX12_rests 139 = .ok (.istore 5, 2) := by decide +kernel
theorem dX12_rests_141 : decode cX12_rests 141 = .ok (.iconst (-1), 1) := by decide +kernel
theorem dX12_rests_142 : decode cX12_rests 142 = .ok (.istore 6, 2) := by decide +kernel
theorem dX12_rests_144 : decode cX12_rests 144 = .ok (.bipush 24, 2) := by decide +kernel
theorem dX12_rests_146 : decode cX12_rests 146 = .ok (.istore 7, 2) := by decide +kernel
theorem dX12_rests_148 : decode cX12_rests 148 = .ok (.iload 7, 2) := by decide +kernel
theorem dX12_rests_150 : decode cX12_rests 150 = .ok (.ifCond .lt 34, 3) := by decide +kernel
theorem dX12_rests_153 : decode cX12_rests 153 = .ok (.aload_n 0, 1) := by decide +kernel
theorem dX12_rests_154 : decode cX12_rests 154 = .ok (.iload 7, 2) := by decide +kernel
theorem dX12_rests_156 : decode cX12_rests 156 = .ok (.iconst 5, 1) := by decide +kernel
theorem dX12_rests_157 : decode cX12_rests 157 = .ok (.idiv, 1) := by decide +kernel
theorem dX12_rests_158 : decode cX12_rests 158 = .ok (.iload 7, 2) := by decide +kernel
theorem dX12_rests_160 : decode cX12_rests 160 = .ok (.iconst 5, 1) := by decide +kernel
theorem dX12_rests_161 : decode cX12_rests 161 = .ok (.irem, 1) := by decide +kernel
theorem dX12_rests_162 : decode cX12_rests 162 = .ok (.invokevirtual 420, 3) := by decide +kernel
theorem dX12_rests_165 : decode cX12_rests 165 = .ok (.ifCond .ne 6, 3) := by decide +kernel
theorem dX12_rests_168 : decode cX12_rests 168 = .ok (.goto 10, 3) := by decide +kernel
theorem dX12_rests_171 : decode cX12_rests 171 = .ok (.iload 7, 2) := by decide +kernel
theorem dX12_rests_173 : decode cX12_rests 173 = .ok (.istore 6, 2) := by decide +kernel
theorem dX12_rests_175 : decode cX12_rests 175 = .ok (.iinc 5 1, 3) := by decide +kernel
theorem dX12_rests_178 : decode cX12_rests 178 = .ok (.iinc 7 (-1), 3) := by decide +kernel
theorem dX12_rests_181 : decode cX12_rests 181 = .ok (.goto (-33), 3) := by decide +kernel
theorem dX12_rests_184 : decode cX12_rests 184 = .ok (.iload 4, 2) := by decide +kernel
theorem dX12_rests_186 : decode cX12_rests 186 = .ok (.ifCond .ne 6, 3) := by decide +kernel
theorem dX12_rests_189 : decode cX12_rests 189 = .ok (.iload 5, 2) := by decide +kernel
theorem dX12_rests_191 : decode cX12_rests 191 = .ok (.ireturn, 1) := by decide +kernel
theorem dX12_rests_192 : decode cX12_rests 192 = .ok (.iload 6, 2) := by decide +kernel
theorem dX12_rests_194 : decode cX12_rests 194 = .ok (.ifCond .ge 8, 3) := by decide +kernel
theorem dX12_rests_197 : decode cX12_rests 197 = .ok (.bipush (-2), 2) := by decide +kernel
theorem dX12_rests_199 : decode cX12_rests 199 = .ok (.goto 28, 3) := by decide +kernel
theorem dX12_rests_202 : decode cX12_rests 202 = .ok (.iload 4, 2) := by decide +kernel
theorem dX12_rests_204 : decode cX12_rests 204 = .ok (.iconst 1, 1) := by decide +kernel
theorem dX12_rests_205 : decode cX12_rests 205 = .ok (.if_icmp .ne 14, 3) := by decide +kernel
theorem dX12_rests_208 : decode cX12_rests 208 = .ok (.iconst 2, 1) := by decide +kernel
theorem dX12_rests_209 : decode cX12_rests 209 = .ok (.iconst 2, 1) := by decide +kernel
theorem dX12_rests_210 : decode cX12_rests 210 = .ok (.iload 6, 2) := by decide +kernel
theorem dX12_rests_212 : decode cX12_rests 212 = .ok (.iconst 5, 1) := by decide +kernel
theorem dX12_rests_213 : decode cX12_rests 213 = .ok (.idiv, 1) := by decide +kernel
theorem dX12_rests_214 : decode cX12_rests 214 = .ok (.imul, 1) := by decide +kernel
theorem dX12_rests_215 : decode cX12_rests 215 = .ok (.iadd, 1) := by decide +kernel
theorem dX12_rests_216 : decode cX12_rests 216 = .ok (.goto 11, 3) := by decide +kernel
theorem dX12_rests_219 : decode cX12_rests 219 = .ok (.iconst 2, 1) := by decide +kernel
theorem dX12_rests_220 : decode cX12_rests 220 = .ok (.iconst 2, 1) := by decide +kernel
theorem dX12_rests_221 : decode cX12_rests 221 = .ok (.iload 6, 2) := by decide +kernel
theorem dX12_rests_223 : decode cX12_rests 223 = .ok (.iconst 5, 1) := by decide +kernel
theorem dX12_rests_224 : decode cX12_rests 224 = .ok (.irem, 1) := by decide +kernel
theorem dX12_rests_225 : decode cX12_rests 225 = .ok (.imul, 1) := by decide +kernel
theorem dX12_rests_226 : decode cX12_rests 226 = .ok (.iadd, 1) := by decide +kernel
theorem dX12_rests_227 : decode cX12_rests 227 = .ok (.ireturn, 1) := by decide +kernel
abbrev Mm_rests : rx_M := (RX12, yX12_rests, cX12_rests, 8, (some .int), 9)
theorem km_rests : rKv Mm_rests 4 := ⟨tb_in (i := 34) (j := 12) rfl rfl, tb_in (i := 34) (j := 13) rfl rfl, tb_in (i := 17) (j := 21) rfl rfl, tb_in (i := 28) (j := 21) rfl rfl, ⟨by decide, by decide, by decide +kernel⟩, by decide⟩
def m_rests_l148 (z_sign : Nat → Int32) (z_clause : Nat → Int32) (z_clauses : Nat → Int32) (z_stack : Nat → Int64) (z_top : Int32) (z_word : Nat → Int64) (z_said : Nat → Int32) (z_force : Int32) (z_absent : Int32) (z_isRaining : Int32) (z_kept : Nat → Int32) (z_hasBy : Nat → Int32) (x4 : Int32) : Nat → Int32 → Int32 → Int32 → Option (Int32 × (Nat → Int64) × Int32 × (Nat → Int64) × (Nat → Int32) × Int32 × (Nat → Int32) × (Nat → Int32))
  | 0, _, _, _ => none
  | n + 1, x5, x6, x7 => (if x7 < 0 then (if x4 = 0 then some (x5, z_stack, z_top, z_word, z_said, z_isRaining, z_kept, z_hasBy) else (if 0 ≤ x6 then (if x4 = (1 : Int32) then some (((2 : Int32) + ((2 : Int32) * (x6 / (5 : Int32)))), z_stack, z_top, z_word, z_said, z_isRaining, z_kept, z_hasBy) else some (((2 : Int32) + ((2 : Int32) * (x6 - x6 / (5 : Int32) * (5 : Int32)))), z_stack, z_top, z_word, z_said, z_isRaining, z_kept, z_hasBy)) else some ((-2 : Int32), z_stack, z_top, z_word, z_said, z_isRaining, z_kept, z_hasBy))) else (m_isRest (x7 / (5 : Int32)) (x7 - x7 / (5 : Int32) * (5 : Int32)) z_hasBy).bind (fun q13 => (if q13 = 0 then m_rests_l148 z_sign z_clause z_clauses z_stack z_top z_word z_said z_force z_absent z_isRaining z_kept z_hasBy x4 n x5 x6 (x7 + (-1 : Int32)) else m_rests_l148 z_sign z_clause z_clauses z_stack z_top z_word z_said z_force z_absent z_isRaining z_kept z_hasBy x4 n (x5 + (1 : Int32)) x7 (x7 + (-1 : Int32)))))
set_option maxRecDepth 20000 in
theorem cm_rests_l148 {q : Int32 × (Nat → Int64) × Int32 × (Nat → Int64) × (Nat → Int32) × Int32 × (Nat → Int32) × (Nat → Int32)} {x4 : Int32}  : ∀ (n : Nat) (x5 : Int32) (x6 : Int32) (x7 : Int32), m_rests_l148 z_sign z_clause z_clauses z_stack z_top z_word z_said z_force z_absent z_isRaining z_kept z_hasBy x4 n x5 x6 x7 = some q → rW l D Z (ty7 K) Mm_rests 148 [(0, .ref (ad 0)), (4, .int x4), (5, .int x5), (6, .int x6), (7, .int x7)] [] (wM K ad z_tape z_taped z_rules z_sign z_length z_clause z_clauses z_read z_next z_wrong z_number z_text z_made z_deep z_lines z_open z_opened z_stack z_top z_word z_said z_force z_x z_absent z_isRaining z_wasSaid z_undone z_kept z_order z_bestOrder z_hasBy z_wealthThen z_isFit z_tillThen z_drawX z_images z_imageForce z_imageX z_isMade) (wM K ad z_tape z_taped z_rules z_sign z_length z_clause z_clauses z_read z_next z_wrong z_number z_text z_made z_deep z_lines z_open z_opened q.2.1 q.2.2.1 q.2.2.2.1 q.2.2.2.2.1 z_force z_x z_absent q.2.2.2.2.2.1 z_wasSaid z_undone q.2.2.2.2.2.2.1 z_order z_bestOrder q.2.2.2.2.2.2.2 z_wealthThen z_isFit z_tillThen z_drawX z_images z_imageForce z_imageX z_isMade) (some (.int q.1)) := by
  intro n
  induction n with
  | zero => intro x5 x6 x7 h; unfold m_rests_l148 at h; cases h
  | succ n ih =>
    intro x5 x6 x7 h
    unfold m_rests_l148 at h
    refine r_iload 4 dX12_rests_148 rfl ?_
    refine r_if_lt 184 dX12_rests_150 (by decide) (fun c9 => ?_) (fun c9 => ?_)
    · replace h := it_pos c9 h
      refine r_iload 1 dX12_rests_184 rfl ?_
      refine r_if_ne 192 dX12_rests_186 (by decide) (fun c10 => ?_) (fun c10 => ?_)
      · replace h := it_neg c10 h
        refine r_iload 3 dX12_rests_192 rfl ?_
        refine r_if_ge 202 dX12_rests_194 (by decide) (fun c11 => ?_) (fun c11 => ?_)
        · replace h := it_pos c11 h
          refine r_iload 1 dX12_rests_202 rfl ?_
          refine r_iconst (x := (1 : Int32)) dX12_rests_204 (by decide) ?_
          refine r_icmp_ne 219 dX12_rests_205 (by decide) (fun c12 => ?_) (fun c12 => ?_)
          · replace h := it_neg c12 h
            refine r_iconst (x := (2 : Int32)) dX12_rests_219 (by decide) ?_
            refine r_iconst (x := (2 : Int32)) dX12_rests_220 (by decide) ?_
            refine r_iload 3 dX12_rests_221 rfl ?_
            refine r_iconst (x := (5 : Int32)) dX12_rests_223 (by decide) ?_
            refine r_irem dX12_rests_224 (by decide) ?_
            refine r_imul dX12_rests_225 ?_
            refine r_iadd dX12_rests_226 ?_
            have hq := Option.some.inj h
            subst hq
            exact r_iret rfl dX12_rests_227
          · replace h := it_pos c12 h
            refine r_iconst (x := (2 : Int32)) dX12_rests_208 (by decide) ?_
            refine r_iconst (x := (2 : Int32)) dX12_rests_209 (by decide) ?_
            refine r_iload 3 dX12_rests_210 rfl ?_
            refine r_iconst (x := (5 : Int32)) dX12_rests_212 (by decide) ?_
            refine r_idiv dX12_rests_213 (by decide) ?_
            refine r_imul dX12_rests_214 ?_
            refine r_iadd dX12_rests_215 ?_
            refine r_goto 227 dX12_rests_216 (by decide) ?_
            have hq := Option.some.inj h
            subst hq
            exact r_iret rfl dX12_rests_227
        · replace h := it_neg c11 h
          refine r_bipush (x := (-2 : Int32)) dX12_rests_197 (by decide) ?_
          refine r_goto 227 dX12_rests_199 (by decide) ?_
          have hq := Option.some.inj h
          subst hq
          exact r_iret rfl dX12_rests_227
      · replace h := it_pos c10 h
        refine r_iload 2 dX12_rests_189 rfl ?_
        have hq := Option.some.inj h
        subst hq
        exact r_iret rfl dX12_rests_191
    · replace h := it_neg c9 h
      refine r_aload_n 0 dX12_rests_153 rfl ?_
      refine r_iload 4 dX12_rests_154 rfl ?_
      refine r_iconst (x := (5 : Int32)) dX12_rests_156 (by decide) ?_
      refine r_idiv dX12_rests_157 (by decide) ?_
      refine r_iload 4 dX12_rests_158 rfl ?_
      refine r_iconst (x := (5 : Int32)) dX12_rests_160 (by decide) ?_
      refine r_irem dX12_rests_161 (by decide) ?_
      obtain ⟨q13, h13, h⟩ := bd_some h
      refine cvM (st := []) (cm_isRest h13) rfl rfl (Nat.le_of_ble_eq_true rfl) km_isRest (tb_in (i := 28) (j := 18) rfl rfl) (by decide) rfl dX12_rests_162 ?_
      refine r_if_ne 171 dX12_rests_165 (by decide) (fun c14 => ?_) (fun c14 => ?_)
      · replace h := it_neg c14 h
        refine r_iload 4 dX12_rests_171 rfl ?_
        refine r_istore (lv' := [(6, .int x7), (0, .ref (ad 0)), (4, .int x4), (5, .int x5), (7, .int x7)]) dX12_rests_173 (by decide) rfl ?_
        refine r_iinc (y := (x5 + (1 : Int32))) (lv' := [(5, .int (x5 + (1 : Int32))), (6, .int x7), (0, .ref (ad 0)), (4, .int x4), (7, .int x7)]) 3 dX12_rests_175 rfl rfl (by decide) rfl ?_
        refine r_iinc (y := (x7 + (-1 : Int32))) (lv' := [(7, .int (x7 + (-1 : Int32))), (5, .int (x5 + (1 : Int32))), (6, .int x7), (0, .ref (ad 0)), (4, .int x4)]) 4 dX12_rests_178 rfl rfl (by decide) rfl ?_
        refine r_goto 148 dX12_rests_181 (by decide) ?_
        refine r_sub (lv' := [(0, .ref (ad 0)), (4, .int x4), (5, .int (x5 + (1 : Int32))), (6, .int x7), (7, .int (x7 + (-1 : Int32)))]) [3, 4, 1, 2, 0] rfl ?_
        exact ih _ _ _ h
      · replace h := it_pos c14 h
        refine r_goto 178 dX12_rests_168 (by decide) ?_
        refine r_iinc (y := (x7 + (-1 : Int32))) (lv' := [(7, .int (x7 + (-1 : Int32))), (0, .ref (ad 0)), (4, .int x4), (5, .int x5), (6, .int x6)]) 4 dX12_rests_178 rfl rfl (by decide) rfl ?_
        refine r_goto 148 dX12_rests_181 (by decide) ?_
        refine r_sub (lv' := [(0, .ref (ad 0)), (4, .int x4), (5, .int x5), (6, .int x6), (7, .int (x7 + (-1 : Int32)))]) [1, 2, 3, 4, 0] rfl ?_
        exact ih _ _ _ h
def m_rests_l43 (z_sign : Nat → Int32) (z_clause : Nat → Int32) (z_clauses : Nat → Int32) (z_force : Int32) (z_absent : Int32) (z_kept : Nat → Int32) (x1 : Int32) (x2 : Int32) (x3 : Int32) (x4 : Int32) : Nat → Int32 → (Nat → Int64) → Int32 → (Nat → Int64) → (Nat → Int32) → Int32 → (Nat → Int32) → Option (Int32 × (Nat → Int64) × Int32 × (Nat → Int64) × (Nat → Int32) × Int32 × (Nat → Int32) × (Nat → Int32))
  | 0, _, _, _, _, _, _, _ => none
  | n + 1, x5, z_stack, z_top, z_word, z_said, z_isRaining, z_hasBy => (if (25 : Int32) ≤ x5 then m_rests_l148 z_sign z_clause z_clauses z_stack z_top z_word z_said z_force z_absent z_isRaining z_kept z_hasBy x4 FU (0 : Int32) (-1 : Int32) (24 : Int32) else rq (inb (((11 : Int32) + ((4 : Int32) * x1)) + (1 : Int32)) 156) (lt (upd z_said (((11 : Int32) + ((4 : Int32) * x1)) + (1 : Int32)).toNatClampNeg ((2 : Int32) + ((2 : Int32) * (x5 / (5 : Int32))))) (fun u15 => rq (inb (((11 : Int32) + ((4 : Int32) * x2)) + (1 : Int32)) 156) (lt (upd u15 (((11 : Int32) + ((4 : Int32) * x2)) + (1 : Int32)).toNatClampNeg ((2 : Int32) + ((2 : Int32) * (x5 - x5 / (5 : Int32) * (5 : Int32))))) (fun u16 => (m_passesAll x3 z_sign z_clause z_clauses z_stack z_top z_word u16 z_force z_absent z_isRaining).bind (fun q17 => (m_wealthOf x1 q17.2.2.2.2.1).bind (fun q18 => rq (inb ((2 : Int32) * x5) 50) (lt (upd z_hasBy ((2 : Int32) * x5).toNatClampNeg q18) (fun u19 => (m_wealthOf x2 q17.2.2.2.2.1).bind (fun q20 => rq (inb (((2 : Int32) * x5) + (1 : Int32)) 50) (lt (upd u19 (((2 : Int32) * x5) + (1 : Int32)).toNatClampNeg q20) (fun u21 => (m_laysBack q17.2.2.2.2.1 z_kept).bind (fun q22 => m_rests_l43 z_sign z_clause z_clauses z_force z_absent z_kept x1 x2 x3 x4 n (x5 + (1 : Int32)) q17.2.1 q17.2.2.1 q17.2.2.2.1 q22 q17.2.2.2.2.2 u21)))))))))))))
set_option maxRecDepth 20000 in
theorem cm_rests_l43 {q : Int32 × (Nat → Int64) × Int32 × (Nat → Int64) × (Nat → Int32) × Int32 × (Nat → Int32) × (Nat → Int32)} {x1 : Int32} {x2 : Int32} {x3 : Int32} {x4 : Int32}  : ∀ (n : Nat) (x5 : Int32) (z_stack : Nat → Int64) (z_top : Int32) (z_word : Nat → Int64) (z_said : Nat → Int32) (z_isRaining : Int32) (z_hasBy : Nat → Int32), m_rests_l43 z_sign z_clause z_clauses z_force z_absent z_kept x1 x2 x3 x4 n x5 z_stack z_top z_word z_said z_isRaining z_hasBy = some q → rW l D Z (ty7 K) Mm_rests 43 [(0, .ref (ad 0)), (1, .int x1), (2, .int x2), (3, .int x3), (4, .int x4), (5, .int x5)] [] (wM K ad z_tape z_taped z_rules z_sign z_length z_clause z_clauses z_read z_next z_wrong z_number z_text z_made z_deep z_lines z_open z_opened z_stack z_top z_word z_said z_force z_x z_absent z_isRaining z_wasSaid z_undone z_kept z_order z_bestOrder z_hasBy z_wealthThen z_isFit z_tillThen z_drawX z_images z_imageForce z_imageX z_isMade) (wM K ad z_tape z_taped z_rules z_sign z_length z_clause z_clauses z_read z_next z_wrong z_number z_text z_made z_deep z_lines z_open z_opened q.2.1 q.2.2.1 q.2.2.2.1 q.2.2.2.2.1 z_force z_x z_absent q.2.2.2.2.2.1 z_wasSaid z_undone q.2.2.2.2.2.2.1 z_order z_bestOrder q.2.2.2.2.2.2.2 z_wealthThen z_isFit z_tillThen z_drawX z_images z_imageForce z_imageX z_isMade) (some (.int q.1)) := by
  intro n
  induction n with
  | zero => intro x5 z_stack z_top z_word z_said z_isRaining z_hasBy h; unfold m_rests_l43 at h; cases h
  | succ n ih =>
    intro x5 z_stack z_top z_word z_said z_isRaining z_hasBy h
    unfold m_rests_l43 at h
    refine r_iload 5 dX12_rests_43 rfl ?_
    refine r_bipush (x := (25 : Int32)) dX12_rests_45 (by decide) ?_
    refine r_icmp_ge 138 dX12_rests_47 (by decide) (fun c8 => ?_) (fun c8 => ?_)
    · replace h := it_pos c8 h
      refine r_iconst (x := (0 : Int32)) dX12_rests_138 (by decide) ?_
      refine r_istore (lv' := [(5, .int (0 : Int32)), (0, .ref (ad 0)), (1, .int x1), (2, .int x2), (3, .int x3), (4, .int x4)]) dX12_rests_139 (by decide) rfl ?_
      refine r_iconst (x := (-1 : Int32)) dX12_rests_141 (by decide) ?_
      refine r_istore (lv' := [(6, .int (-1 : Int32)), (5, .int (0 : Int32)), (0, .ref (ad 0)), (1, .int x1), (2, .int x2), (3, .int x3), (4, .int x4)]) dX12_rests_142 (by decide) rfl ?_
      refine r_bipush (x := (24 : Int32)) dX12_rests_144 (by decide) ?_
      refine r_istore (lv' := [(7, .int (24 : Int32)), (6, .int (-1 : Int32)), (5, .int (0 : Int32)), (0, .ref (ad 0)), (1, .int x1), (2, .int x2), (3, .int x3), (4, .int x4)]) dX12_rests_146 (by decide) rfl ?_
      refine r_sub (lv' := [(0, .ref (ad 0)), (4, .int x4), (5, .int (0 : Int32)), (6, .int (-1 : Int32)), (7, .int (24 : Int32))]) [3, 7, 2, 1, 0] rfl ?_
      exact cm_rests_l148  FU _ _ _ h
    · replace h := it_neg c8 h
      refine r_aload_n 0 dX12_rests_50 rfl ?_
      refine gM_said rfl dX12_rests_51 ?_
      refine r_bipush (x := (11 : Int32)) dX12_rests_54 (by decide) ?_
      refine r_iconst (x := (4 : Int32)) dX12_rests_56 (by decide) ?_
      refine r_iload_n 1 dX12_rests_57 rfl ?_
      refine r_imul dX12_rests_58 ?_
      refine r_iadd dX12_rests_59 ?_
      refine r_iconst (x := (1 : Int32)) dX12_rests_60 (by decide) ?_
      refine r_iadd dX12_rests_61 ?_
      refine r_iconst (x := (2 : Int32)) dX12_rests_62 (by decide) ?_
      refine r_iconst (x := (2 : Int32)) dX12_rests_63 (by decide) ?_
      refine r_iload 5 dX12_rests_64 rfl ?_
      refine r_iconst (x := (5 : Int32)) dX12_rests_66 (by decide) ?_
      refine r_idiv dX12_rests_67 (by decide) ?_
      refine r_imul dX12_rests_68 ?_
      refine r_iadd dX12_rests_69 ?_
      obtain ⟨h15, h⟩ := rq_some h
      obtain ⟨u15, e15, h⟩ := lt_some h
      refine sM_said e15 (inb_in h15) dX12_rests_70 ?_
      refine r_aload_n 0 dX12_rests_71 rfl ?_
      refine gM_said rfl dX12_rests_72 ?_
      refine r_bipush (x := (11 : Int32)) dX12_rests_75 (by decide) ?_
      refine r_iconst (x := (4 : Int32)) dX12_rests_77 (by decide) ?_
      refine r_iload_n 2 dX12_rests_78 rfl ?_
      refine r_imul dX12_rests_79 ?_
      refine r_iadd dX12_rests_80 ?_
      refine r_iconst (x := (1 : Int32)) dX12_rests_81 (by decide) ?_
      refine r_iadd dX12_rests_82 ?_
      refine r_iconst (x := (2 : Int32)) dX12_rests_83 (by decide) ?_
      refine r_iconst (x := (2 : Int32)) dX12_rests_84 (by decide) ?_
      refine r_iload 5 dX12_rests_85 rfl ?_
      refine r_iconst (x := (5 : Int32)) dX12_rests_87 (by decide) ?_
      refine r_irem dX12_rests_88 (by decide) ?_
      refine r_imul dX12_rests_89 ?_
      refine r_iadd dX12_rests_90 ?_
      obtain ⟨h16, h⟩ := rq_some h
      obtain ⟨u16, e16, h⟩ := lt_some h
      refine sM_said e16 (inb_in h16) dX12_rests_91 ?_
      refine r_aload_n 0 dX12_rests_92 rfl ?_
      refine r_iload_n 3 dX12_rests_93 rfl ?_
      obtain ⟨q17, h17, h⟩ := bd_some h
      refine cvM (st := []) (cm_passesAll h17) rfl rfl (Nat.le_of_ble_eq_true rfl) km_passesAll (tb_in (i := 26) (j := 29) rfl rfl) (by decide) rfl dX12_rests_94 ?_
      refine r_pop dX12_rests_97 rfl ?_
      refine r_aload_n 0 dX12_rests_98 rfl ?_
      refine gM_hasBy rfl dX12_rests_99 ?_
      refine r_iconst (x := (2 : Int32)) dX12_rests_102 (by decide) ?_
      refine r_iload 5 dX12_rests_103 rfl ?_
      refine r_imul dX12_rests_105 ?_
      refine r_aload_n 0 dX12_rests_106 rfl ?_
      refine r_iload_n 1 dX12_rests_107 rfl ?_
      obtain ⟨q18, h18, h⟩ := bd_some h
      refine cvM (st := [.int ((2 : Int32) * x5), .ref (ad 15)]) (cm_wealthOf h18) rfl rfl (Nat.le_of_ble_eq_true rfl) km_wealthOf (tb_in (i := 27) (j := 0) rfl rfl) (by decide) rfl dX12_rests_108 ?_
      obtain ⟨h19, h⟩ := rq_some h
      obtain ⟨u19, e19, h⟩ := lt_some h
      refine sM_hasBy e19 (inb_in h19) dX12_rests_111 ?_
      refine r_aload_n 0 dX12_rests_112 rfl ?_
      refine gM_hasBy rfl dX12_rests_113 ?_
      refine r_iconst (x := (2 : Int32)) dX12_rests_116 (by decide) ?_
      refine r_iload 5 dX12_rests_117 rfl ?_
      refine r_imul dX12_rests_119 ?_
      refine r_iconst (x := (1 : Int32)) dX12_rests_120 (by decide) ?_
      refine r_iadd dX12_rests_121 ?_
      refine r_aload_n 0 dX12_rests_122 rfl ?_
      refine r_iload_n 2 dX12_rests_123 rfl ?_
      obtain ⟨q20, h20, h⟩ := bd_some h
      refine cvM (st := [.int (((2 : Int32) * x5) + (1 : Int32)), .ref (ad 15)]) (cm_wealthOf h20) rfl rfl (Nat.le_of_ble_eq_true rfl) km_wealthOf (tb_in (i := 27) (j := 0) rfl rfl) (by decide) rfl dX12_rests_124 ?_
      obtain ⟨h21, h⟩ := rq_some h
      obtain ⟨u21, e21, h⟩ := lt_some h
      refine sM_hasBy e21 (inb_in h21) dX12_rests_127 ?_
      refine r_aload_n 0 dX12_rests_128 rfl ?_
      obtain ⟨q22, h22, h⟩ := bd_some h
      refine cvM (st := []) (cm_laysBack h22) rfl rfl (Nat.le_of_ble_eq_true rfl) km_laysBack (tb_in (i := 27) (j := 3) rfl rfl) (by decide) rfl dX12_rests_129 ?_
      refine r_iinc (y := (x5 + (1 : Int32))) (lv' := [(5, .int (x5 + (1 : Int32))), (0, .ref (ad 0)), (1, .int x1), (2, .int x2), (3, .int x3), (4, .int x4)]) 5 dX12_rests_132 rfl rfl (by decide) rfl ?_
      refine r_goto 43 dX12_rests_135 (by decide) ?_
      refine r_sub (lv' := [(0, .ref (ad 0)), (1, .int x1), (2, .int x2), (3, .int x3), (4, .int x4), (5, .int (x5 + (1 : Int32)))]) [1, 2, 3, 4, 5, 0] rfl ?_
      exact ih _ _ _ _ _ _ _ h
def m_rests (x1 : Int32) (x2 : Int32) (x3 : Int32) (x4 : Int32) (z_sign : Nat → Int32) (z_clause : Nat → Int32) (z_clauses : Nat → Int32) (z_stack : Nat → Int64) (z_top : Int32) (z_word : Nat → Int64) (z_said : Nat → Int32) (z_force : Int32) (z_absent : Int32) (z_isRaining : Int32) (z_kept : Nat → Int32) (z_hasBy : Nat → Int32) : Option (Int32 × (Nat → Int64) × Int32 × (Nat → Int64) × (Nat → Int32) × Int32 × (Nat → Int32) × (Nat → Int32)) := (m_areTwo x1 x2 z_said).bind (fun q1 => (if q1 = 0 then some ((-1 : Int32), z_stack, z_top, z_word, z_said, z_isRaining, z_kept, z_hasBy) else (m_in (x3.toInt64) (1 : Int64) (20 : Int64)).bind (fun q3 => (if q3 = 0 then some ((-1 : Int32), z_stack, z_top, z_word, z_said, z_isRaining, z_kept, z_hasBy) else (m_in (x4.toInt64) (0 : Int64) (2 : Int64)).bind (fun q5 => (if q5 = 0 then some ((-1 : Int32), z_stack, z_top, z_word, z_said, z_isRaining, z_kept, z_hasBy) else (m_keeps z_said z_kept).bind (fun q7 => m_rests_l43 z_sign z_clause z_clauses z_force z_absent q7 x1 x2 x3 x4 FU (0 : Int32) z_stack z_top z_word z_said z_isRaining z_hasBy)))))))
set_option maxRecDepth 20000 in
theorem cm_rests {q : Int32 × (Nat → Int64) × Int32 × (Nat → Int64) × (Nat → Int32) × Int32 × (Nat → Int32) × (Nat → Int32)} {x1 : Int32} {x2 : Int32} {x3 : Int32} {x4 : Int32} (h : m_rests x1 x2 x3 x4 z_sign z_clause z_clauses z_stack z_top z_word z_said z_force z_absent z_isRaining z_kept z_hasBy = some q) : rMet l D Z (ty7 K) Mm_rests [.ref (ad 0), .int x1, .int x2, .int x3, .int x4] (wM K ad z_tape z_taped z_rules z_sign z_length z_clause z_clauses z_read z_next z_wrong z_number z_text z_made z_deep z_lines z_open z_opened z_stack z_top z_word z_said z_force z_x z_absent z_isRaining z_wasSaid z_undone z_kept z_order z_bestOrder z_hasBy z_wealthThen z_isFit z_tillThen z_drawX z_images z_imageForce z_imageX z_isMade) (wM K ad z_tape z_taped z_rules z_sign z_length z_clause z_clauses z_read z_next z_wrong z_number z_text z_made z_deep z_lines z_open z_opened q.2.1 q.2.2.1 q.2.2.2.1 q.2.2.2.2.1 z_force z_x z_absent q.2.2.2.2.2.1 z_wasSaid z_undone q.2.2.2.2.2.2.1 z_order z_bestOrder q.2.2.2.2.2.2.2 z_wealthThen z_isFit z_tillThen z_drawX z_images z_imageForce z_imageX z_isMade) (some (.int q.1)) := by
  refine rMet.of (by decide) rfl (Nat.le_of_ble_eq_true rfl) ?_
  refine r_sub (lv' := [(0, .ref (ad 0)), (1, .int x1), (2, .int x2), (3, .int x3), (4, .int x4)]) [0, 1, 2, 3, 4] rfl ?_
  unfold m_rests at h
  refine r_aload_n 0 dX12_rests_0 rfl ?_
  refine r_iload_n 1 dX12_rests_1 rfl ?_
  refine r_iload_n 2 dX12_rests_2 rfl ?_
  obtain ⟨q1, h1, h⟩ := bd_some h
  refine cvM (st := []) (cm_areTwo h1) rfl rfl (Nat.le_of_ble_eq_true rfl) km_areTwo (tb_in (i := 26) (j := 12) rfl rfl) (by decide) rfl dX12_rests_3 ?_
  refine r_if_eq 34 dX12_rests_6 (by decide) (fun c2 => ?_) (fun c2 => ?_)
  · replace h := it_pos c2 h
    refine r_iconst (x := (-1 : Int32)) dX12_rests_34 (by decide) ?_
    have hq := Option.some.inj h
    subst hq
    exact r_iret rfl dX12_rests_35
  · replace h := it_neg c2 h
    refine r_iload_n 3 dX12_rests_9 rfl ?_
    refine r_i2l dX12_rests_10 ?_
    refine r_lconst (x := (1 : Int64)) dX12_rests_11 (by decide) ?_
    refine r_ldc2 (x := (20 : Int64)) (tb_in (i := 28) (j := 17) rfl rfl) dX12_rests_12 ?_
    obtain ⟨q3, h3, h⟩ := bd_some h
    refine r_callS (st := []) (cm_in h3) rfl rfl (Nat.le_of_ble_eq_true rfl) km_in (tb_in (i := 18) (j := 20) rfl rfl) (by decide) dX12_rests_15 ?_
    refine r_if_eq 34 dX12_rests_18 (by decide) (fun c4 => ?_) (fun c4 => ?_)
    · replace h := it_pos c4 h
      refine r_iconst (x := (-1 : Int32)) dX12_rests_34 (by decide) ?_
      have hq := Option.some.inj h
      subst hq
      exact r_iret rfl dX12_rests_35
    · replace h := it_neg c4 h
      refine r_iload 4 dX12_rests_21 rfl ?_
      refine r_i2l dX12_rests_23 ?_
      refine r_lconst (x := (0 : Int64)) dX12_rests_24 (by decide) ?_
      refine r_ldc2 (x := (2 : Int64)) (tb_in (i := 24) (j := 23) rfl rfl) dX12_rests_25 ?_
      obtain ⟨q5, h5, h⟩ := bd_some h
      refine r_callS (st := []) (cm_in h5) rfl rfl (Nat.le_of_ble_eq_true rfl) km_in (tb_in (i := 18) (j := 20) rfl rfl) (by decide) dX12_rests_28 ?_
      refine r_if_ne 36 dX12_rests_31 (by decide) (fun c6 => ?_) (fun c6 => ?_)
      · replace h := it_neg c6 h
        refine r_aload_n 0 dX12_rests_36 rfl ?_
        obtain ⟨q7, h7, h⟩ := bd_some h
        refine cvM (st := []) (cm_keeps h7) rfl rfl (Nat.le_of_ble_eq_true rfl) km_keeps (tb_in (i := 26) (j := 26) rfl rfl) (by decide) rfl dX12_rests_37 ?_
        refine r_iconst (x := (0 : Int32)) dX12_rests_40 (by decide) ?_
        refine r_istore (lv' := [(5, .int (0 : Int32)), (0, .ref (ad 0)), (1, .int x1), (2, .int x2), (3, .int x3), (4, .int x4)]) dX12_rests_41 (by decide) rfl ?_
        refine r_sub (lv' := [(0, .ref (ad 0)), (1, .int x1), (2, .int x2), (3, .int x3), (4, .int x4), (5, .int (0 : Int32))]) [1, 2, 3, 4, 5, 0] rfl ?_
        exact cm_rests_l43  FU _ _ _ _ _ _ _ h
      · replace h := it_pos c6 h
        refine r_iconst (x := (-1 : Int32)) dX12_rests_34 (by decide) ?_
        have hq := Option.some.inj h
        subst hq
        exact r_iret rfl dX12_rests_35
theorem dX12_makeUp_0 : decode cX12_makeUp 0 = .ok (.aload_n 0, 1) := by decide +kernel
theorem dX12_makeUp_1 : decode cX12_makeUp 1 = .ok (.invokevirtual 358, 3) := by decide +kernel
theorem dX12_makeUp_4 : decode cX12_makeUp 4 = .ok (.ifCond .eq 27, 3) := by decide +kernel
theorem dX12_makeUp_7 : decode cX12_makeUp 7 = .ok (.iload_n 1, 1) := by decide +kernel
theorem dX12_makeUp_8 : decode cX12_makeUp 8 = .ok (.i2l, 1) := by decide +kernel
theorem dX12_makeUp_9 : decode cX12_makeUp 9 = .ok (.lconst 1, 1) := by decide +kernel
theorem dX12_makeUp_10 : decode cX12_makeUp 10 = .ok (.ldc2_w 370, 3) := by decide +kernel
theorem dX12_makeUp_13 : decode cX12_makeUp 13 = .ok (.invokestatic 124, 3) := by decide +kernel
theorem dX12_makeUp_16 : decode cX12_makeUp 16 = .ok (.ifCond .eq 15, 3) := by decide +kernel
theorem dX12_makeUp_19 : decode cX12_makeUp 19 = .ok (.iload_n 2, 1) := by decide +kernel
theorem dX12_makeUp_20 : decode cX12_makeUp 20 = .ok (.i2l, 1) := by decide +kernel
theorem dX12_makeUp_21 : decode cX12_makeUp 21 = .ok (.lconst 0, 1) := by decide +kernel
theorem dX12_makeUp_22 : decode cX12_makeUp 22 = .ok (.ldc2_w 320, 3) := by decide +kernel
theorem dX12_makeUp_25 : decode cX12_makeUp 25 = .ok (.invokestatic 124, 3) := by decide +kernel
theorem dX12_makeUp_28 : decode cX12_makeUp 28 = .ok (.ifCond .ne 5, 3) := by decide +kernel
theorem dX12_makeUp_31 : decode cX12_makeUp 31 = .ok (.iconst (-1), 1) := by decide +kernel
theorem dX12_makeUp_32 : decode cX12_makeUp 32 = .ok (.ireturn, 1) := by decide +kernel
theorem dX12_makeUp_33 : decode cX12_makeUp 33 = .ok (.aload_n 0, 1) := by decide +kernel
theorem dX12_makeUp_34 : decode cX12_makeUp 34 = .ok (.invokevirtual 376, 3) := by decide +kernel
theorem dX12_makeUp_37 : decode cX12_makeUp 37 = .ok (.bipush (-2), 2) := by decide +kernel
theorem dX12_makeUp_39 : decode cX12_makeUp 39 = .ok (.istore_n 3, 1) := by decide +kernel
theorem dX12_makeUp_40 : decode cX12_makeUp 40 = .ok (.bipush (-2), 2) := by decide +kernel
theorem dX12_makeUp_42 : decode cX12_makeUp 42 = .ok (.istore 4, 2) := by decide +kernel
theorem dX12_makeUp_44 : decode cX12_makeUp 44 = .ok (.aload_n 0, 1) := by decide +kernel
theorem dX12_makeUp_45 : decode cX12_makeUp 45 = .ok (.iload_n 1, 1) := by decide +kernel
theorem dX12_makeUp_46 : decode cX12_makeUp 46 = .ok (.invokevirtual 388, 3) := by decide +kernel
theorem dX12_makeUp_49 : decode cX12_makeUp 49 = .ok (.istore 5, 2) := by decide +kernel
theorem dX12_makeUp_51 : decode cX12_makeUp 51 = .ok (.iconst 0, 1) := by decide +kernel
theorem dX12_makeUp_52 : decode cX12_makeUp 52 = .ok (.istore 6, 2) := by decide +kernel
theorem dX12_makeUp_54 : decode cX12_makeUp 54 = .ok (.iload 6, 2) := by decide +kernel
theorem dX12_makeUp_56 : decode cX12_makeUp 56 = .ok (.aload_n 0, 1) := by decide +kernel
theorem dX12_makeUp_57 : decode cX12_makeUp 57 = .ok (.getfield 39, 3) := by decide +kernel
theorem dX12_makeUp_60 : decode cX12_makeUp 60 = .ok (.iconst 3, 1) := by decide +kernel
theorem dX12_makeUp_61 : decode cX12_makeUp 61 = .ok (.iaload, 1) := by decide +kernel
theorem dX12_makeUp_62 : decode cX12_makeUp 62 = .ok (.if_icmp .ge 90, 3) := by decide +kernel
theorem dX12_makeUp_65 : decode cX12_makeUp 65 = .ok (.iconst 0, 1) := by decide +kernel
theorem dX12_makeUp_66 : decode cX12_makeUp 66 = .ok (.istore 7, 2) := by decide +kernel
theorem dX12_makeUp_68 : decode cX12_makeUp 68 = .ok (.iload 7, 2) := by decide +kernel
theorem dX12_makeUp_70 : decode cX12_makeUp 70 = .ok (.aload_n 0, 1) := by decide +kernel
theorem dX12_makeUp_71 : decode cX12_makeUp 71 = .ok (.getfield 39, 3) := by decide +kernel
theorem dX12_makeUp_74 : decode cX12_makeUp 74 = .ok (.iconst 3, 1) := by decide +kernel
theorem dX12_makeUp_75 : decode cX12_makeUp 75 = .ok (.iaload, 1) := by decide +kernel
theorem dX12_makeUp_76 : decode cX12_makeUp 76 = .ok (.if_icmp .ge 70, 3) := by decide +kernel
theorem dX12_makeUp_79 : decode cX12_makeUp 79 = .ok (.aload_n 0, 1) := by decide +kernel
theorem dX12_makeUp_80 : decode cX12_makeUp 80 = .ok (.iload 6, 2) := by decide +kernel
theorem dX12_makeUp_82 : decode cX12_makeUp 82 = .ok (.iload 7, 2) := by decide +kernel
theorem dX12_makeUp_84 : decode cX12_makeUp 84 = .ok (.invokevirtual 299, 3) := by decide +kernel
theorem dX12_makeUp_87 : decode cX12_makeUp 87 = .ok (.ifCond .ne 6, 3) := by decide +kernel
theorem dX12_makeUp_90 : decode cX12_makeUp 90 = .ok (.goto 50, 3) := by decide +kernel
theorem dX12_makeUp_93 : decode cX12_makeUp 93 = .ok (.aload_n 0, 1) := by decide +kernel
theorem dX12_makeUp_94 : decode cX12_makeUp 94 = .ok (.getfield 39, 3) := by decide +kernel
theorem dX12_makeUp_97 : decode cX12_makeUp 97 = .ok (.bipush 41, 2) := by decide +kernel
theorem dX12_makeUp_99 : decode cX12_makeUp 99 = .ok (.iload 6, 2) := by decide +kernel
theorem dX12_makeUp_101 : decode cX12_makeUp 101 = .ok (.iadd, 1) := by decide +kernel
theorem dX12_makeUp_102 : decode cX12_makeUp 102 = .ok (.dup2, 1) := by decide +kernel
theorem dX12_makeUp_103 : decode cX12_makeUp 103 = .ok (.iaload, 1) := by decide +kernel
theorem dX12_makeUp_104 : decode cX12_makeUp 104 = .ok (.iconst 1, 1) := by decide +kernel
theorem dX12_makeUp_105 : decode cX12_makeUp 105 = .ok (.iload 7, 2) := by decide +kernel
theorem dX12_makeUp_107 : decode cX12_makeUp 107 = .ok (.ishl, 1) := by decide +kernel
theorem dX12_makeUp_108 : decode cX12_makeUp 108 = .ok (.iconst (-1), 1) := by decide +kernel
theorem dX12_makeUp_109 : decode cX12_makeUp 109 = .ok (.ixor, 1) := by decide +kernel
theorem dX12_makeUp_110 : decode cX12_makeUp 110 = .ok (.iand, 1) := by decide +kernel
theorem dX12_makeUp_111 : decode cX12_makeUp 111 = .ok (.iastore, 1) := by decide +kernel
theorem dX12_makeUp_112 : decode cX12_makeUp 112 = .ok (.aload_n 0, 1) := by decide +kernel
theorem dX12_makeUp_113 : decode cX12_makeUp 113 = .ok (.iload_n 1, 1) := by decide +kernel
theorem dX12_makeUp_114 : decode cX12_makeUp 114 = .ok (.invokevirtual 388, 3) := by decide +kernel
theorem dX12_makeUp_117 : decode cX12_makeUp 117 = .ok (.istore 8, 2) := by decide +kernel
theorem dX12_makeUp_119 : decode cX12_makeUp 119 = .ok (.iload 8, 2) := by decide +kernel
theorem dX12_makeUp_121 : decode cX12_makeUp 121 = .ok (.iload 5, 2) := by decide +kernel
theorem dX12_makeUp_123 : decode cX12_makeUp 123 = .ok (.if_icmp .gt 6, 3) := by decide +kernel
theorem dX12_makeUp_126 : decode cX12_makeUp 126 = .ok (.goto 14, 3) := by decide +kernel
theorem dX12_makeUp_129 : decode cX12_makeUp 129 = .ok (.iload 6, 2) := by decide +kernel
theorem dX12_makeUp_131 : decode cX12_makeUp 131 = .ok (.istore_n 3, 1) := by decide +kernel
theorem dX12_makeUp_132 : decode cX12_makeUp 132 = .ok (.iload 7, 2) := by decide +kernel
theorem dX12_makeUp_134 : decode cX12_makeUp 134 = .ok (.istore 4, 2) := by decide +kernel
theorem dX12_makeUp_136 : decode cX12_makeUp 136 = .ok (.iload 8, 2) := by decide +kernel
theorem dX12_makeUp_138 : decode cX12_makeUp 138 = .ok (.istore 5, 2) := by decide +kernel
theorem dX12_makeUp_140 : decode cX12_makeUp 140 = .ok (.iinc 7 1, 3) := by decide +kernel
theorem dX12_makeUp_143 : decode cX12_makeUp 143 = .ok (.goto (-75), 3) := by decide +kernel
theorem dX12_makeUp_146 : decode cX12_makeUp 146 = .ok (.iinc 6 1, 3) := by decide +kernel
theorem dX12_makeUp_149 : decode cX12_makeUp 149 = .ok (.goto (-95), 3) := by decide +kernel
theorem dX12_makeUp_152 : decode cX12_makeUp 152 = .ok (.iload_n 2, 1) := by decide +kernel
theorem dX12_makeUp_153 : decode cX12_makeUp 153 = .ok (.ifCond .ne 8, 3) := by decide +kernel
theorem dX12_makeUp_156 : decode cX12_makeUp 156 = .ok (.iload 5, 2) := by decide +kernel
theorem dX12_makeUp_158 : decode cX12_makeUp 158 = .ok (.goto 14, 3) := by decide +kernel
theorem dX12_makeUp_161 : decode cX12_makeUp 161 = .ok (.iload_n 2, 1) := by decide +kernel
theorem dX12_makeUp_162 : decode cX12_makeUp 162 = .ok (.iconst 1, 1) := by decide +kernel
theorem dX12_makeUp_163 : decode cX12_makeUp 163 = .ok (.if_icmp .ne 7, 3) := by decide +kernel
theorem dX12_makeUp_166 : decode cX12_makeUp 166 = .ok (.iload_n 3, 1) := by decide +kernel
theorem dX12_makeUp_167 : decode cX12_makeUp 167 = .ok (.goto 5, 3) := by decide +kernel
theorem dX12_makeUp_170 : decode cX12_makeUp 170 = .ok (.iload 4, 2) := by decide +kernel
theorem dX12_makeUp_172 : decode cX12_makeUp 172 = .ok (.ireturn, 1) := by decide +kernel
abbrev Mm_makeUp : rx_M := (RX12, yX12_makeUp, cX12_makeUp, 9, (some .int), 10)
theorem km_makeUp : rKv Mm_makeUp 2 := ⟨tb_in (i := 34) (j := 24) rfl rfl, tb_in (i := 34) (j := 25) rfl rfl, tb_in (i := 17) (j := 21) rfl rfl, tb_in (i := 28) (j := 22) rfl rfl, ⟨by decide, by decide, by decide +kernel⟩, by decide⟩
def m_makeUp_l68 (z_sign : Nat → Int32) (z_clause : Nat → Int32) (z_clauses : Nat → Int32) (z_force : Int32) (z_absent : Int32) (z_kept : Nat → Int32) (x1 : Int32) (x2 : Int32) (x6 : Int32) (k54 : Int32 → Int32 → Int32 → Int32 → (Nat → Int64) → Int32 → (Nat → Int64) → (Nat → Int32) → Int32 → Option (Int32 × (Nat → Int64) × Int32 × (Nat → Int64) × (Nat → Int32) × Int32 × (Nat → Int32))) : Nat → Int32 → Int32 → Int32 → Int32 → (Nat → Int64) → Int32 → (Nat → Int64) → (Nat → Int32) → Int32 → Option (Int32 × (Nat → Int64) × Int32 × (Nat → Int64) × (Nat → Int32) × Int32 × (Nat → Int32))
  | 0, _, _, _, _, _, _, _, _, _ => none
  | n + 1, x3, x4, x5, x7, z_stack, z_top, z_word, z_said, z_isRaining => rq (inb (3 : Int32) 156) ((if (z_said (3 : Int32).toNatClampNeg) ≤ x7 then k54 x3 x4 x5 (x6 + (1 : Int32)) z_stack z_top z_word z_said z_isRaining else (m_bears x6 x7 z_said).bind (fun q15 => (if q15 = 0 then m_makeUp_l68 z_sign z_clause z_clauses z_force z_absent z_kept x1 x2 x6 k54 n x3 x4 x5 (x7 + (1 : Int32)) z_stack z_top z_word z_said z_isRaining else lt ((41 : Int32) + x6) (fun y17 => rq (inb y17 156) (rq (inb y17 156) (lt (upd z_said y17.toNatClampNeg ((z_said y17.toNatClampNeg) &&& (((1 : Int32) <<< (x7 &&& 31)) ^^^ (-1 : Int32)))) (fun u19 => (m_takenIn x1 z_sign z_clause z_clauses z_stack z_top z_word u19 z_force z_absent z_isRaining z_kept).bind (fun q20 => (if x5 < q20.1 then m_makeUp_l68 z_sign z_clause z_clauses z_force z_absent z_kept x1 x2 x6 k54 n x6 x7 q20.1 (x7 + (1 : Int32)) q20.2.1 q20.2.2.1 q20.2.2.2.1 q20.2.2.2.2.1 q20.2.2.2.2.2 else m_makeUp_l68 z_sign z_clause z_clauses z_force z_absent z_kept x1 x2 x6 k54 n x3 x4 x5 (x7 + (1 : Int32)) q20.2.1 q20.2.2.1 q20.2.2.2.1 q20.2.2.2.2.1 q20.2.2.2.2.2))))))))))
set_option maxRecDepth 20000 in
theorem cm_makeUp_l68 {q : Int32 × (Nat → Int64) × Int32 × (Nat → Int64) × (Nat → Int32) × Int32 × (Nat → Int32)} {x1 : Int32} {x2 : Int32} {x6 : Int32} {k54 : Int32 → Int32 → Int32 → Int32 → (Nat → Int64) → Int32 → (Nat → Int64) → (Nat → Int32) → Int32 → Option (Int32 × (Nat → Int64) × Int32 × (Nat → Int64) × (Nat → Int32) × Int32 × (Nat → Int32))} (hk54 : ∀ (x3 : Int32) (x4 : Int32) (x5 : Int32) (x6 : Int32) (z_stack : Nat → Int64) (z_top : Int32) (z_word : Nat → Int64) (z_said : Nat → Int32) (z_isRaining : Int32), k54 x3 x4 x5 x6 z_stack z_top z_word z_said z_isRaining = some q → rW l D Z (ty7 K) Mm_makeUp 54 [(0, .ref (ad 0)), (1, .int x1), (2, .int x2), (3, .int x3), (4, .int x4), (5, .int x5), (6, .int x6)] [] (wM K ad z_tape z_taped z_rules z_sign z_length z_clause z_clauses z_read z_next z_wrong z_number z_text z_made z_deep z_lines z_open z_opened z_stack z_top z_word z_said z_force z_x z_absent z_isRaining z_wasSaid z_undone z_kept z_order z_bestOrder z_hasBy z_wealthThen z_isFit z_tillThen z_drawX z_images z_imageForce z_imageX z_isMade) (wM K ad z_tape z_taped z_rules z_sign z_length z_clause z_clauses z_read z_next z_wrong z_number z_text z_made z_deep z_lines z_open z_opened q.2.1 q.2.2.1 q.2.2.2.1 q.2.2.2.2.1 z_force z_x z_absent q.2.2.2.2.2.1 z_wasSaid z_undone q.2.2.2.2.2.2 z_order z_bestOrder z_hasBy z_wealthThen z_isFit z_tillThen z_drawX z_images z_imageForce z_imageX z_isMade) (some (.int q.1))) : ∀ (n : Nat) (x3 : Int32) (x4 : Int32) (x5 : Int32) (x7 : Int32) (z_stack : Nat → Int64) (z_top : Int32) (z_word : Nat → Int64) (z_said : Nat → Int32) (z_isRaining : Int32), m_makeUp_l68 z_sign z_clause z_clauses z_force z_absent z_kept x1 x2 x6 k54 n x3 x4 x5 x7 z_stack z_top z_word z_said z_isRaining = some q → rW l D Z (ty7 K) Mm_makeUp 68 [(0, .ref (ad 0)), (1, .int x1), (2, .int x2), (3, .int x3), (4, .int x4), (5, .int x5), (6, .int x6), (7, .int x7)] [] (wM K ad z_tape z_taped z_rules z_sign z_length z_clause z_clauses z_read z_next z_wrong z_number z_text z_made z_deep z_lines z_open z_opened z_stack z_top z_word z_said z_force z_x z_absent z_isRaining z_wasSaid z_undone z_kept z_order z_bestOrder z_hasBy z_wealthThen z_isFit z_tillThen z_drawX z_images z_imageForce z_imageX z_isMade) (wM K ad z_tape z_taped z_rules z_sign z_length z_clause z_clauses z_read z_next z_wrong z_number z_text z_made z_deep z_lines z_open z_opened q.2.1 q.2.2.1 q.2.2.2.1 q.2.2.2.2.1 z_force z_x z_absent q.2.2.2.2.2.1 z_wasSaid z_undone q.2.2.2.2.2.2 z_order z_bestOrder z_hasBy z_wealthThen z_isFit z_tillThen z_drawX z_images z_imageForce z_imageX z_isMade) (some (.int q.1)) := by
  intro n
  induction n with
  | zero => intro x3 x4 x5 x7 z_stack z_top z_word z_said z_isRaining h; unfold m_makeUp_l68 at h; cases h
  | succ n ih =>
    intro x3 x4 x5 x7 z_stack z_top z_word z_said z_isRaining h
    unfold m_makeUp_l68 at h
    refine r_iload 7 dX12_makeUp_68 rfl ?_
    refine r_aload_n 0 dX12_makeUp_70 rfl ?_
    refine gM_said rfl dX12_makeUp_71 ?_
    refine r_iconst (x := (3 : Int32)) dX12_makeUp_74 (by decide) ?_
    obtain ⟨h13, h⟩ := rq_some h
    refine lM_said (inb_in h13) dX12_makeUp_75 ?_
    refine r_icmp_ge 146 dX12_makeUp_76 (by decide) (fun c14 => ?_) (fun c14 => ?_)
    · replace h := it_pos c14 h
      refine r_iinc (y := (x6 + (1 : Int32))) (lv' := [(6, .int (x6 + (1 : Int32))), (0, .ref (ad 0)), (1, .int x1), (2, .int x2), (3, .int x3), (4, .int x4), (5, .int x5), (7, .int x7)]) 6 dX12_makeUp_146 rfl rfl (by decide) rfl ?_
      refine r_goto 54 dX12_makeUp_149 (by decide) ?_
      refine r_sub (lv' := [(0, .ref (ad 0)), (1, .int x1), (2, .int x2), (3, .int x3), (4, .int x4), (5, .int x5), (6, .int (x6 + (1 : Int32)))]) [1, 2, 3, 4, 5, 6, 0] rfl ?_
      exact hk54 _ _ _ _ _ _ _ _ _ h
    · replace h := it_neg c14 h
      refine r_aload_n 0 dX12_makeUp_79 rfl ?_
      refine r_iload 6 dX12_makeUp_80 rfl ?_
      refine r_iload 7 dX12_makeUp_82 rfl ?_
      obtain ⟨q15, h15, h⟩ := bd_some h
      refine cvM (st := []) (cm_bears h15) rfl rfl (Nat.le_of_ble_eq_true rfl) km_bears (tb_in (i := 24) (j := 0) rfl rfl) (by decide) rfl dX12_makeUp_84 ?_
      refine r_if_ne 93 dX12_makeUp_87 (by decide) (fun c16 => ?_) (fun c16 => ?_)
      · replace h := it_neg c16 h
        refine r_aload_n 0 dX12_makeUp_93 rfl ?_
        refine gM_said rfl dX12_makeUp_94 ?_
        refine r_bipush (x := (41 : Int32)) dX12_makeUp_97 (by decide) ?_
        refine r_iload 6 dX12_makeUp_99 rfl ?_
        refine r_iadd dX12_makeUp_101 ?_
        obtain ⟨y17, e17, h⟩ := lt_some h
        refine r_top e17 ?_
        refine r_dup2 dX12_makeUp_102 rfl rfl ?_
        obtain ⟨h18, h⟩ := rq_some h
        refine lM_said (inb_in h18) dX12_makeUp_103 ?_
        refine r_iconst (x := (1 : Int32)) dX12_makeUp_104 (by decide) ?_
        refine r_iload 7 dX12_makeUp_105 rfl ?_
        refine r_ishl dX12_makeUp_107 ?_
        refine r_iconst (x := (-1 : Int32)) dX12_makeUp_108 (by decide) ?_
        refine r_ixor dX12_makeUp_109 ?_
        refine r_iand dX12_makeUp_110 ?_
        obtain ⟨h19, h⟩ := rq_some h
        obtain ⟨u19, e19, h⟩ := lt_some h
        refine sM_said e19 (inb_in h19) dX12_makeUp_111 ?_
        refine r_aload_n 0 dX12_makeUp_112 rfl ?_
        refine r_iload_n 1 dX12_makeUp_113 rfl ?_
        obtain ⟨q20, h20, h⟩ := bd_some h
        refine cvM (st := []) (cm_takenIn h20) rfl rfl (Nat.le_of_ble_eq_true rfl) km_takenIn (tb_in (i := 27) (j := 9) rfl rfl) (by decide) rfl dX12_makeUp_114 ?_
        refine r_istore (lv' := [(8, .int q20.1), (0, .ref (ad 0)), (1, .int x1), (2, .int x2), (3, .int x3), (4, .int x4), (5, .int x5), (6, .int x6), (7, .int x7)]) dX12_makeUp_117 (by decide) rfl ?_
        refine r_iload 0 dX12_makeUp_119 rfl ?_
        refine r_iload 6 dX12_makeUp_121 rfl ?_
        refine r_icmp_gt 129 dX12_makeUp_123 (by decide) (fun c21 => ?_) (fun c21 => ?_)
        · replace h := it_pos c21 h
          refine r_iload 7 dX12_makeUp_129 rfl ?_
          refine r_istore_n (lv' := [(3, .int x6), (8, .int q20.1), (0, .ref (ad 0)), (1, .int x1), (2, .int x2), (4, .int x4), (5, .int x5), (6, .int x6), (7, .int x7)]) dX12_makeUp_131 (by decide) rfl ?_
          refine r_iload 8 dX12_makeUp_132 rfl ?_
          refine r_istore (lv' := [(4, .int x7), (3, .int x6), (8, .int q20.1), (0, .ref (ad 0)), (1, .int x1), (2, .int x2), (5, .int x5), (6, .int x6), (7, .int x7)]) dX12_makeUp_134 (by decide) rfl ?_
          refine r_iload 2 dX12_makeUp_136 rfl ?_
          refine r_istore (lv' := [(5, .int q20.1), (4, .int x7), (3, .int x6), (8, .int q20.1), (0, .ref (ad 0)), (1, .int x1), (2, .int x2), (6, .int x6), (7, .int x7)]) dX12_makeUp_138 (by decide) rfl ?_
          refine r_iinc (y := (x7 + (1 : Int32))) (lv' := [(7, .int (x7 + (1 : Int32))), (5, .int q20.1), (4, .int x7), (3, .int x6), (8, .int q20.1), (0, .ref (ad 0)), (1, .int x1), (2, .int x2), (6, .int x6)]) 8 dX12_makeUp_140 rfl rfl (by decide) rfl ?_
          refine r_goto 68 dX12_makeUp_143 (by decide) ?_
          refine r_sub (lv' := [(0, .ref (ad 0)), (1, .int x1), (2, .int x2), (3, .int x6), (4, .int x7), (5, .int q20.1), (6, .int x6), (7, .int (x7 + (1 : Int32)))]) [5, 6, 7, 3, 2, 1, 8, 0] rfl ?_
          exact ih _ _ _ _ _ _ _ _ _ h
        · replace h := it_neg c21 h
          refine r_goto 140 dX12_makeUp_126 (by decide) ?_
          refine r_iinc (y := (x7 + (1 : Int32))) (lv' := [(7, .int (x7 + (1 : Int32))), (8, .int q20.1), (0, .ref (ad 0)), (1, .int x1), (2, .int x2), (3, .int x3), (4, .int x4), (5, .int x5), (6, .int x6)]) 8 dX12_makeUp_140 rfl rfl (by decide) rfl ?_
          refine r_goto 68 dX12_makeUp_143 (by decide) ?_
          refine r_sub (lv' := [(0, .ref (ad 0)), (1, .int x1), (2, .int x2), (3, .int x3), (4, .int x4), (5, .int x5), (6, .int x6), (7, .int (x7 + (1 : Int32)))]) [2, 3, 4, 5, 6, 7, 8, 0] rfl ?_
          exact ih _ _ _ _ _ _ _ _ _ h
      · replace h := it_pos c16 h
        refine r_goto 140 dX12_makeUp_90 (by decide) ?_
        refine r_iinc (y := (x7 + (1 : Int32))) (lv' := [(7, .int (x7 + (1 : Int32))), (0, .ref (ad 0)), (1, .int x1), (2, .int x2), (3, .int x3), (4, .int x4), (5, .int x5), (6, .int x6)]) 7 dX12_makeUp_140 rfl rfl (by decide) rfl ?_
        refine r_goto 68 dX12_makeUp_143 (by decide) ?_
        refine r_sub (lv' := [(0, .ref (ad 0)), (1, .int x1), (2, .int x2), (3, .int x3), (4, .int x4), (5, .int x5), (6, .int x6), (7, .int (x7 + (1 : Int32)))]) [1, 2, 3, 4, 5, 6, 7, 0] rfl ?_
        exact ih _ _ _ _ _ _ _ _ _ h
def m_makeUp_l54 (z_sign : Nat → Int32) (z_clause : Nat → Int32) (z_clauses : Nat → Int32) (z_force : Int32) (z_absent : Int32) (z_kept : Nat → Int32) (x1 : Int32) (x2 : Int32) : Nat → Int32 → Int32 → Int32 → Int32 → (Nat → Int64) → Int32 → (Nat → Int64) → (Nat → Int32) → Int32 → Option (Int32 × (Nat → Int64) × Int32 × (Nat → Int64) × (Nat → Int32) × Int32 × (Nat → Int32))
  | 0, _, _, _, _, _, _, _, _, _ => none
  | n + 1, x3, x4, x5, x6, z_stack, z_top, z_word, z_said, z_isRaining => rq (inb (3 : Int32) 156) ((if (z_said (3 : Int32).toNatClampNeg) ≤ x6 then (if x2 = 0 then some (x5, z_stack, z_top, z_word, z_said, z_isRaining, z_kept) else (if x2 = (1 : Int32) then some (x3, z_stack, z_top, z_word, z_said, z_isRaining, z_kept) else some (x4, z_stack, z_top, z_word, z_said, z_isRaining, z_kept))) else m_makeUp_l68 z_sign z_clause z_clauses z_force z_absent z_kept x1 x2 x6 (m_makeUp_l54 z_sign z_clause z_clauses z_force z_absent z_kept x1 x2 n) FU x3 x4 x5 (0 : Int32) z_stack z_top z_word z_said z_isRaining))
set_option maxRecDepth 20000 in
theorem cm_makeUp_l54 {q : Int32 × (Nat → Int64) × Int32 × (Nat → Int64) × (Nat → Int32) × Int32 × (Nat → Int32)} {x1 : Int32} {x2 : Int32}  : ∀ (n : Nat) (x3 : Int32) (x4 : Int32) (x5 : Int32) (x6 : Int32) (z_stack : Nat → Int64) (z_top : Int32) (z_word : Nat → Int64) (z_said : Nat → Int32) (z_isRaining : Int32), m_makeUp_l54 z_sign z_clause z_clauses z_force z_absent z_kept x1 x2 n x3 x4 x5 x6 z_stack z_top z_word z_said z_isRaining = some q → rW l D Z (ty7 K) Mm_makeUp 54 [(0, .ref (ad 0)), (1, .int x1), (2, .int x2), (3, .int x3), (4, .int x4), (5, .int x5), (6, .int x6)] [] (wM K ad z_tape z_taped z_rules z_sign z_length z_clause z_clauses z_read z_next z_wrong z_number z_text z_made z_deep z_lines z_open z_opened z_stack z_top z_word z_said z_force z_x z_absent z_isRaining z_wasSaid z_undone z_kept z_order z_bestOrder z_hasBy z_wealthThen z_isFit z_tillThen z_drawX z_images z_imageForce z_imageX z_isMade) (wM K ad z_tape z_taped z_rules z_sign z_length z_clause z_clauses z_read z_next z_wrong z_number z_text z_made z_deep z_lines z_open z_opened q.2.1 q.2.2.1 q.2.2.2.1 q.2.2.2.2.1 z_force z_x z_absent q.2.2.2.2.2.1 z_wasSaid z_undone q.2.2.2.2.2.2 z_order z_bestOrder z_hasBy z_wealthThen z_isFit z_tillThen z_drawX z_images z_imageForce z_imageX z_isMade) (some (.int q.1)) := by
  intro n
  induction n with
  | zero => intro x3 x4 x5 x6 z_stack z_top z_word z_said z_isRaining h; unfold m_makeUp_l54 at h; cases h
  | succ n ih =>
    intro x3 x4 x5 x6 z_stack z_top z_word z_said z_isRaining h
    unfold m_makeUp_l54 at h
    refine r_iload 6 dX12_makeUp_54 rfl ?_
    refine r_aload_n 0 dX12_makeUp_56 rfl ?_
    refine gM_said rfl dX12_makeUp_57 ?_
    refine r_iconst (x := (3 : Int32)) dX12_makeUp_60 (by decide) ?_
    obtain ⟨h9, h⟩ := rq_some h
    refine lM_said (inb_in h9) dX12_makeUp_61 ?_
    refine r_icmp_ge 152 dX12_makeUp_62 (by decide) (fun c10 => ?_) (fun c10 => ?_)
    · replace h := it_pos c10 h
      refine r_iload_n 2 dX12_makeUp_152 rfl ?_
      refine r_if_ne 161 dX12_makeUp_153 (by decide) (fun c11 => ?_) (fun c11 => ?_)
      · replace h := it_neg c11 h
        refine r_iload_n 2 dX12_makeUp_161 rfl ?_
        refine r_iconst (x := (1 : Int32)) dX12_makeUp_162 (by decide) ?_
        refine r_icmp_ne 170 dX12_makeUp_163 (by decide) (fun c12 => ?_) (fun c12 => ?_)
        · replace h := it_neg c12 h
          refine r_iload 4 dX12_makeUp_170 rfl ?_
          have hq := Option.some.inj h
          subst hq
          exact r_iret rfl dX12_makeUp_172
        · replace h := it_pos c12 h
          refine r_iload_n 3 dX12_makeUp_166 rfl ?_
          refine r_goto 172 dX12_makeUp_167 (by decide) ?_
          have hq := Option.some.inj h
          subst hq
          exact r_iret rfl dX12_makeUp_172
      · replace h := it_pos c11 h
        refine r_iload 5 dX12_makeUp_156 rfl ?_
        refine r_goto 172 dX12_makeUp_158 (by decide) ?_
        have hq := Option.some.inj h
        subst hq
        exact r_iret rfl dX12_makeUp_172
    · replace h := it_neg c10 h
      refine r_iconst (x := (0 : Int32)) dX12_makeUp_65 (by decide) ?_
      refine r_istore (lv' := [(7, .int (0 : Int32)), (0, .ref (ad 0)), (1, .int x1), (2, .int x2), (3, .int x3), (4, .int x4), (5, .int x5), (6, .int x6)]) dX12_makeUp_66 (by decide) rfl ?_
      refine r_sub (lv' := [(0, .ref (ad 0)), (1, .int x1), (2, .int x2), (3, .int x3), (4, .int x4), (5, .int x5), (6, .int x6), (7, .int (0 : Int32))]) [1, 2, 3, 4, 5, 6, 7, 0] rfl ?_
      exact cm_makeUp_l68 (ih) FU _ _ _ _ _ _ _ _ _ h
def m_makeUp (x1 : Int32) (x2 : Int32) (z_sign : Nat → Int32) (z_clause : Nat → Int32) (z_clauses : Nat → Int32) (z_stack : Nat → Int64) (z_top : Int32) (z_word : Nat → Int64) (z_said : Nat → Int32) (z_force : Int32) (z_absent : Int32) (z_isRaining : Int32) (z_kept : Nat → Int32) : Option (Int32 × (Nat → Int64) × Int32 × (Nat → Int64) × (Nat → Int32) × Int32 × (Nat → Int32)) := (m_isFair z_said).bind (fun q1 => (if q1 = 0 then some ((-1 : Int32), z_stack, z_top, z_word, z_said, z_isRaining, z_kept) else (m_in (x1.toInt64) (1 : Int64) (40 : Int64)).bind (fun q3 => (if q3 = 0 then some ((-1 : Int32), z_stack, z_top, z_word, z_said, z_isRaining, z_kept) else (m_in (x2.toInt64) (0 : Int64) (2 : Int64)).bind (fun q5 => (if q5 = 0 then some ((-1 : Int32), z_stack, z_top, z_word, z_said, z_isRaining, z_kept) else (m_keeps z_said z_kept).bind (fun q7 => (m_takenIn x1 z_sign z_clause z_clauses z_stack z_top z_word z_said z_force z_absent z_isRaining q7).bind (fun q8 => m_makeUp_l54 z_sign z_clause z_clauses z_force z_absent q7 x1 x2 FU (-2 : Int32) (-2 : Int32) q8.1 (0 : Int32) q8.2.1 q8.2.2.1 q8.2.2.2.1 q8.2.2.2.2.1 q8.2.2.2.2.2))))))))
set_option maxRecDepth 20000 in
theorem cm_makeUp {q : Int32 × (Nat → Int64) × Int32 × (Nat → Int64) × (Nat → Int32) × Int32 × (Nat → Int32)} {x1 : Int32} {x2 : Int32} (h : m_makeUp x1 x2 z_sign z_clause z_clauses z_stack z_top z_word z_said z_force z_absent z_isRaining z_kept = some q) : rMet l D Z (ty7 K) Mm_makeUp [.ref (ad 0), .int x1, .int x2] (wM K ad z_tape z_taped z_rules z_sign z_length z_clause z_clauses z_read z_next z_wrong z_number z_text z_made z_deep z_lines z_open z_opened z_stack z_top z_word z_said z_force z_x z_absent z_isRaining z_wasSaid z_undone z_kept z_order z_bestOrder z_hasBy z_wealthThen z_isFit z_tillThen z_drawX z_images z_imageForce z_imageX z_isMade) (wM K ad z_tape z_taped z_rules z_sign z_length z_clause z_clauses z_read z_next z_wrong z_number z_text z_made z_deep z_lines z_open z_opened q.2.1 q.2.2.1 q.2.2.2.1 q.2.2.2.2.1 z_force z_x z_absent q.2.2.2.2.2.1 z_wasSaid z_undone q.2.2.2.2.2.2 z_order z_bestOrder z_hasBy z_wealthThen z_isFit z_tillThen z_drawX z_images z_imageForce z_imageX z_isMade) (some (.int q.1)) := by
  refine rMet.of (by decide) rfl (Nat.le_of_ble_eq_true rfl) ?_
  refine r_sub (lv' := [(0, .ref (ad 0)), (1, .int x1), (2, .int x2)]) [0, 1, 2] rfl ?_
  unfold m_makeUp at h
  refine r_aload_n 0 dX12_makeUp_0 rfl ?_
  obtain ⟨q1, h1, h⟩ := bd_some h
  refine cvM (st := []) (cm_isFair h1) rfl rfl (Nat.le_of_ble_eq_true rfl) km_isFair (tb_in (i := 26) (j := 2) rfl rfl) (by decide) rfl dX12_makeUp_1 ?_
  refine r_if_eq 31 dX12_makeUp_4 (by decide) (fun c2 => ?_) (fun c2 => ?_)
  · replace h := it_pos c2 h
    refine r_iconst (x := (-1 : Int32)) dX12_makeUp_31 (by decide) ?_
    have hq := Option.some.inj h
    subst hq
    exact r_iret rfl dX12_makeUp_32
  · replace h := it_neg c2 h
    refine r_iload_n 1 dX12_makeUp_7 rfl ?_
    refine r_i2l dX12_makeUp_8 ?_
    refine r_lconst (x := (1 : Int64)) dX12_makeUp_9 (by decide) ?_
    refine r_ldc2 (x := (40 : Int64)) (tb_in (i := 26) (j := 19) rfl rfl) dX12_makeUp_10 ?_
    obtain ⟨q3, h3, h⟩ := bd_some h
    refine r_callS (st := []) (cm_in h3) rfl rfl (Nat.le_of_ble_eq_true rfl) km_in (tb_in (i := 18) (j := 20) rfl rfl) (by decide) dX12_makeUp_13 ?_
    refine r_if_eq 31 dX12_makeUp_16 (by decide) (fun c4 => ?_) (fun c4 => ?_)
    · replace h := it_pos c4 h
      refine r_iconst (x := (-1 : Int32)) dX12_makeUp_31 (by decide) ?_
      have hq := Option.some.inj h
      subst hq
      exact r_iret rfl dX12_makeUp_32
    · replace h := it_neg c4 h
      refine r_iload_n 2 dX12_makeUp_19 rfl ?_
      refine r_i2l dX12_makeUp_20 ?_
      refine r_lconst (x := (0 : Int64)) dX12_makeUp_21 (by decide) ?_
      refine r_ldc2 (x := (2 : Int64)) (tb_in (i := 24) (j := 23) rfl rfl) dX12_makeUp_22 ?_
      obtain ⟨q5, h5, h⟩ := bd_some h
      refine r_callS (st := []) (cm_in h5) rfl rfl (Nat.le_of_ble_eq_true rfl) km_in (tb_in (i := 18) (j := 20) rfl rfl) (by decide) dX12_makeUp_25 ?_
      refine r_if_ne 33 dX12_makeUp_28 (by decide) (fun c6 => ?_) (fun c6 => ?_)
      · replace h := it_neg c6 h
        refine r_aload_n 0 dX12_makeUp_33 rfl ?_
        obtain ⟨q7, h7, h⟩ := bd_some h
        refine cvM (st := []) (cm_keeps h7) rfl rfl (Nat.le_of_ble_eq_true rfl) km_keeps (tb_in (i := 26) (j := 26) rfl rfl) (by decide) rfl dX12_makeUp_34 ?_
        refine r_bipush (x := (-2 : Int32)) dX12_makeUp_37 (by decide) ?_
        refine r_istore_n (lv' := [(3, .int (-2 : Int32)), (0, .ref (ad 0)), (1, .int x1), (2, .int x2)]) dX12_makeUp_39 (by decide) rfl ?_
        refine r_bipush (x := (-2 : Int32)) dX12_makeUp_40 (by decide) ?_
        refine r_istore (lv' := [(4, .int (-2 : Int32)), (3, .int (-2 : Int32)), (0, .ref (ad 0)), (1, .int x1), (2, .int x2)]) dX12_makeUp_42 (by decide) rfl ?_
        refine r_aload_n 2 dX12_makeUp_44 rfl ?_
        refine r_iload_n 3 dX12_makeUp_45 rfl ?_
        obtain ⟨q8, h8, h⟩ := bd_some h
        refine cvM (st := []) (cm_takenIn h8) rfl rfl (Nat.le_of_ble_eq_true rfl) km_takenIn (tb_in (i := 27) (j := 9) rfl rfl) (by decide) rfl dX12_makeUp_46 ?_
        refine r_istore (lv' := [(5, .int q8.1), (4, .int (-2 : Int32)), (3, .int (-2 : Int32)), (0, .ref (ad 0)), (1, .int x1), (2, .int x2)]) dX12_makeUp_49 (by decide) rfl ?_
        refine r_iconst (x := (0 : Int32)) dX12_makeUp_51 (by decide) ?_
        refine r_istore (lv' := [(6, .int (0 : Int32)), (5, .int q8.1), (4, .int (-2 : Int32)), (3, .int (-2 : Int32)), (0, .ref (ad 0)), (1, .int x1), (2, .int x2)]) dX12_makeUp_52 (by decide) rfl ?_
        refine r_sub (lv' := [(0, .ref (ad 0)), (1, .int x1), (2, .int x2), (3, .int (-2 : Int32)), (4, .int (-2 : Int32)), (5, .int q8.1), (6, .int (0 : Int32))]) [4, 5, 6, 3, 2, 1, 0] rfl ?_
        exact cm_makeUp_l54  FU _ _ _ _ _ _ _ _ _ h
      · replace h := it_pos c6 h
        refine r_iconst (x := (-1 : Int32)) dX12_makeUp_31 (by decide) ?_
        have hq := Option.some.inj h
        subst hq
        exact r_iret rfl dX12_makeUp_32
theorem dX12_away_0 : decode cX12_away 0 = .ok (.aload_n 0, 1) := by decide +kernel
theorem dX12_away_1 : decode cX12_away 1 = .ok (.invokevirtual 358, 3) := by decide +kernel
theorem dX12_away_4 : decode cX12_away 4 = .ok (.ifCond .eq 25, 3) := by decide +kernel
theorem dX12_away_7 : decode cX12_away 7 = .ok (.iload_n 1, 1) := by decide +kernel
theorem dX12_away_8 : decode cX12_away 8 = .ok (.i2l, 1) := by decide +kernel
theorem dX12_away_9 : decode cX12_away 9 = .ok (.lconst 1, 1) := by decide +kernel
theorem dX12_away_10 : decode cX12_away 10 = .ok (.ldc2_w 370, 3) := by decide +kernel
theorem dX12_away_13 : decode cX12_away 13 = .ok (.invokestatic 124, 3) := by decide +kernel
theorem dX12_away_16 : decode cX12_away 16 = .ok (.ifCond .eq 13, 3) := by decide +kernel
theorem dX12_away_19 : decode cX12_away 19 = .ok (.iload_n 2, 1) := by decide +kernel
theorem dX12_away_20 : decode cX12_away 20 = .ok (.i2l, 1) := by decide +kernel
theorem dX12_away_21 : decode cX12_away 21 = .ok (.lconst 0, 1) := by decide +kernel
theorem dX12_away_22 : decode cX12_away 22 = .ok (.lconst 1, 1) := by decide +kernel
theorem dX12_away_23 : decode cX12_away 23 = .ok (.invokestatic 124, 3) := by decide +kernel
theorem dX12_away_26 : decode cX12_away 26 = .ok (.ifCond .ne 6, 3) := by decide +kernel
theorem dX12_away_29 : decode cX12_away 29 = .ok (.bipush (-2), 2) := by decide +kernel
theorem dX12_away_31 : decode cX12_away 31 = .ok (.ireturn, 1) := by decide +kernel
theorem dX12_away_32 : decode cX12_away 32 = .ok (.aload_n 0, 1) := by decide +kernel
theorem dX12_away_33 : decode cX12_away 33 = .ok (.invokevirtual 376, 3) := by decide +kernel
theorem dX12_away_36 : decode cX12_away 36 = .ok (.iconst (-1), 1) := by decide +kernel
theorem dX12_away_37 : decode cX12_away 37 = .ok (.istore_n 3, 1) := by decide +kernel
theorem dX12_away_38 : decode cX12_away 38 = .ok (.aload_n 0, 1) := by decide +kernel
theorem dX12_away_39 : decode cX12_away 39 = .ok (.iload_n 1, 1) := by decide +kernel
theorem dX12_away_40 : decode cX12_away 40 = .ok (.invokevirtual 388, 3) := by decide +kernel
theorem dX12_away_43 : decode cX12_away 43 = .ok (.istore 4, 2) := by decide +kernel
theorem dX12_away_45 : decode cX12_away 45 = .ok (.iconst 0, 1) := by decide +kernel
theorem dX12_away_46 : decode cX12_away 46 = .ok (.istore 5, 2) := by decide +kernel
theorem dX12_away_48 : decode cX12_away 48 = .ok (.iload 5, 2) := by decide +kernel
theorem dX12_away_50 : decode cX12_away 50 = .ok (.aload_n 0, 1) := by decide +kernel
theorem dX12_away_51 : decode cX12_away 51 = .ok (.getfield 39, 3) := by decide +kernel
theorem dX12_away_54 : decode cX12_away 54 = .ok (.iconst 4, 1) := by decide +kernel
theorem dX12_away_55 : decode cX12_away 55 = .ok (.iaload, 1) := by decide +kernel
theorem dX12_away_56 : decode cX12_away 56 = .ok (.if_icmp .ge 39, 3) := by decide +kernel
theorem dX12_away_59 : decode cX12_away 59 = .ok (.aload_n 0, 1) := by decide +kernel
theorem dX12_away_60 : decode cX12_away 60 = .ok (.iload 5, 2) := by decide +kernel
theorem dX12_away_62 : decode cX12_away 62 = .ok (.putfield 46, 3) := by decide +kernel
theorem dX12_away_65 : decode cX12_away 65 = .ok (.aload_n 0, 1) := by decide +kernel
theorem dX12_away_66 : decode cX12_away 66 = .ok (.iload_n 1, 1) := by decide +kernel
theorem dX12_away_67 : decode cX12_away 67 = .ok (.invokevirtual 388, 3) := by decide +kernel
theorem dX12_away_70 : decode cX12_away 70 = .ok (.istore 6, 2) := by decide +kernel
theorem dX12_away_72 : decode cX12_away 72 = .ok (.iload 6, 2) := by decide +kernel
theorem dX12_away_74 : decode cX12_away 74 = .ok (.iload 4, 2) := by decide +kernel
theorem dX12_away_76 : decode cX12_away 76 = .ok (.if_icmp .gt 6, 3) := by decide +kernel
theorem dX12_away_79 : decode cX12_away 79 = .ok (.goto 10, 3) := by decide +kernel
theorem dX12_away_82 : decode cX12_away 82 = .ok (.iload 5, 2) := by decide +kernel
theorem dX12_away_84 : decode cX12_away 84 = .ok (.istore_n 3, 1) := by decide +kernel
theorem dX12_away_85 : decode cX12_away 85 = .ok (.iload 6, 2) := by decide +kernel
theorem dX12_away_87 : decode cX12_away 87 = .ok (.istore 4, 2) := by decide +kernel
theorem dX12_away_89 : decode cX12_away 89 = .ok (.iinc 5 1, 3) := by decide +kernel
theorem dX12_away_92 : decode cX12_away 92 = .ok (.goto (-44), 3) := by decide +kernel
theorem dX12_away_95 : decode cX12_away 95 = .ok (.aload_n 0, 1) := by decide +kernel
theorem dX12_away_96 : decode cX12_away 96 = .ok (.iconst (-1), 1) := by decide +kernel
theorem dX12_away_97 : decode cX12_away 97 = .ok (.putfield 46, 3) := by decide +kernel
theorem dX12_away_100 : decode cX12_away 100 = .ok (.iload_n 2, 1) := by decide +kernel
theorem dX12_away_101 : decode cX12_away 101 = .ok (.ifCond .ne 7, 3) := by decide +kernel
theorem dX12_away_104 : decode cX12_away 104 = .ok (.iload_n 3, 1) := by decide +kernel
theorem dX12_away_105 : decode cX12_away 105 = .ok (.goto 5, 3) := by decide +kernel
theorem dX12_away_108 : decode cX12_away 108 = .ok (.iload 4, 2) := by decide +kernel
theorem dX12_away_110 : decode cX12_away 110 = .ok (.ireturn, 1) := by decide +kernel
abbrev Mm_away : rx_M := (RX12, yX12_away, cX12_away, 7, (some .int), 10)
theorem km_away : rKv Mm_away 2 := ⟨tb_in (i := 34) (j := 30) rfl rfl, tb_in (i := 34) (j := 31) rfl rfl, tb_in (i := 17) (j := 21) rfl rfl, tb_in (i := 28) (j := 23) rfl rfl, ⟨by decide, by decide, by decide +kernel⟩, by decide⟩
def m_away_l48 (z_sign : Nat → Int32) (z_clause : Nat → Int32) (z_clauses : Nat → Int32) (z_force : Int32) (z_kept : Nat → Int32) (x1 : Int32) (x2 : Int32) : Nat → Int32 → Int32 → Int32 → (Nat → Int64) → Int32 → (Nat → Int64) → (Nat → Int32) → Int32 → Int32 → Option (Int32 × (Nat → Int64) × Int32 × (Nat → Int64) × (Nat → Int32) × Int32 × Int32 × (Nat → Int32))
  | 0, _, _, _, _, _, _, _, _, _ => none
  | n + 1, x3, x4, x5, z_stack, z_top, z_word, z_said, z_absent, z_isRaining => rq (inb (4 : Int32) 156) ((if (z_said (4 : Int32).toNatClampNeg) ≤ x5 then (if x2 = 0 then some (x3, z_stack, z_top, z_word, z_said, (-1 : Int32), z_isRaining, z_kept) else some (x4, z_stack, z_top, z_word, z_said, (-1 : Int32), z_isRaining, z_kept)) else (m_takenIn x1 z_sign z_clause z_clauses z_stack z_top z_word z_said z_force x5 z_isRaining z_kept).bind (fun q12 => (if x4 < q12.1 then m_away_l48 z_sign z_clause z_clauses z_force z_kept x1 x2 n x5 q12.1 (x5 + (1 : Int32)) q12.2.1 q12.2.2.1 q12.2.2.2.1 q12.2.2.2.2.1 x5 q12.2.2.2.2.2 else m_away_l48 z_sign z_clause z_clauses z_force z_kept x1 x2 n x3 x4 (x5 + (1 : Int32)) q12.2.1 q12.2.2.1 q12.2.2.2.1 q12.2.2.2.2.1 x5 q12.2.2.2.2.2))))
set_option maxRecDepth 20000 in
theorem cm_away_l48 {q : Int32 × (Nat → Int64) × Int32 × (Nat → Int64) × (Nat → Int32) × Int32 × Int32 × (Nat → Int32)} {x1 : Int32} {x2 : Int32}  : ∀ (n : Nat) (x3 : Int32) (x4 : Int32) (x5 : Int32) (z_stack : Nat → Int64) (z_top : Int32) (z_word : Nat → Int64) (z_said : Nat → Int32) (z_absent : Int32) (z_isRaining : Int32), m_away_l48 z_sign z_clause z_clauses z_force z_kept x1 x2 n x3 x4 x5 z_stack z_top z_word z_said z_absent z_isRaining = some q → rW l D Z (ty7 K) Mm_away 48 [(0, .ref (ad 0)), (1, .int x1), (2, .int x2), (3, .int x3), (4, .int x4), (5, .int x5)] [] (wM K ad z_tape z_taped z_rules z_sign z_length z_clause z_clauses z_read z_next z_wrong z_number z_text z_made z_deep z_lines z_open z_opened z_stack z_top z_word z_said z_force z_x z_absent z_isRaining z_wasSaid z_undone z_kept z_order z_bestOrder z_hasBy z_wealthThen z_isFit z_tillThen z_drawX z_images z_imageForce z_imageX z_isMade) (wM K ad z_tape z_taped z_rules z_sign z_length z_clause z_clauses z_read z_next z_wrong z_number z_text z_made z_deep z_lines z_open z_opened q.2.1 q.2.2.1 q.2.2.2.1 q.2.2.2.2.1 z_force z_x q.2.2.2.2.2.1 q.2.2.2.2.2.2.1 z_wasSaid z_undone q.2.2.2.2.2.2.2 z_order z_bestOrder z_hasBy z_wealthThen z_isFit z_tillThen z_drawX z_images z_imageForce z_imageX z_isMade) (some (.int q.1)) := by
  intro n
  induction n with
  | zero => intro x3 x4 x5 z_stack z_top z_word z_said z_absent z_isRaining h; unfold m_away_l48 at h; cases h
  | succ n ih =>
    intro x3 x4 x5 z_stack z_top z_word z_said z_absent z_isRaining h
    unfold m_away_l48 at h
    refine r_iload 5 dX12_away_48 rfl ?_
    refine r_aload_n 0 dX12_away_50 rfl ?_
    refine gM_said rfl dX12_away_51 ?_
    refine r_iconst (x := (4 : Int32)) dX12_away_54 (by decide) ?_
    obtain ⟨h9, h⟩ := rq_some h
    refine lM_said (inb_in h9) dX12_away_55 ?_
    refine r_icmp_ge 95 dX12_away_56 (by decide) (fun c10 => ?_) (fun c10 => ?_)
    · replace h := it_pos c10 h
      refine r_aload_n 0 dX12_away_95 rfl ?_
      refine r_iconst (x := (-1 : Int32)) dX12_away_96 (by decide) ?_
      refine pM_absent rfl dX12_away_97 ?_
      refine r_iload_n 2 dX12_away_100 rfl ?_
      refine r_if_ne 108 dX12_away_101 (by decide) (fun c11 => ?_) (fun c11 => ?_)
      · replace h := it_neg c11 h
        refine r_iload 4 dX12_away_108 rfl ?_
        have hq := Option.some.inj h
        subst hq
        exact r_iret rfl dX12_away_110
      · replace h := it_pos c11 h
        refine r_iload_n 3 dX12_away_104 rfl ?_
        refine r_goto 110 dX12_away_105 (by decide) ?_
        have hq := Option.some.inj h
        subst hq
        exact r_iret rfl dX12_away_110
    · replace h := it_neg c10 h
      refine r_aload_n 0 dX12_away_59 rfl ?_
      refine r_iload 5 dX12_away_60 rfl ?_
      refine pM_absent rfl dX12_away_62 ?_
      refine r_aload_n 0 dX12_away_65 rfl ?_
      refine r_iload_n 1 dX12_away_66 rfl ?_
      obtain ⟨q12, h12, h⟩ := bd_some h
      refine cvM (st := []) (cm_takenIn h12) rfl rfl (Nat.le_of_ble_eq_true rfl) km_takenIn (tb_in (i := 27) (j := 9) rfl rfl) (by decide) rfl dX12_away_67 ?_
      refine r_istore (lv' := [(6, .int q12.1), (0, .ref (ad 0)), (1, .int x1), (2, .int x2), (3, .int x3), (4, .int x4), (5, .int x5)]) dX12_away_70 (by decide) rfl ?_
      refine r_iload 0 dX12_away_72 rfl ?_
      refine r_iload 5 dX12_away_74 rfl ?_
      refine r_icmp_gt 82 dX12_away_76 (by decide) (fun c13 => ?_) (fun c13 => ?_)
      · replace h := it_pos c13 h
        refine r_iload 6 dX12_away_82 rfl ?_
        refine r_istore_n (lv' := [(3, .int x5), (6, .int q12.1), (0, .ref (ad 0)), (1, .int x1), (2, .int x2), (4, .int x4), (5, .int x5)]) dX12_away_84 (by decide) rfl ?_
        refine r_iload 1 dX12_away_85 rfl ?_
        refine r_istore (lv' := [(4, .int q12.1), (3, .int x5), (6, .int q12.1), (0, .ref (ad 0)), (1, .int x1), (2, .int x2), (5, .int x5)]) dX12_away_87 (by decide) rfl ?_
        refine r_iinc (y := (x5 + (1 : Int32))) (lv' := [(5, .int (x5 + (1 : Int32))), (4, .int q12.1), (3, .int x5), (6, .int q12.1), (0, .ref (ad 0)), (1, .int x1), (2, .int x2)]) 6 dX12_away_89 rfl rfl (by decide) rfl ?_
        refine r_goto 48 dX12_away_92 (by decide) ?_
        refine r_sub (lv' := [(0, .ref (ad 0)), (1, .int x1), (2, .int x2), (3, .int x5), (4, .int q12.1), (5, .int (x5 + (1 : Int32)))]) [4, 5, 6, 2, 1, 0] rfl ?_
        exact ih _ _ _ _ _ _ _ _ _ h
      · replace h := it_neg c13 h
        refine r_goto 89 dX12_away_79 (by decide) ?_
        refine r_iinc (y := (x5 + (1 : Int32))) (lv' := [(5, .int (x5 + (1 : Int32))), (6, .int q12.1), (0, .ref (ad 0)), (1, .int x1), (2, .int x2), (3, .int x3), (4, .int x4)]) 6 dX12_away_89 rfl rfl (by decide) rfl ?_
        refine r_goto 48 dX12_away_92 (by decide) ?_
        refine r_sub (lv' := [(0, .ref (ad 0)), (1, .int x1), (2, .int x2), (3, .int x3), (4, .int x4), (5, .int (x5 + (1 : Int32)))]) [2, 3, 4, 5, 6, 0] rfl ?_
        exact ih _ _ _ _ _ _ _ _ _ h
def m_away (x1 : Int32) (x2 : Int32) (z_sign : Nat → Int32) (z_clause : Nat → Int32) (z_clauses : Nat → Int32) (z_stack : Nat → Int64) (z_top : Int32) (z_word : Nat → Int64) (z_said : Nat → Int32) (z_force : Int32) (z_absent : Int32) (z_isRaining : Int32) (z_kept : Nat → Int32) : Option (Int32 × (Nat → Int64) × Int32 × (Nat → Int64) × (Nat → Int32) × Int32 × Int32 × (Nat → Int32)) := (m_isFair z_said).bind (fun q1 => (if q1 = 0 then some ((-2 : Int32), z_stack, z_top, z_word, z_said, z_absent, z_isRaining, z_kept) else (m_in (x1.toInt64) (1 : Int64) (40 : Int64)).bind (fun q3 => (if q3 = 0 then some ((-2 : Int32), z_stack, z_top, z_word, z_said, z_absent, z_isRaining, z_kept) else (m_in (x2.toInt64) (0 : Int64) (1 : Int64)).bind (fun q5 => (if q5 = 0 then some ((-2 : Int32), z_stack, z_top, z_word, z_said, z_absent, z_isRaining, z_kept) else (m_keeps z_said z_kept).bind (fun q7 => (m_takenIn x1 z_sign z_clause z_clauses z_stack z_top z_word z_said z_force z_absent z_isRaining q7).bind (fun q8 => m_away_l48 z_sign z_clause z_clauses z_force q7 x1 x2 FU (-1 : Int32) q8.1 (0 : Int32) q8.2.1 q8.2.2.1 q8.2.2.2.1 q8.2.2.2.2.1 z_absent q8.2.2.2.2.2))))))))
set_option maxRecDepth 20000 in
theorem cm_away {q : Int32 × (Nat → Int64) × Int32 × (Nat → Int64) × (Nat → Int32) × Int32 × Int32 × (Nat → Int32)} {x1 : Int32} {x2 : Int32} (h : m_away x1 x2 z_sign z_clause z_clauses z_stack z_top z_word z_said z_force z_absent z_isRaining z_kept = some q) : rMet l D Z (ty7 K) Mm_away [.ref (ad 0), .int x1, .int x2] (wM K ad z_tape z_taped z_rules z_sign z_length z_clause z_clauses z_read z_next z_wrong z_number z_text z_made z_deep z_lines z_open z_opened z_stack z_top z_word z_said z_force z_x z_absent z_isRaining z_wasSaid z_undone z_kept z_order z_bestOrder z_hasBy z_wealthThen z_isFit z_tillThen z_drawX z_images z_imageForce z_imageX z_isMade) (wM K ad z_tape z_taped z_rules z_sign z_length z_clause z_clauses z_read z_next z_wrong z_number z_text z_made z_deep z_lines z_open z_opened q.2.1 q.2.2.1 q.2.2.2.1 q.2.2.2.2.1 z_force z_x q.2.2.2.2.2.1 q.2.2.2.2.2.2.1 z_wasSaid z_undone q.2.2.2.2.2.2.2 z_order z_bestOrder z_hasBy z_wealthThen z_isFit z_tillThen z_drawX z_images z_imageForce z_imageX z_isMade) (some (.int q.1)) := by
  refine rMet.of (by decide) rfl (Nat.le_of_ble_eq_true rfl) ?_
  refine r_sub (lv' := [(0, .ref (ad 0)), (1, .int x1), (2, .int x2)]) [0, 1, 2] rfl ?_
  unfold m_away at h
  refine r_aload_n 0 dX12_away_0 rfl ?_
  obtain ⟨q1, h1, h⟩ := bd_some h
  refine cvM (st := []) (cm_isFair h1) rfl rfl (Nat.le_of_ble_eq_true rfl) km_isFair (tb_in (i := 26) (j := 2) rfl rfl) (by decide) rfl dX12_away_1 ?_
  refine r_if_eq 29 dX12_away_4 (by decide) (fun c2 => ?_) (fun c2 => ?_)
  · replace h := it_pos c2 h
    refine r_bipush (x := (-2 : Int32)) dX12_away_29 (by decide) ?_
    have hq := Option.some.inj h
    subst hq
    exact r_iret rfl dX12_away_31
  · replace h := it_neg c2 h
    refine r_iload_n 1 dX12_away_7 rfl ?_
    refine r_i2l dX12_away_8 ?_
    refine r_lconst (x := (1 : Int64)) dX12_away_9 (by decide) ?_
    refine r_ldc2 (x := (40 : Int64)) (tb_in (i := 26) (j := 19) rfl rfl) dX12_away_10 ?_
    obtain ⟨q3, h3, h⟩ := bd_some h
    refine r_callS (st := []) (cm_in h3) rfl rfl (Nat.le_of_ble_eq_true rfl) km_in (tb_in (i := 18) (j := 20) rfl rfl) (by decide) dX12_away_13 ?_
    refine r_if_eq 29 dX12_away_16 (by decide) (fun c4 => ?_) (fun c4 => ?_)
    · replace h := it_pos c4 h
      refine r_bipush (x := (-2 : Int32)) dX12_away_29 (by decide) ?_
      have hq := Option.some.inj h
      subst hq
      exact r_iret rfl dX12_away_31
    · replace h := it_neg c4 h
      refine r_iload_n 2 dX12_away_19 rfl ?_
      refine r_i2l dX12_away_20 ?_
      refine r_lconst (x := (0 : Int64)) dX12_away_21 (by decide) ?_
      refine r_lconst (x := (1 : Int64)) dX12_away_22 (by decide) ?_
      obtain ⟨q5, h5, h⟩ := bd_some h
      refine r_callS (st := []) (cm_in h5) rfl rfl (Nat.le_of_ble_eq_true rfl) km_in (tb_in (i := 18) (j := 20) rfl rfl) (by decide) dX12_away_23 ?_
      refine r_if_ne 32 dX12_away_26 (by decide) (fun c6 => ?_) (fun c6 => ?_)
      · replace h := it_neg c6 h
        refine r_aload_n 0 dX12_away_32 rfl ?_
        obtain ⟨q7, h7, h⟩ := bd_some h
        refine cvM (st := []) (cm_keeps h7) rfl rfl (Nat.le_of_ble_eq_true rfl) km_keeps (tb_in (i := 26) (j := 26) rfl rfl) (by decide) rfl dX12_away_33 ?_
        refine r_iconst (x := (-1 : Int32)) dX12_away_36 (by decide) ?_
        refine r_istore_n (lv' := [(3, .int (-1 : Int32)), (0, .ref (ad 0)), (1, .int x1), (2, .int x2)]) dX12_away_37 (by decide) rfl ?_
        refine r_aload_n 1 dX12_away_38 rfl ?_
        refine r_iload_n 2 dX12_away_39 rfl ?_
        obtain ⟨q8, h8, h⟩ := bd_some h
        refine cvM (st := []) (cm_takenIn h8) rfl rfl (Nat.le_of_ble_eq_true rfl) km_takenIn (tb_in (i := 27) (j := 9) rfl rfl) (by decide) rfl dX12_away_40 ?_
        refine r_istore (lv' := [(4, .int q8.1), (3, .int (-1 : Int32)), (0, .ref (ad 0)), (1, .int x1), (2, .int x2)]) dX12_away_43 (by decide) rfl ?_
        refine r_iconst (x := (0 : Int32)) dX12_away_45 (by decide) ?_
        refine r_istore (lv' := [(5, .int (0 : Int32)), (4, .int q8.1), (3, .int (-1 : Int32)), (0, .ref (ad 0)), (1, .int x1), (2, .int x2)]) dX12_away_46 (by decide) rfl ?_
        refine r_sub (lv' := [(0, .ref (ad 0)), (1, .int x1), (2, .int x2), (3, .int (-1 : Int32)), (4, .int q8.1), (5, .int (0 : Int32))]) [3, 4, 5, 2, 1, 0] rfl ?_
        exact cm_away_l48  FU _ _ _ _ _ _ _ _ _ h
      · replace h := it_pos c6 h
        refine r_bipush (x := (-2 : Int32)) dX12_away_29 (by decide) ?_
        have hq := Option.some.inj h
        subst hq
        exact r_iret rfl dX12_away_31
theorem dX12_isSwap_0 : decode cX12_isSwap 0 = .ok (.aload_n 0, 1) := by decide +kernel
theorem dX12_isSwap_1 : decode cX12_isSwap 1 = .ok (.iload_n 1, 1) := by decide +kernel
theorem dX12_isSwap_2 : decode cX12_isSwap 2 = .ok (.iload_n 2, 1) := by decide +kernel
theorem dX12_isSwap_3 : decode cX12_isSwap 3 = .ok (.invokevirtual 367, 3) := by decide +kernel
theorem dX12_isSwap_6 : decode cX12_isSwap 6 = .ok (.aload_n 0, 1) := by decide +kernel
theorem dX12_isSwap_7 : decode cX12_isSwap 7 = .ok (.iload_n 3, 1) := by decide +kernel
theorem dX12_isSwap_8 : decode cX12_isSwap 8 = .ok (.invokevirtual 379, 3) := by decide +kernel
theorem dX12_isSwap_11 : decode cX12_isSwap 11 = .ok (.pop, 1) := by decide +kernel
theorem dX12_isSwap_12 : decode cX12_isSwap 12 = .ok (.aload_n 0, 1) := by decide +kernel
theorem dX12_isSwap_13 : decode cX12_isSwap 13 = .ok (.iload_n 1, 1) := by decide +kernel
theorem dX12_isSwap_14 : decode cX12_isSwap 14 = .ok (.invokevirtual 382, 3) := by decide +kernel
theorem dX12_isSwap_17 : decode cX12_isSwap 17 = .ok (.aload_n 0, 1) := by decide +kernel
theorem dX12_isSwap_18 : decode cX12_isSwap 18 = .ok (.getfield 64, 3) := by decide +kernel
theorem dX12_isSwap_21 : decode cX12_isSwap 21 = .ok (.iload_n 1, 1) := by decide +kernel
theorem dX12_isSwap_22 : decode cX12_isSwap 22 = .ok (.iaload, 1) := by decide +kernel
theorem dX12_isSwap_23 : decode cX12_isSwap 23 = .ok (.if_icmp .le 21, 3) := by decide +kernel
theorem dX12_isSwap_26 : decode cX12_isSwap 26 = .ok (.aload_n 0, 1) := by decide +kernel
theorem dX12_isSwap_27 : decode cX12_isSwap 27 = .ok (.iload_n 2, 1) := by decide +kernel
theorem dX12_isSwap_28 : decode cX12_isSwap 28 = .ok (.invokevirtual 382, 3) := by decide +kernel
theorem dX12_isSwap_31 : decode cX12_isSwap 31 = .ok (.aload_n 0, 1) := by decide +kernel
theorem dX12_isSwap_32 : decode cX12_isSwap 32 = .ok (.getfield 64, 3) := by decide +kernel
theorem dX12_isSwap_35 : decode cX12_isSwap 35 = .ok (.iload_n 2, 1) := by decide +kernel
theorem dX12_isSwap_36 : decode cX12_isSwap 36 = .ok (.iaload, 1) := by decide +kernel
theorem dX12_isSwap_37 : decode cX12_isSwap 37 = .ok (.if_icmp .le 7, 3) := by decide +kernel
theorem dX12_isSwap_40 : decode cX12_isSwap 40 = .ok (.iconst 1, 1) := by decide +kernel
theorem dX12_isSwap_41 : decode cX12_isSwap 41 = .ok (.goto 4, 3) := by decide +kernel
theorem dX12_isSwap_44 : decode cX12_isSwap 44 = .ok (.iconst 0, 1) := by decide +kernel
theorem dX12_isSwap_45 : decode cX12_isSwap 45 = .ok (.istore 4, 2) := by decide +kernel
theorem dX12_isSwap_47 : decode cX12_isSwap 47 = .ok (.aload_n 0, 1) := by decide +kernel
theorem dX12_isSwap_48 : decode cX12_isSwap 48 = .ok (.invokevirtual 385, 3) := by decide +kernel
theorem dX12_isSwap_51 : decode cX12_isSwap 51 = .ok (.iload 4, 2) := by decide +kernel
theorem dX12_isSwap_53 : decode cX12_isSwap 53 = .ok (.ireturn, 1) := by decide +kernel
abbrev Mm_isSwap : rx_M := (RX12, yX12_isSwap, cX12_isSwap, 5, (some .boolean), 9)
theorem km_isSwap : rKv Mm_isSwap 3 := ⟨tb_in (i := 28) (j := 26) rfl rfl, tb_in (i := 28) (j := 27) rfl rfl, tb_in (i := 17) (j := 21) rfl rfl, tb_in (i := 28) (j := 24) rfl rfl, ⟨by decide, by decide, by decide +kernel⟩, by decide⟩
def m_isSwap (x1 : Int32) (x2 : Int32) (x3 : Int32) (z_sign : Nat → Int32) (z_clause : Nat → Int32) (z_clauses : Nat → Int32) (z_stack : Nat → Int64) (z_top : Int32) (z_word : Nat → Int64) (z_said : Nat → Int32) (z_force : Int32) (z_absent : Int32) (z_isRaining : Int32) (z_kept : Nat → Int32) (z_wealthThen : Nat → Int32) : Option (Int32 × (Nat → Int64) × Int32 × (Nat → Int64) × (Nat → Int32) × Int32) := (m_moves x1 x2 z_said).bind (fun q1 => (m_passesAll x3 z_sign z_clause z_clauses z_stack z_top z_word q1 z_force z_absent z_isRaining).bind (fun q2 => (m_wealthOf x1 q2.2.2.2.2.1).bind (fun q3 => rq (inb x1 6) ((if q3 ≤ (z_wealthThen x1.toNatClampNeg) then (m_laysBack q2.2.2.2.2.1 z_kept).bind (fun q6 => some ((0 : Int32), q2.2.1, q2.2.2.1, q2.2.2.2.1, q6, q2.2.2.2.2.2)) else (m_wealthOf x2 q2.2.2.2.2.1).bind (fun q7 => rq (inb x2 6) ((if q7 ≤ (z_wealthThen x2.toNatClampNeg) then (m_laysBack q2.2.2.2.2.1 z_kept).bind (fun q10 => some ((0 : Int32), q2.2.1, q2.2.2.1, q2.2.2.2.1, q10, q2.2.2.2.2.2)) else (m_laysBack q2.2.2.2.2.1 z_kept).bind (fun q11 => some ((1 : Int32), q2.2.1, q2.2.2.1, q2.2.2.2.1, q11, q2.2.2.2.2.2))))))))))
set_option maxRecDepth 20000 in
theorem cm_isSwap {q : Int32 × (Nat → Int64) × Int32 × (Nat → Int64) × (Nat → Int32) × Int32} {x1 : Int32} {x2 : Int32} {x3 : Int32} (h : m_isSwap x1 x2 x3 z_sign z_clause z_clauses z_stack z_top z_word z_said z_force z_absent z_isRaining z_kept z_wealthThen = some q) : rMet l D Z (ty7 K) Mm_isSwap [.ref (ad 0), .int x1, .int x2, .int x3] (wM K ad z_tape z_taped z_rules z_sign z_length z_clause z_clauses z_read z_next z_wrong z_number z_text z_made z_deep z_lines z_open z_opened z_stack z_top z_word z_said z_force z_x z_absent z_isRaining z_wasSaid z_undone z_kept z_order z_bestOrder z_hasBy z_wealthThen z_isFit z_tillThen z_drawX z_images z_imageForce z_imageX z_isMade) (wM K ad z_tape z_taped z_rules z_sign z_length z_clause z_clauses z_read z_next z_wrong z_number z_text z_made z_deep z_lines z_open z_opened q.2.1 q.2.2.1 q.2.2.2.1 q.2.2.2.2.1 z_force z_x z_absent q.2.2.2.2.2 z_wasSaid z_undone z_kept z_order z_bestOrder z_hasBy z_wealthThen z_isFit z_tillThen z_drawX z_images z_imageForce z_imageX z_isMade) (some (.int q.1)) := by
  refine rMet.of (by decide) rfl (Nat.le_of_ble_eq_true rfl) ?_
  refine r_sub (lv' := [(0, .ref (ad 0)), (1, .int x1), (2, .int x2), (3, .int x3)]) [0, 1, 2, 3] rfl ?_
  unfold m_isSwap at h
  refine r_aload_n 0 dX12_isSwap_0 rfl ?_
  refine r_iload_n 1 dX12_isSwap_1 rfl ?_
  refine r_iload_n 2 dX12_isSwap_2 rfl ?_
  obtain ⟨q1, h1, h⟩ := bd_some h
  refine cvM (st := []) (cm_moves h1) rfl rfl (Nat.le_of_ble_eq_true rfl) km_moves (tb_in (i := 26) (j := 15) rfl rfl) (by decide) rfl dX12_isSwap_3 ?_
  refine r_aload_n 0 dX12_isSwap_6 rfl ?_
  refine r_iload_n 3 dX12_isSwap_7 rfl ?_
  obtain ⟨q2, h2, h⟩ := bd_some h
  refine cvM (st := []) (cm_passesAll h2) rfl rfl (Nat.le_of_ble_eq_true rfl) km_passesAll (tb_in (i := 26) (j := 29) rfl rfl) (by decide) rfl dX12_isSwap_8 ?_
  refine r_pop dX12_isSwap_11 rfl ?_
  refine r_aload_n 0 dX12_isSwap_12 rfl ?_
  refine r_iload_n 1 dX12_isSwap_13 rfl ?_
  obtain ⟨q3, h3, h⟩ := bd_some h
  refine cvM (st := []) (cm_wealthOf h3) rfl rfl (Nat.le_of_ble_eq_true rfl) km_wealthOf (tb_in (i := 27) (j := 0) rfl rfl) (by decide) rfl dX12_isSwap_14 ?_
  refine r_aload_n 0 dX12_isSwap_17 rfl ?_
  refine gM_wealthThen rfl dX12_isSwap_18 ?_
  refine r_iload_n 1 dX12_isSwap_21 rfl ?_
  obtain ⟨h4, h⟩ := rq_some h
  refine lM_wealthThen (inb_in h4) dX12_isSwap_22 ?_
  refine r_icmp_le 44 dX12_isSwap_23 (by decide) (fun c5 => ?_) (fun c5 => ?_)
  · replace h := it_pos c5 h
    refine r_iconst (x := (0 : Int32)) dX12_isSwap_44 (by decide) ?_
    refine r_istore (lv' := [(4, .int (0 : Int32)), (0, .ref (ad 0)), (1, .int x1), (2, .int x2), (3, .int x3)]) dX12_isSwap_45 (by decide) rfl ?_
    refine r_aload_n 1 dX12_isSwap_47 rfl ?_
    obtain ⟨q6, h6, h⟩ := bd_some h
    refine cvM (st := []) (cm_laysBack h6) rfl rfl (Nat.le_of_ble_eq_true rfl) km_laysBack (tb_in (i := 27) (j := 3) rfl rfl) (by decide) rfl dX12_isSwap_48 ?_
    refine r_iload 0 dX12_isSwap_51 rfl ?_
    have hq := Option.some.inj h
    subst hq
    exact r_zret (ty := .boolean) rfl rfl dX12_isSwap_53
  · replace h := it_neg c5 h
    refine r_aload_n 0 dX12_isSwap_26 rfl ?_
    refine r_iload_n 2 dX12_isSwap_27 rfl ?_
    obtain ⟨q7, h7, h⟩ := bd_some h
    refine cvM (st := []) (cm_wealthOf h7) rfl rfl (Nat.le_of_ble_eq_true rfl) km_wealthOf (tb_in (i := 27) (j := 0) rfl rfl) (by decide) rfl dX12_isSwap_28 ?_
    refine r_aload_n 0 dX12_isSwap_31 rfl ?_
    refine gM_wealthThen rfl dX12_isSwap_32 ?_
    refine r_iload_n 2 dX12_isSwap_35 rfl ?_
    obtain ⟨h8, h⟩ := rq_some h
    refine lM_wealthThen (inb_in h8) dX12_isSwap_36 ?_
    refine r_icmp_le 44 dX12_isSwap_37 (by decide) (fun c9 => ?_) (fun c9 => ?_)
    · replace h := it_pos c9 h
      refine r_iconst (x := (0 : Int32)) dX12_isSwap_44 (by decide) ?_
      refine r_istore (lv' := [(4, .int (0 : Int32)), (0, .ref (ad 0)), (1, .int x1), (2, .int x2), (3, .int x3)]) dX12_isSwap_45 (by decide) rfl ?_
      refine r_aload_n 1 dX12_isSwap_47 rfl ?_
      obtain ⟨q10, h10, h⟩ := bd_some h
      refine cvM (st := []) (cm_laysBack h10) rfl rfl (Nat.le_of_ble_eq_true rfl) km_laysBack (tb_in (i := 27) (j := 3) rfl rfl) (by decide) rfl dX12_isSwap_48 ?_
      refine r_iload 0 dX12_isSwap_51 rfl ?_
      have hq := Option.some.inj h
      subst hq
      exact r_zret (ty := .boolean) rfl rfl dX12_isSwap_53
    · replace h := it_neg c9 h
      refine r_iconst (x := (1 : Int32)) dX12_isSwap_40 (by decide) ?_
      refine r_goto 45 dX12_isSwap_41 (by decide) ?_
      refine r_istore (lv' := [(4, .int (1 : Int32)), (0, .ref (ad 0)), (1, .int x1), (2, .int x2), (3, .int x3)]) dX12_isSwap_45 (by decide) rfl ?_
      refine r_aload_n 1 dX12_isSwap_47 rfl ?_
      obtain ⟨q11, h11, h⟩ := bd_some h
      refine cvM (st := []) (cm_laysBack h11) rfl rfl (Nat.le_of_ble_eq_true rfl) km_laysBack (tb_in (i := 27) (j := 3) rfl rfl) (by decide) rfl dX12_isSwap_48 ?_
      refine r_iload 0 dX12_isSwap_51 rfl ?_
      have hq := Option.some.inj h
      subst hq
      exact r_zret (ty := .boolean) rfl rfl dX12_isSwap_53
end PM4
