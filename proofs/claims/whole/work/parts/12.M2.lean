section PM2
variable {l : Launch} {D : va_G} {Z : (Nat → Nat) × (Nat → Nat)} {K : Nat → ClassId} {ad : Nat → Nat} {tys : List (ClassId × FieldType)} {ws : va_W}
variable {z_tape : Nat → Int32} {z_taped : Int32} {z_rules : Int32} {z_sign : Nat → Int32} {z_length : Nat → Int32} {z_clause : Nat → Int32} {z_clauses : Nat → Int32} {z_read : Nat → Int32} {z_next : Int32} {z_wrong : Int32} {z_number : Int32} {z_text : Int32} {z_made : Int32} {z_deep : Int32} {z_lines : Int32} {z_open : Nat → Int32} {z_opened : Int32} {z_stack : Nat → Int64} {z_top : Int32} {z_word : Nat → Int64} {z_said : Nat → Int32} {z_force : Int32} {z_x : Int32} {z_absent : Int32} {z_isRaining : Int32} {z_wasSaid : Nat → Int32} {z_undone : Int32} {z_kept : Nat → Int32} {z_order : Nat → Int32} {z_bestOrder : Nat → Int32} {z_hasBy : Nat → Int32} {z_wealthThen : Nat → Int32} {z_isFit : Nat → Int32} {z_tillThen : Nat → Int32} {z_drawX : Int64} {z_images : Nat → Int32} {z_imageForce : Nat → Int32} {z_imageX : Nat → Int32} {z_isMade : Nat → Int32}
theorem dX12_fair_0 : decode cX12_fair 0 = .ok (.aload_n 0, 1) := by decide +kernel
theorem dX12_fair_1 : decode cX12_fair 1 = .ok (.bipush 6, 2) := by decide +kernel
theorem dX12_fair_3 : decode cX12_fair 3 = .ok (.putfield 152, 3) := by decide +kernel
theorem dX12_fair_6 : decode cX12_fair 6 = .ok (.iconst 0, 1) := by decide +kernel
theorem dX12_fair_7 : decode cX12_fair 7 = .ok (.istore_n 1, 1) := by decide +kernel
theorem dX12_fair_8 : decode cX12_fair 8 = .ok (.iload_n 1, 1) := by decide +kernel
theorem dX12_fair_9 : decode cX12_fair 9 = .ok (.bipush 125, 2) := by decide +kernel
theorem dX12_fair_11 : decode cX12_fair 11 = .ok (.if_icmp .ge 16, 3) := by decide +kernel
theorem dX12_fair_14 : decode cX12_fair 14 = .ok (.aload_n 0, 1) := by decide +kernel
theorem dX12_fair_15 : decode cX12_fair 15 = .ok (.getfield 26, 3) := by decide +kernel
theorem dX12_fair_18 : decode cX12_fair 18 = .ok (.iload_n 1, 1) := by decide +kernel
theorem dX12_fair_19 : decode cX12_fair 19 = .ok (.iconst 0, 1) := by decide +kernel
theorem dX12_fair_20 : decode cX12_fair 20 = .ok (.iastore, 1) := by decide +kernel
theorem dX12_fair_21 : decode cX12_fair 21 = .ok (.iinc 1 1, 3) := by decide +kernel
theorem dX12_fair_24 : decode cX12_fair 24 = .ok (.goto (-16), 3) := by decide +kernel
theorem dX12_fair_27 : decode cX12_fair 27 = .ok (.aload_n 0, 1) := by decide +kernel
theorem dX12_fair_28 : decode cX12_fair 28 = .ok (.invokevirtual 262, 3) := by decide +kernel
theorem dX12_fair_31 : decode cX12_fair 31 = .ok (.ifCond .ne 11, 3) := by decide +kernel
theorem dX12_fair_34 : decode cX12_fair 34 = .ok (.bipush (-2), 2) := by decide +kernel
theorem dX12_fair_36 : decode cX12_fair 36 = .ok (.aload_n 0, 1) := by decide +kernel
theorem dX12_fair_37 : decode cX12_fair 37 = .ok (.getfield 93, 3) := by decide +kernel
theorem dX12_fair_40 : decode cX12_fair 40 = .ok (.isub, 1) := by decide +kernel
theorem dX12_fair_41 : decode cX12_fair 41 = .ok (.ireturn, 1) := by decide +kernel
theorem dX12_fair_42 : decode cX12_fair 42 = .ok (.iconst 0, 1) := by decide +kernel
theorem dX12_fair_43 : decode cX12_fair 43 = .ok (.istore_n 1, 1) := by decide +kernel
theorem dX12_fair_44 : decode cX12_fair 44 = .ok (.iload_n 1, 1) := by decide +kernel
theorem dX12_fair_45 : decode cX12_fair 45 = .ok (.sipush 156, 3) := by decide +kernel
theorem dX12_fair_48 : decode cX12_fair 48 = .ok (.if_icmp .ge 31, 3) := by decide +kernel
theorem dX12_fair_51 : decode cX12_fair 51 = .ok (.aload_n 0, 1) := by decide +kernel
theorem dX12_fair_52 : decode cX12_fair 52 = .ok (.getfield 39, 3) := by decide +kernel
theorem dX12_fair_55 : decode cX12_fair 55 = .ok (.iload_n 1, 1) := by decide +kernel
theorem dX12_fair_56 : decode cX12_fair 56 = .ok (.iload_n 1, 1) := by decide +kernel
theorem dX12_fair_57 : decode cX12_fair 57 = .ok (.bipush 125, 2) := by decide +kernel
theorem dX12_fair_59 : decode cX12_fair 59 = .ok (.if_icmp .ge 12, 3) := by decide +kernel
theorem dX12_fair_62 : decode cX12_fair 62 = .ok (.aload_n 0, 1) := by decide +kernel
theorem dX12_fair_63 : decode cX12_fair 63 = .ok (.getfield 26, 3) := by decide +kernel
theorem dX12_fair_66 : decode cX12_fair 66 = .ok (.iload_n 1, 1) := by decide +kernel
theorem dX12_fair_67 : decode cX12_fair 67 = .ok (.iaload, 1) := by decide +kernel
theorem dX12_fair_68 : decode cX12_fair 68 = .ok (.goto 4, 3) := by decide +kernel
theorem dX12_fair_71 : decode cX12_fair 71 = .ok (.iconst 0, 1) := by decide +kernel
theorem dX12_fair_72 : decode cX12_fair 72 = .ok (.iastore, 1) := by decide +kernel
theorem dX12_fair_73 : decode cX12_fair 73 = .ok (.iinc 1 1, 3) := by decide +kernel
theorem dX12_fair_76 : decode cX12_fair 76 = .ok (.goto (-32), 3) := by decide +kernel
theorem dX12_fair_79 : decode cX12_fair 79 = .ok (.aload_n 0, 1) := by decide +kernel
theorem dX12_fair_80 : decode cX12_fair 80 = .ok (.invokevirtual 265, 3) := by decide +kernel
theorem dX12_fair_83 : decode cX12_fair 83 = .ok (.aload_n 0, 1) := by decide +kernel
theorem dX12_fair_84 : decode cX12_fair 84 = .ok (.iconst 0, 1) := by decide +kernel
theorem dX12_fair_85 : decode cX12_fair 85 = .ok (.putfield 268, 3) := by decide +kernel
theorem dX12_fair_88 : decode cX12_fair 88 = .ok (.aload_n 0, 1) := by decide +kernel
theorem dX12_fair_89 : decode cX12_fair 89 = .ok (.getfield 39, 3) := by decide +kernel
theorem dX12_fair_92 : decode cX12_fair 92 = .ok (.iconst 3, 1) := by decide +kernel
theorem dX12_fair_93 : decode cX12_fair 93 = .ok (.iaload, 1) := by decide +kernel
theorem dX12_fair_94 : decode cX12_fair 94 = .ok (.ireturn, 1) := by decide +kernel
abbrev Mm_fair : rx_M := (RX12, yX12_fair, cX12_fair, 2, (some .int), 13)
theorem km_fair : rKv Mm_fair 0 := ⟨tb_in (i := 31) (j := 0) rfl rfl, tb_in (i := 31) (j := 1) rfl rfl, tb_in (i := 17) (j := 21) rfl rfl, tb_in (i := 22) (j := 26) rfl rfl, ⟨by decide, by decide, by decide +kernel⟩, by decide⟩
def m_fair_l44 (z_tape : Nat → Int32) (z_taped : Int32) (z_sign : Nat → Int32) (z_length : Nat → Int32) (z_clause : Nat → Int32) (z_clauses : Nat → Int32) (z_read : Nat → Int32) (z_next : Int32) (z_wrong : Int32) (z_number : Int32) (z_text : Int32) (z_made : Int32) (z_deep : Int32) (z_lines : Int32) (z_open : Nat → Int32) (z_opened : Int32) (z_undone : Int32) : Nat → Int32 → (Nat → Int32) → Option (Int32 × Int32 × (Nat → Int32) × (Nat → Int32) × (Nat → Int32) × (Nat → Int32) × (Nat → Int32) × Int32 × Int32 × Int32 × Int32 × Int32 × Int32 × Int32 × (Nat → Int32) × Int32 × (Nat → Int32) × Int32)
  | 0, _, _ => none
  | n + 1, x1, z_said => (if (156 : Int32) ≤ x1 then (m_begins z_said).bind (fun q5 => rq (inb (3 : Int32) 156) (some ((q5 (3 : Int32).toNatClampNeg), z_taped, z_sign, z_length, z_clause, z_clauses, z_read, z_next, z_wrong, z_number, z_text, z_made, z_deep, z_lines, z_open, z_opened, q5, (0 : Int32)))) else (if (125 : Int32) ≤ x1 then rq (inb x1 156) (lt (upd z_said x1.toNatClampNeg (0 : Int32)) (fun u8 => m_fair_l44 z_tape z_taped z_sign z_length z_clause z_clauses z_read z_next z_wrong z_number z_text z_made z_deep z_lines z_open z_opened z_undone n (x1 + (1 : Int32)) u8)) else rq (inb x1 125) (rq (inb x1 156) (lt (upd z_said x1.toNatClampNeg (z_read x1.toNatClampNeg)) (fun u10 => m_fair_l44 z_tape z_taped z_sign z_length z_clause z_clauses z_read z_next z_wrong z_number z_text z_made z_deep z_lines z_open z_opened z_undone n (x1 + (1 : Int32)) u10)))))
set_option maxRecDepth 20000 in
theorem cm_fair_l44 {q : Int32 × Int32 × (Nat → Int32) × (Nat → Int32) × (Nat → Int32) × (Nat → Int32) × (Nat → Int32) × Int32 × Int32 × Int32 × Int32 × Int32 × Int32 × Int32 × (Nat → Int32) × Int32 × (Nat → Int32) × Int32}   : ∀ (n : Nat) (x1 : Int32) (z_said : Nat → Int32), m_fair_l44 z_tape z_taped z_sign z_length z_clause z_clauses z_read z_next z_wrong z_number z_text z_made z_deep z_lines z_open z_opened z_undone n x1 z_said = some q → rW l D Z (ty7 K) Mm_fair 44 [(0, .ref (ad 0)), (1, .int x1)] [] (wM K ad z_tape z_taped z_rules z_sign z_length z_clause z_clauses z_read z_next z_wrong z_number z_text z_made z_deep z_lines z_open z_opened z_stack z_top z_word z_said z_force z_x z_absent z_isRaining z_wasSaid z_undone z_kept z_order z_bestOrder z_hasBy z_wealthThen z_isFit z_tillThen z_drawX z_images z_imageForce z_imageX z_isMade) (wM K ad z_tape q.2.1 z_rules q.2.2.1 q.2.2.2.1 q.2.2.2.2.1 q.2.2.2.2.2.1 q.2.2.2.2.2.2.1 q.2.2.2.2.2.2.2.1 q.2.2.2.2.2.2.2.2.1 q.2.2.2.2.2.2.2.2.2.1 q.2.2.2.2.2.2.2.2.2.2.1 q.2.2.2.2.2.2.2.2.2.2.2.1 q.2.2.2.2.2.2.2.2.2.2.2.2.1 q.2.2.2.2.2.2.2.2.2.2.2.2.2.1 q.2.2.2.2.2.2.2.2.2.2.2.2.2.2.1 q.2.2.2.2.2.2.2.2.2.2.2.2.2.2.2.1 z_stack z_top z_word q.2.2.2.2.2.2.2.2.2.2.2.2.2.2.2.2.1 z_force z_x z_absent z_isRaining z_wasSaid q.2.2.2.2.2.2.2.2.2.2.2.2.2.2.2.2.2 z_kept z_order z_bestOrder z_hasBy z_wealthThen z_isFit z_tillThen z_drawX z_images z_imageForce z_imageX z_isMade) (some (.int q.1)) := by
  intro n
  induction n with
  | zero => intro x1 z_said h; unfold m_fair_l44 at h; cases h
  | succ n ih =>
    intro x1 z_said h
    unfold m_fair_l44 at h
    refine r_iload_n 1 dX12_fair_44 rfl ?_
    refine r_sipush (x := (156 : Int32)) dX12_fair_45 (by decide) ?_
    refine r_icmp_ge 79 dX12_fair_48 (by decide) (fun c4 => ?_) (fun c4 => ?_)
    · replace h := it_pos c4 h
      refine r_aload_n 0 dX12_fair_79 rfl ?_
      obtain ⟨q5, h5, h⟩ := bd_some h
      refine cvM (st := []) (cm_begins h5) rfl rfl (Nat.le_of_ble_eq_true rfl) km_begins (tb_in (i := 22) (j := 23) rfl rfl) (by decide) rfl dX12_fair_80 ?_
      refine r_aload_n 0 dX12_fair_83 rfl ?_
      refine r_iconst (x := (0 : Int32)) dX12_fair_84 (by decide) ?_
      refine pM_undone rfl dX12_fair_85 ?_
      refine r_aload_n 0 dX12_fair_88 rfl ?_
      refine gM_said rfl dX12_fair_89 ?_
      refine r_iconst (x := (3 : Int32)) dX12_fair_92 (by decide) ?_
      obtain ⟨h6, h⟩ := rq_some h
      refine lM_said (inb_in h6) dX12_fair_93 ?_
      have hq := Option.some.inj h
      subst hq
      exact r_iret rfl dX12_fair_94
    · replace h := it_neg c4 h
      refine r_aload_n 0 dX12_fair_51 rfl ?_
      refine gM_said rfl dX12_fair_52 ?_
      refine r_iload_n 1 dX12_fair_55 rfl ?_
      refine r_iload_n 1 dX12_fair_56 rfl ?_
      refine r_bipush (x := (125 : Int32)) dX12_fair_57 (by decide) ?_
      refine r_icmp_ge 71 dX12_fair_59 (by decide) (fun c7 => ?_) (fun c7 => ?_)
      · replace h := it_pos c7 h
        refine r_iconst (x := (0 : Int32)) dX12_fair_71 (by decide) ?_
        obtain ⟨h8, h⟩ := rq_some h
        obtain ⟨u8, e8, h⟩ := lt_some h
        refine sM_said e8 (inb_in h8) dX12_fair_72 ?_
        refine r_iinc (y := (x1 + (1 : Int32))) (lv' := [(1, .int (x1 + (1 : Int32))), (0, .ref (ad 0))]) 1 dX12_fair_73 rfl rfl (by decide) rfl ?_
        refine r_goto 44 dX12_fair_76 (by decide) ?_
        refine r_sub (lv' := [(0, .ref (ad 0)), (1, .int (x1 + (1 : Int32)))]) [1, 0] rfl ?_
        exact ih _ _ h
      · replace h := it_neg c7 h
        refine r_aload_n 0 dX12_fair_62 rfl ?_
        refine gM_read rfl dX12_fair_63 ?_
        refine r_iload_n 1 dX12_fair_66 rfl ?_
        obtain ⟨h9, h⟩ := rq_some h
        refine lM_read (inb_in h9) dX12_fair_67 ?_
        refine r_goto 72 dX12_fair_68 (by decide) ?_
        obtain ⟨h10, h⟩ := rq_some h
        obtain ⟨u10, e10, h⟩ := lt_some h
        refine sM_said e10 (inb_in h10) dX12_fair_72 ?_
        refine r_iinc (y := (x1 + (1 : Int32))) (lv' := [(1, .int (x1 + (1 : Int32))), (0, .ref (ad 0))]) 1 dX12_fair_73 rfl rfl (by decide) rfl ?_
        refine r_goto 44 dX12_fair_76 (by decide) ?_
        refine r_sub (lv' := [(0, .ref (ad 0)), (1, .int (x1 + (1 : Int32)))]) [1, 0] rfl ?_
        exact ih _ _ h
def m_fair_l8 (z_tape : Nat → Int32) (z_taped : Int32) (z_sign : Nat → Int32) (z_length : Nat → Int32) (z_clause : Nat → Int32) (z_clauses : Nat → Int32) (z_next : Int32) (z_wrong : Int32) (z_number : Int32) (z_text : Int32) (z_made : Int32) (z_deep : Int32) (z_lines : Int32) (z_open : Nat → Int32) (z_opened : Int32) (z_said : Nat → Int32) (z_undone : Int32) : Nat → Int32 → (Nat → Int32) → Option (Int32 × Int32 × (Nat → Int32) × (Nat → Int32) × (Nat → Int32) × (Nat → Int32) × (Nat → Int32) × Int32 × Int32 × Int32 × Int32 × Int32 × Int32 × Int32 × (Nat → Int32) × Int32 × (Nat → Int32) × Int32)
  | 0, _, _ => none
  | n + 1, x1, z_read => (if (125 : Int32) ≤ x1 then (m_readsAll z_tape z_taped z_sign z_length z_clause z_clauses z_read z_next z_wrong z_number z_text z_made z_deep z_lines z_open z_opened).bind (fun q2 => (if q2.1 = 0 then some (((-2 : Int32) - q2.2.2.2.2.2.2.2.2.1), q2.2.1, q2.2.2.1, q2.2.2.2.1, q2.2.2.2.2.1, q2.2.2.2.2.2.1, q2.2.2.2.2.2.2.1, q2.2.2.2.2.2.2.2.1, q2.2.2.2.2.2.2.2.2.1, q2.2.2.2.2.2.2.2.2.2.1, z_text, q2.2.2.2.2.2.2.2.2.2.2.1, q2.2.2.2.2.2.2.2.2.2.2.2.1, q2.2.2.2.2.2.2.2.2.2.2.2.2.1, q2.2.2.2.2.2.2.2.2.2.2.2.2.2.1, q2.2.2.2.2.2.2.2.2.2.2.2.2.2.2, z_said, z_undone) else m_fair_l44 z_tape q2.2.1 q2.2.2.1 q2.2.2.2.1 q2.2.2.2.2.1 q2.2.2.2.2.2.1 q2.2.2.2.2.2.2.1 q2.2.2.2.2.2.2.2.1 q2.2.2.2.2.2.2.2.2.1 q2.2.2.2.2.2.2.2.2.2.1 z_text q2.2.2.2.2.2.2.2.2.2.2.1 q2.2.2.2.2.2.2.2.2.2.2.2.1 q2.2.2.2.2.2.2.2.2.2.2.2.2.1 q2.2.2.2.2.2.2.2.2.2.2.2.2.2.1 q2.2.2.2.2.2.2.2.2.2.2.2.2.2.2 z_undone FU (0 : Int32) z_said)) else rq (inb x1 125) (lt (upd z_read x1.toNatClampNeg (0 : Int32)) (fun u11 => m_fair_l8 z_tape z_taped z_sign z_length z_clause z_clauses z_next z_wrong z_number z_text z_made z_deep z_lines z_open z_opened z_said z_undone n (x1 + (1 : Int32)) u11)))
set_option maxRecDepth 20000 in
theorem cm_fair_l8 {q : Int32 × Int32 × (Nat → Int32) × (Nat → Int32) × (Nat → Int32) × (Nat → Int32) × (Nat → Int32) × Int32 × Int32 × Int32 × Int32 × Int32 × Int32 × Int32 × (Nat → Int32) × Int32 × (Nat → Int32) × Int32}   : ∀ (n : Nat) (x1 : Int32) (z_read : Nat → Int32), m_fair_l8 z_tape z_taped z_sign z_length z_clause z_clauses z_next z_wrong z_number z_text z_made z_deep z_lines z_open z_opened z_said z_undone n x1 z_read = some q → rW l D Z (ty7 K) Mm_fair 8 [(0, .ref (ad 0)), (1, .int x1)] [] (wM K ad z_tape z_taped z_rules z_sign z_length z_clause z_clauses z_read z_next z_wrong z_number z_text z_made z_deep z_lines z_open z_opened z_stack z_top z_word z_said z_force z_x z_absent z_isRaining z_wasSaid z_undone z_kept z_order z_bestOrder z_hasBy z_wealthThen z_isFit z_tillThen z_drawX z_images z_imageForce z_imageX z_isMade) (wM K ad z_tape q.2.1 z_rules q.2.2.1 q.2.2.2.1 q.2.2.2.2.1 q.2.2.2.2.2.1 q.2.2.2.2.2.2.1 q.2.2.2.2.2.2.2.1 q.2.2.2.2.2.2.2.2.1 q.2.2.2.2.2.2.2.2.2.1 q.2.2.2.2.2.2.2.2.2.2.1 q.2.2.2.2.2.2.2.2.2.2.2.1 q.2.2.2.2.2.2.2.2.2.2.2.2.1 q.2.2.2.2.2.2.2.2.2.2.2.2.2.1 q.2.2.2.2.2.2.2.2.2.2.2.2.2.2.1 q.2.2.2.2.2.2.2.2.2.2.2.2.2.2.2.1 z_stack z_top z_word q.2.2.2.2.2.2.2.2.2.2.2.2.2.2.2.2.1 z_force z_x z_absent z_isRaining z_wasSaid q.2.2.2.2.2.2.2.2.2.2.2.2.2.2.2.2.2 z_kept z_order z_bestOrder z_hasBy z_wealthThen z_isFit z_tillThen z_drawX z_images z_imageForce z_imageX z_isMade) (some (.int q.1)) := by
  intro n
  induction n with
  | zero => intro x1 z_read h; unfold m_fair_l8 at h; cases h
  | succ n ih =>
    intro x1 z_read h
    unfold m_fair_l8 at h
    refine r_iload_n 1 dX12_fair_8 rfl ?_
    refine r_bipush (x := (125 : Int32)) dX12_fair_9 (by decide) ?_
    refine r_icmp_ge 27 dX12_fair_11 (by decide) (fun c1 => ?_) (fun c1 => ?_)
    · replace h := it_pos c1 h
      refine r_aload_n 0 dX12_fair_27 rfl ?_
      obtain ⟨q2, h2, h⟩ := bd_some h
      refine cvM (st := []) (cm_readsAll h2) rfl rfl (Nat.le_of_ble_eq_true rfl) km_readsAll (tb_in (i := 22) (j := 17) rfl rfl) (by decide) rfl dX12_fair_28 ?_
      refine r_if_ne 42 dX12_fair_31 (by decide) (fun c3 => ?_) (fun c3 => ?_)
      · replace h := it_neg c3 h
        refine r_iconst (x := (0 : Int32)) dX12_fair_42 (by decide) ?_
        refine r_istore_n (lv' := [(1, .int (0 : Int32)), (0, .ref (ad 0))]) dX12_fair_43 (by decide) rfl ?_
        refine r_sub (lv' := [(0, .ref (ad 0)), (1, .int (0 : Int32))]) [1, 0] rfl ?_
        exact cm_fair_l44  FU _ _ h
      · replace h := it_pos c3 h
        refine r_bipush (x := (-2 : Int32)) dX12_fair_34 (by decide) ?_
        refine r_aload_n 0 dX12_fair_36 rfl ?_
        refine gM_wrong rfl dX12_fair_37 ?_
        refine r_isub dX12_fair_40 ?_
        have hq := Option.some.inj h
        subst hq
        exact r_iret rfl dX12_fair_41
    · replace h := it_neg c1 h
      refine r_aload_n 0 dX12_fair_14 rfl ?_
      refine gM_read rfl dX12_fair_15 ?_
      refine r_iload_n 1 dX12_fair_18 rfl ?_
      refine r_iconst (x := (0 : Int32)) dX12_fair_19 (by decide) ?_
      obtain ⟨h11, h⟩ := rq_some h
      obtain ⟨u11, e11, h⟩ := lt_some h
      refine sM_read e11 (inb_in h11) dX12_fair_20 ?_
      refine r_iinc (y := (x1 + (1 : Int32))) (lv' := [(1, .int (x1 + (1 : Int32))), (0, .ref (ad 0))]) 1 dX12_fair_21 rfl rfl (by decide) rfl ?_
      refine r_goto 8 dX12_fair_24 (by decide) ?_
      refine r_sub (lv' := [(0, .ref (ad 0)), (1, .int (x1 + (1 : Int32)))]) [1, 0] rfl ?_
      exact ih _ _ h
def m_fair (z_tape : Nat → Int32) (z_taped : Int32) (z_sign : Nat → Int32) (z_length : Nat → Int32) (z_clause : Nat → Int32) (z_clauses : Nat → Int32) (z_read : Nat → Int32) (z_next : Int32) (z_wrong : Int32) (z_number : Int32) (z_text : Int32) (z_made : Int32) (z_deep : Int32) (z_lines : Int32) (z_open : Nat → Int32) (z_opened : Int32) (z_said : Nat → Int32) (z_undone : Int32) : Option (Int32 × Int32 × (Nat → Int32) × (Nat → Int32) × (Nat → Int32) × (Nat → Int32) × (Nat → Int32) × Int32 × Int32 × Int32 × Int32 × Int32 × Int32 × Int32 × (Nat → Int32) × Int32 × (Nat → Int32) × Int32) := m_fair_l8 z_tape z_taped z_sign z_length z_clause z_clauses z_next z_wrong z_number (6 : Int32) z_made z_deep z_lines z_open z_opened z_said z_undone FU (0 : Int32) z_read
set_option maxRecDepth 20000 in
theorem cm_fair {q : Int32 × Int32 × (Nat → Int32) × (Nat → Int32) × (Nat → Int32) × (Nat → Int32) × (Nat → Int32) × Int32 × Int32 × Int32 × Int32 × Int32 × Int32 × Int32 × (Nat → Int32) × Int32 × (Nat → Int32) × Int32}  (h : m_fair z_tape z_taped z_sign z_length z_clause z_clauses z_read z_next z_wrong z_number z_text z_made z_deep z_lines z_open z_opened z_said z_undone = some q) : rMet l D Z (ty7 K) Mm_fair [.ref (ad 0)] (wM K ad z_tape z_taped z_rules z_sign z_length z_clause z_clauses z_read z_next z_wrong z_number z_text z_made z_deep z_lines z_open z_opened z_stack z_top z_word z_said z_force z_x z_absent z_isRaining z_wasSaid z_undone z_kept z_order z_bestOrder z_hasBy z_wealthThen z_isFit z_tillThen z_drawX z_images z_imageForce z_imageX z_isMade) (wM K ad z_tape q.2.1 z_rules q.2.2.1 q.2.2.2.1 q.2.2.2.2.1 q.2.2.2.2.2.1 q.2.2.2.2.2.2.1 q.2.2.2.2.2.2.2.1 q.2.2.2.2.2.2.2.2.1 q.2.2.2.2.2.2.2.2.2.1 q.2.2.2.2.2.2.2.2.2.2.1 q.2.2.2.2.2.2.2.2.2.2.2.1 q.2.2.2.2.2.2.2.2.2.2.2.2.1 q.2.2.2.2.2.2.2.2.2.2.2.2.2.1 q.2.2.2.2.2.2.2.2.2.2.2.2.2.2.1 q.2.2.2.2.2.2.2.2.2.2.2.2.2.2.2.1 z_stack z_top z_word q.2.2.2.2.2.2.2.2.2.2.2.2.2.2.2.2.1 z_force z_x z_absent z_isRaining z_wasSaid q.2.2.2.2.2.2.2.2.2.2.2.2.2.2.2.2.2 z_kept z_order z_bestOrder z_hasBy z_wealthThen z_isFit z_tillThen z_drawX z_images z_imageForce z_imageX z_isMade) (some (.int q.1)) := by
  refine rMet.of (by decide) rfl (Nat.le_of_ble_eq_true rfl) ?_
  refine r_sub (lv' := [(0, .ref (ad 0))]) [0] rfl ?_
  unfold m_fair at h
  refine r_aload_n 0 dX12_fair_0 rfl ?_
  refine r_bipush (x := (6 : Int32)) dX12_fair_1 (by decide) ?_
  refine pM_text rfl dX12_fair_3 ?_
  refine r_iconst (x := (0 : Int32)) dX12_fair_6 (by decide) ?_
  refine r_istore_n (lv' := [(1, .int (0 : Int32)), (0, .ref (ad 0))]) dX12_fair_7 (by decide) rfl ?_
  refine r_sub (lv' := [(0, .ref (ad 0)), (1, .int (0 : Int32))]) [1, 0] rfl ?_
  exact cm_fair_l8  FU _ _ h
theorem dX12_isRule_0 : decode cX12_isRule 0 = .ok (.iload_n 1, 1) := by decide +kernel
theorem dX12_isRule_1 : decode cX12_isRule 1 = .ok (.ifCond .lt 15, 3) := by decide +kernel
theorem dX12_isRule_4 : decode cX12_isRule 4 = .ok (.iload_n 1, 1) := by decide +kernel
theorem dX12_isRule_5 : decode cX12_isRule 5 = .ok (.aload_n 0, 1) := by decide +kernel
theorem dX12_isRule_6 : decode cX12_isRule 6 = .ok (.getfield 259, 3) := by decide +kernel
theorem dX12_isRule_9 : decode cX12_isRule 9 = .ok (.if_icmp .ge 7, 3) := by decide +kernel
theorem dX12_isRule_12 : decode cX12_isRule 12 = .ok (.iconst 1, 1) := by decide +kernel
theorem dX12_isRule_13 : decode cX12_isRule 13 = .ok (.goto 4, 3) := by decide +kernel
theorem dX12_isRule_16 : decode cX12_isRule 16 = .ok (.iconst 0, 1) := by decide +kernel
theorem dX12_isRule_17 : decode cX12_isRule 17 = .ok (.ireturn, 1) := by decide +kernel
abbrev Mm_isRule : rx_M := (RX12, yX12_isRule, cX12_isRule, 2, (some .boolean), 1)
theorem km_isRule : rKv Mm_isRule 1 := ⟨tb_in (i := 24) (j := 13) rfl rfl, tb_in (i := 24) (j := 14) rfl rfl, tb_in (i := 17) (j := 21) rfl rfl, tb_in (i := 22) (j := 27) rfl rfl, ⟨by decide, by decide, by decide +kernel⟩, by decide⟩
def m_isRule (x1 : Int32) (z_rules : Int32) : Option (Int32) := (if x1 < 0 then some ((0 : Int32)) else (if z_rules ≤ x1 then some ((0 : Int32)) else some ((1 : Int32))))
set_option maxRecDepth 20000 in
theorem cm_isRule {q : Int32} {x1 : Int32} (h : m_isRule x1 z_rules = some q) : rMet l D Z (ty7 K) Mm_isRule [.ref (ad 0), .int x1] (wM K ad z_tape z_taped z_rules z_sign z_length z_clause z_clauses z_read z_next z_wrong z_number z_text z_made z_deep z_lines z_open z_opened z_stack z_top z_word z_said z_force z_x z_absent z_isRaining z_wasSaid z_undone z_kept z_order z_bestOrder z_hasBy z_wealthThen z_isFit z_tillThen z_drawX z_images z_imageForce z_imageX z_isMade) (wM K ad z_tape z_taped z_rules z_sign z_length z_clause z_clauses z_read z_next z_wrong z_number z_text z_made z_deep z_lines z_open z_opened z_stack z_top z_word z_said z_force z_x z_absent z_isRaining z_wasSaid z_undone z_kept z_order z_bestOrder z_hasBy z_wealthThen z_isFit z_tillThen z_drawX z_images z_imageForce z_imageX z_isMade) (some (.int q)) := by
  refine rMet.of (by decide) rfl (Nat.le_of_ble_eq_true rfl) ?_
  refine r_sub (lv' := [(0, .ref (ad 0)), (1, .int x1)]) [0, 1] rfl ?_
  unfold m_isRule at h
  refine r_iload_n 1 dX12_isRule_0 rfl ?_
  refine r_if_lt 16 dX12_isRule_1 (by decide) (fun c1 => ?_) (fun c1 => ?_)
  · replace h := it_pos c1 h
    refine r_iconst (x := (0 : Int32)) dX12_isRule_16 (by decide) ?_
    have hq := Option.some.inj h
    subst hq
    exact r_zret (ty := .boolean) rfl rfl dX12_isRule_17
  · replace h := it_neg c1 h
    refine r_iload_n 1 dX12_isRule_4 rfl ?_
    refine r_aload_n 0 dX12_isRule_5 rfl ?_
    refine gM_rules rfl dX12_isRule_6 ?_
    refine r_icmp_ge 16 dX12_isRule_9 (by decide) (fun c2 => ?_) (fun c2 => ?_)
    · replace h := it_pos c2 h
      refine r_iconst (x := (0 : Int32)) dX12_isRule_16 (by decide) ?_
      have hq := Option.some.inj h
      subst hq
      exact r_zret (ty := .boolean) rfl rfl dX12_isRule_17
    · replace h := it_neg c2 h
      refine r_iconst (x := (1 : Int32)) dX12_isRule_12 (by decide) ?_
      refine r_goto 17 dX12_isRule_13 (by decide) ?_
      have hq := Option.some.inj h
      subst hq
      exact r_zret (ty := .boolean) rfl rfl dX12_isRule_17
theorem dX12_push_0 : decode cX12_push 0 = .ok (.aload_n 0, 1) := by decide +kernel
theorem dX12_push_1 : decode cX12_push 1 = .ok (.getfield 32, 3) := by decide +kernel
theorem dX12_push_4 : decode cX12_push 4 = .ok (.aload_n 0, 1) := by decide +kernel
theorem dX12_push_5 : decode cX12_push 5 = .ok (.getfield 271, 3) := by decide +kernel
theorem dX12_push_8 : decode cX12_push 8 = .ok (.lload_n 1, 1) := by decide +kernel
theorem dX12_push_9 : decode cX12_push 9 = .ok (.lastore, 1) := by decide +kernel
theorem dX12_push_10 : decode cX12_push 10 = .ok (.aload_n 0, 1) := by decide +kernel
theorem dX12_push_11 : decode cX12_push 11 = .ok (.dup, 1) := by decide +kernel
theorem dX12_push_12 : decode cX12_push 12 = .ok (.getfield 271, 3) := by decide +kernel
theorem dX12_push_15 : decode cX12_push 15 = .ok (.iconst 1, 1) := by decide +kernel
theorem dX12_push_16 : decode cX12_push 16 = .ok (.iadd, 1) := by decide +kernel
theorem dX12_push_17 : decode cX12_push 17 = .ok (.putfield 271, 3) := by decide +kernel
theorem dX12_push_20 : decode cX12_push 20 = .ok (.return_, 1) := by decide +kernel
abbrev Mm_push : rx_M := (RX12, yX12_push, cX12_push, 3, none, 1)
theorem km_push : rKv Mm_push 1 := ⟨tb_in (i := 23) (j := 2) rfl rfl, tb_in (i := 23) (j := 3) rfl rfl, tb_in (i := 17) (j := 21) rfl rfl, tb_in (i := 22) (j := 28) rfl rfl, ⟨by decide, by decide, by decide +kernel⟩, by decide⟩
def m_push (x1 : Int64) (z_stack : Nat → Int64) (z_top : Int32) : Option ((Nat → Int64) × Int32) := rq (inb z_top 64) (lt (vp_updL z_stack z_top.toNatClampNeg x1) (fun u1 => lt (z_top + (1 : Int32)) (fun y2 => some (u1, y2))))
set_option maxRecDepth 20000 in
theorem cm_push {q : (Nat → Int64) × Int32} {x1 : Int64} (h : m_push x1 z_stack z_top = some q) : rMet l D Z (ty7 K) Mm_push [.ref (ad 0), .long x1] (wM K ad z_tape z_taped z_rules z_sign z_length z_clause z_clauses z_read z_next z_wrong z_number z_text z_made z_deep z_lines z_open z_opened z_stack z_top z_word z_said z_force z_x z_absent z_isRaining z_wasSaid z_undone z_kept z_order z_bestOrder z_hasBy z_wealthThen z_isFit z_tillThen z_drawX z_images z_imageForce z_imageX z_isMade) (wM K ad z_tape z_taped z_rules z_sign z_length z_clause z_clauses z_read z_next z_wrong z_number z_text z_made z_deep z_lines z_open z_opened q.1 q.2 z_word z_said z_force z_x z_absent z_isRaining z_wasSaid z_undone z_kept z_order z_bestOrder z_hasBy z_wealthThen z_isFit z_tillThen z_drawX z_images z_imageForce z_imageX z_isMade) none := by
  refine rMet.of (by decide) rfl (Nat.le_of_ble_eq_true rfl) ?_
  refine r_sub (lv' := [(0, .ref (ad 0)), (1, .long x1)]) [0, 1] rfl ?_
  unfold m_push at h
  refine r_aload_n 0 dX12_push_0 rfl ?_
  refine gM_stack rfl dX12_push_1 ?_
  refine r_aload_n 0 dX12_push_4 rfl ?_
  refine gM_top rfl dX12_push_5 ?_
  refine r_lload_n 1 dX12_push_8 rfl ?_
  obtain ⟨h1, h⟩ := rq_some h
  obtain ⟨u1, e1, h⟩ := lt_some h
  refine sM_stack e1 (inb_in h1) dX12_push_9 ?_
  refine r_aload_n 0 dX12_push_10 rfl ?_
  refine r_dup dX12_push_11 rfl ?_
  refine gM_top rfl dX12_push_12 ?_
  refine r_iconst (x := (1 : Int32)) dX12_push_15 (by decide) ?_
  refine r_iadd dX12_push_16 ?_
  obtain ⟨y2, e2, h⟩ := lt_some h
  refine r_top e2 ?_
  refine pM_top rfl dX12_push_17 ?_
  have hq := Option.some.inj h
  subst hq
  exact r_vret rfl dX12_push_20
theorem dX12_pop_0 : decode cX12_pop 0 = .ok (.aload_n 0, 1) := by decide +kernel
theorem dX12_pop_1 : decode cX12_pop 1 = .ok (.dup, 1) := by decide +kernel
theorem dX12_pop_2 : decode cX12_pop 2 = .ok (.getfield 271, 3) := by decide +kernel
theorem dX12_pop_5 : decode cX12_pop 5 = .ok (.iconst 1, 1) := by decide +kernel
theorem dX12_pop_6 : decode cX12_pop 6 = .ok (.isub, 1) := by decide +kernel
theorem dX12_pop_7 : decode cX12_pop 7 = .ok (.putfield 271, 3) := by decide +kernel
theorem dX12_pop_10 : decode cX12_pop 10 = .ok (.aload_n 0, 1) := by decide +kernel
theorem dX12_pop_11 : decode cX12_pop 11 = .ok (.getfield 32, 3) := by decide +kernel
theorem dX12_pop_14 : decode cX12_pop 14 = .ok (.aload_n 0, 1) := by decide +kernel
theorem dX12_pop_15 : decode cX12_pop 15 = .ok (.getfield 271, 3) := by decide +kernel
theorem dX12_pop_18 : decode cX12_pop 18 = .ok (.laload, 1) := by decide +kernel
theorem dX12_pop_19 : decode cX12_pop 19 = .ok (.lreturn, 1) := by decide +kernel
abbrev Mm_pop : rx_M := (RX12, yX12_pop, cX12_pop, 1, (some .long), 1)
theorem km_pop : rKv Mm_pop 0 := ⟨tb_in (i := 23) (j := 5) rfl rfl, tb_in (i := 23) (j := 6) rfl rfl, tb_in (i := 17) (j := 21) rfl rfl, tb_in (i := 22) (j := 30) rfl rfl, ⟨by decide, by decide, by decide +kernel⟩, by decide⟩
def m_pop (z_stack : Nat → Int64) (z_top : Int32) : Option (Int64 × Int32) := lt (z_top - (1 : Int32)) (fun y1 => rq (inb y1 64) (some ((z_stack y1.toNatClampNeg), y1)))
set_option maxRecDepth 20000 in
theorem cm_pop {q : Int64 × Int32}  (h : m_pop z_stack z_top = some q) : rMet l D Z (ty7 K) Mm_pop [.ref (ad 0)] (wM K ad z_tape z_taped z_rules z_sign z_length z_clause z_clauses z_read z_next z_wrong z_number z_text z_made z_deep z_lines z_open z_opened z_stack z_top z_word z_said z_force z_x z_absent z_isRaining z_wasSaid z_undone z_kept z_order z_bestOrder z_hasBy z_wealthThen z_isFit z_tillThen z_drawX z_images z_imageForce z_imageX z_isMade) (wM K ad z_tape z_taped z_rules z_sign z_length z_clause z_clauses z_read z_next z_wrong z_number z_text z_made z_deep z_lines z_open z_opened z_stack q.2 z_word z_said z_force z_x z_absent z_isRaining z_wasSaid z_undone z_kept z_order z_bestOrder z_hasBy z_wealthThen z_isFit z_tillThen z_drawX z_images z_imageForce z_imageX z_isMade) (some (.long q.1)) := by
  refine rMet.of (by decide) rfl (Nat.le_of_ble_eq_true rfl) ?_
  refine r_sub (lv' := [(0, .ref (ad 0))]) [0] rfl ?_
  unfold m_pop at h
  refine r_aload_n 0 dX12_pop_0 rfl ?_
  refine r_dup dX12_pop_1 rfl ?_
  refine gM_top rfl dX12_pop_2 ?_
  refine r_iconst (x := (1 : Int32)) dX12_pop_5 (by decide) ?_
  refine r_isub dX12_pop_6 ?_
  obtain ⟨y1, e1, h⟩ := lt_some h
  refine r_top e1 ?_
  refine pM_top rfl dX12_pop_7 ?_
  refine r_aload_n 0 dX12_pop_10 rfl ?_
  refine gM_stack rfl dX12_pop_11 ?_
  refine r_aload_n 0 dX12_pop_14 rfl ?_
  refine gM_top rfl dX12_pop_15 ?_
  obtain ⟨h2, h⟩ := rq_some h
  refine lM_stack (inb_in h2) dX12_pop_18 ?_
  have hq := Option.some.inj h
  subst hq
  exact r_lret rfl dX12_pop_19
theorem dX12_one_0 : decode cX12_one 0 = .ok (.iload_n 0, 1) := by decide +kernel
theorem dX12_one_1 : decode cX12_one 1 = .ok (.tableswitch 171 2 14 #[67, 71, 75, 79, 107, 119, 131, 143, 155, 171, 167, 171, 93], 67) := by decide +kernel
theorem dX12_one_68 : decode cX12_one 68 = .ok (.lload_n 1, 1) := by decide +kernel
theorem dX12_one_69 : decode cX12_one 69 = .ok (.lload_n 3, 1) := by decide +kernel
theorem dX12_one_70 : decode cX12_one 70 = .ok (.ladd, 1) := by decide +kernel
theorem dX12_one_71 : decode cX12_one 71 = .ok (.lreturn, 1) := by decide +kernel
theorem dX12_one_72 : decode cX12_one 72 = .ok (.lload_n 1, 1) := by decide +kernel
theorem dX12_one_73 : decode cX12_one 73 = .ok (.lload_n 3, 1) := by decide +kernel
theorem dX12_one_74 : decode cX12_one 74 = .ok (.lsub, 1) := by decide +kernel
theorem dX12_one_75 : decode cX12_one 75 = .ok (.lreturn, 1) := by decide +kernel
theorem dX12_one_76 : decode cX12_one 76 = .ok (.lload_n 1, 1) := by decide +kernel
theorem dX12_one_77 : decode cX12_one 77 = .ok (.lload_n 3, 1) := by decide +kernel
theorem dX12_one_78 : decode cX12_one 78 = .ok (.lmul, 1) := by decide +kernel
theorem dX12_one_79 : decode cX12_one 79 = .ok (.lreturn, 1) := by decide +kernel
theorem dX12_one_80 : decode cX12_one 80 = .ok (.lload_n 3, 1) := by decide +kernel
theorem dX12_one_81 : decode cX12_one 81 = .ok (.lconst 0, 1) := by decide +kernel
theorem dX12_one_82 : decode cX12_one 82 = .ok (.lcmp, 1) := by decide +kernel
theorem dX12_one_83 : decode cX12_one 83 = .ok (.ifCond .ne 7, 3) := by decide +kernel
theorem dX12_one_86 : decode cX12_one 86 = .ok (.lconst 0, 1) := by decide +kernel
theorem dX12_one_87 : decode cX12_one 87 = .ok (.goto 6, 3) := by decide +kernel
theorem dX12_one_90 : decode cX12_one 90 = .ok (.lload_n 1, 1) := by decide +kernel
theorem dX12_one_91 : decode cX12_one 91 = .ok (.lload_n 3, 1) := by decide +kernel
theorem dX12_one_92 : decode cX12_one 92 = .ok (.ldiv, 1) := by decide +kernel
theorem dX12_one_93 : decode cX12_one 93 = .ok (.lreturn, 1) := by decide +kernel
theorem dX12_one_94 : decode cX12_one 94 = .ok (.lload_n 3, 1) := by decide +kernel
theorem dX12_one_95 : decode cX12_one 95 = .ok (.lconst 0, 1) := by decide +kernel
theorem dX12_one_96 : decode cX12_one 96 = .ok (.lcmp, 1) := by decide +kernel
theorem dX12_one_97 : decode cX12_one 97 = .ok (.ifCond .ne 7, 3) := by decide +kernel
theorem dX12_one_100 : decode cX12_one 100 = .ok (.lconst 0, 1) := by decide +kernel
theorem dX12_one_101 : decode cX12_one 101 = .ok (.goto 6, 3) := by decide +kernel
theorem dX12_one_104 : decode cX12_one 104 = .ok (.lload_n 1, 1) := by decide +kernel
theorem dX12_one_105 : decode cX12_one 105 = .ok (.lload_n 3, 1) := by decide +kernel
theorem dX12_one_106 : decode cX12_one 106 = .ok (.lrem, 1) := by decide +kernel
theorem dX12_one_107 : decode cX12_one 107 = .ok (.lreturn, 1) := by decide +kernel
theorem dX12_one_108 : decode cX12_one 108 = .ok (.lload_n 1, 1) := by decide +kernel
theorem dX12_one_109 : decode cX12_one 109 = .ok (.lload_n 3, 1) := by decide +kernel
theorem dX12_one_110 : decode cX12_one 110 = .ok (.lcmp, 1) := by decide +kernel
theorem dX12_one_111 : decode cX12_one 111 = .ok (.ifCond .ge 7, 3) := by decide +kernel
theorem dX12_one_114 : decode cX12_one 114 = .ok (.lconst 1, 1) := by decide +kernel
theorem dX12_one_115 : decode cX12_one 115 = .ok (.goto 4, 3) := by decide +kernel
theorem dX12_one_118 : decode cX12_one 118 = .ok (.lconst 0, 1) := by decide +kernel
theorem dX12_one_119 : decode cX12_one 119 = .ok (.lreturn, 1) := by decide +kernel
theorem dX12_one_120 : decode cX12_one 120 = .ok (.lload_n 1, 1) := by decide +kernel
theorem dX12_one_121 : decode cX12_one 121 = .ok (.lload_n 3, 1) := by decide +kernel
theorem dX12_one_122 : decode cX12_one 122 = .ok (.lcmp, 1) := by decide +kernel
theorem dX12_one_123 : decode cX12_one 123 = .ok (.ifCond .gt 7, 3) := by decide +kernel
theorem dX12_one_126 : decode cX12_one 126 = .ok (.lconst 1, 1) := by decide +kernel
theorem dX12_one_127 : decode cX12_one 127 = .ok (.goto 4, 3) := by decide +kernel
theorem dX12_one_130 : decode cX12_one 130 = .ok (.lconst 0, 1) := by decide +kernel
theorem dX12_one_131 : decode cX12_one 131 = .ok (.lreturn, 1) := by decide +kernel
theorem dX12_one_132 : decode cX12_one 132 = .ok (.lload_n 1, 1) := by decide +kernel
theorem dX12_one_133 : decode cX12_one 133 = .ok (.lload_n 3, 1) := by decide +kernel
theorem dX12_one_134 : decode cX12_one 134 = .ok (.lcmp, 1) := by decide +kernel
theorem dX12_one_135 : decode cX12_one 135 = .ok (.ifCond .ne 7, 3) := by decide +kernel
theorem dX12_one_138 : decode cX12_one 138 = .ok (.lconst 1, 1) := by decide +kernel
theorem dX12_one_139 : decode cX12_one 139 = .ok (.goto 4, 3) := by decide +kernel
theorem dX12_one_142 : decode cX12_one 142 = .ok (.lconst 0, 1) := by decide +kernel
theorem dX12_one_143 : decode cX12_one 143 = .ok (.lreturn, 1) := by decide +kernel
theorem dX12_one_144 : decode cX12_one 144 = .ok (.lload_n 1, 1) := by decide +kernel
theorem dX12_one_145 : decode cX12_one 145 = .ok (.lload_n 3, 1) := by decide +kernel
theorem dX12_one_146 : decode cX12_one 146 = .ok (.lcmp, 1) := by decide +kernel
theorem dX12_one_147 : decode cX12_one 147 = .ok (.ifCond .lt 7, 3) := by decide +kernel
theorem dX12_one_150 : decode cX12_one 150 = .ok (.lconst 1, 1) := by decide +kernel
theorem dX12_one_151 : decode cX12_one 151 = .ok (.goto 4, 3) := by decide +kernel
theorem dX12_one_154 : decode cX12_one 154 = .ok (.lconst 0, 1) := by decide +kernel
theorem dX12_one_155 : decode cX12_one 155 = .ok (.lreturn, 1) := by decide +kernel
theorem dX12_one_156 : decode cX12_one 156 = .ok (.lload_n 1, 1) := by decide +kernel
theorem dX12_one_157 : decode cX12_one 157 = .ok (.lload_n 3, 1) := by decide +kernel
theorem dX12_one_158 : decode cX12_one 158 = .ok (.lcmp, 1) := by decide +kernel
theorem dX12_one_159 : decode cX12_one 159 = .ok (.ifCond .le 7, 3) := by decide +kernel
theorem dX12_one_162 : decode cX12_one 162 = .ok (.lconst 1, 1) := by decide +kernel
theorem dX12_one_163 : decode cX12_one 163 = .ok (.goto 4, 3) := by decide +kernel
theorem dX12_one_166 : decode cX12_one 166 = .ok (.lconst 0, 1) := by decide +kernel
theorem dX12_one_167 : decode cX12_one 167 = .ok (.lreturn, 1) := by decide +kernel
theorem dX12_one_168 : decode cX12_one 168 = .ok (.lload_n 1, 1) := by decide +kernel
theorem dX12_one_169 : decode cX12_one 169 = .ok (.lload_n 3, 1) := by decide +kernel
theorem dX12_one_170 : decode cX12_one 170 = .ok (.land, 1) := by decide +kernel
theorem dX12_one_171 : decode cX12_one 171 = .ok (.lreturn, 1) := by decide +kernel
theorem dX12_one_172 : decode cX12_one 172 = .ok (.lload_n 1, 1) := by decide +kernel
theorem dX12_one_173 : decode cX12_one 173 = .ok (.lload_n 3, 1) := by decide +kernel
theorem dX12_one_174 : decode cX12_one 174 = .ok (.lor, 1) := by decide +kernel
theorem dX12_one_175 : decode cX12_one 175 = .ok (.lreturn, 1) := by decide +kernel
abbrev Mm_one : rx_M := (RX12, yX12_one, cX12_one, 5, (some .long), 1)
theorem km_one : rKs Mm_one 3 := ⟨tb_in (i := 23) (j := 8) rfl rfl, tb_in (i := 17) (j := 21) rfl rfl, tb_in (i := 22) (j := 31) rfl rfl, ⟨by decide, by decide, by decide +kernel⟩, by decide⟩
def m_one (x0 : Int32) (x1 : Int64) (x3 : Int64) : Option (Int64) := (if x0 = (2 : Int32) then some ((x1 + x3)) else if x0 = (3 : Int32) then some ((x1 - x3)) else if x0 = (4 : Int32) then some ((x1 * x3)) else if x0 = (5 : Int32) then (if (lg_cmp x3 (0 : Int64)) = 0 then some ((0 : Int64)) else rq (decide (¬ x3 = 0)) (some ((x1 / x3)))) else if x0 = (6 : Int32) then (if 0 ≤ (lg_cmp x1 x3) then some ((0 : Int64)) else some ((1 : Int64))) else if x0 = (7 : Int32) then (if 0 < (lg_cmp x1 x3) then some ((0 : Int64)) else some ((1 : Int64))) else if x0 = (8 : Int32) then (if (lg_cmp x1 x3) = 0 then some ((1 : Int64)) else some ((0 : Int64))) else if x0 = (9 : Int32) then (if (lg_cmp x1 x3) < 0 then some ((0 : Int64)) else some ((1 : Int64))) else if x0 = (10 : Int32) then (if (lg_cmp x1 x3) ≤ 0 then some ((0 : Int64)) else some ((1 : Int64))) else if x0 = (11 : Int32) then some ((x1 ||| x3)) else if x0 = (12 : Int32) then some ((x1 &&& x3)) else if x0 = (13 : Int32) then some ((x1 ||| x3)) else if x0 = (14 : Int32) then (if (lg_cmp x3 (0 : Int64)) = 0 then some ((0 : Int64)) else rq (decide (¬ x3 = 0)) (some ((x1 - x1 / x3 * x3)))) else some ((x1 ||| x3)))
set_option maxRecDepth 20000 in
theorem cm_one {q : Int64} {x0 : Int32} {x1 : Int64} {x3 : Int64} (h : m_one x0 x1 x3 = some q) : rMet l D Z tys Mm_one [.int x0, .long x1, .long x3] ws ws (some (.long q)) := by
  refine rMet.of (by decide) rfl (Nat.le_of_ble_eq_true rfl) ?_
  refine r_sub (lv' := [(0, .int x0), (1, .long x1), (3, .long x3)]) [0, 1, 2] rfl ?_
  unfold m_one at h
  refine r_iload_n 0 dX12_one_0 rfl ?_
  by_cases c1 : x0 = (2 : Int32)
  · replace h := it_pos c1 h
    refine r_tableIn 68 dX12_one_1 (by rw [c1]; decide) (by rw [c1]; decide) (by rw [c1]; rfl) (by decide) ?_
    refine r_lload_n 1 dX12_one_68 rfl ?_
    refine r_lload_n 2 dX12_one_69 rfl ?_
    refine r_ladd dX12_one_70 ?_
    have hq := Option.some.inj h
    subst hq
    exact r_lret rfl dX12_one_71
  replace h := it_neg c1 h
  by_cases c2 : x0 = (3 : Int32)
  · replace h := it_pos c2 h
    refine r_tableIn 72 dX12_one_1 (by rw [c2]; decide) (by rw [c2]; decide) (by rw [c2]; rfl) (by decide) ?_
    refine r_lload_n 1 dX12_one_72 rfl ?_
    refine r_lload_n 2 dX12_one_73 rfl ?_
    refine r_lsub dX12_one_74 ?_
    have hq := Option.some.inj h
    subst hq
    exact r_lret rfl dX12_one_75
  replace h := it_neg c2 h
  by_cases c3 : x0 = (4 : Int32)
  · replace h := it_pos c3 h
    refine r_tableIn 76 dX12_one_1 (by rw [c3]; decide) (by rw [c3]; decide) (by rw [c3]; rfl) (by decide) ?_
    refine r_lload_n 1 dX12_one_76 rfl ?_
    refine r_lload_n 2 dX12_one_77 rfl ?_
    refine r_lmul dX12_one_78 ?_
    have hq := Option.some.inj h
    subst hq
    exact r_lret rfl dX12_one_79
  replace h := it_neg c3 h
  by_cases c4 : x0 = (5 : Int32)
  · replace h := it_pos c4 h
    refine r_tableIn 80 dX12_one_1 (by rw [c4]; decide) (by rw [c4]; decide) (by rw [c4]; rfl) (by decide) ?_
    refine r_lload_n 2 dX12_one_80 rfl ?_
    refine r_lconst (x := (0 : Int64)) dX12_one_81 (by decide) ?_
    refine r_lcmp dX12_one_82 ?_
    refine r_if_ne 90 dX12_one_83 (by decide) (fun c5 => ?_) (fun c5 => ?_)
    · replace h := it_neg c5 h
      refine r_lload_n 1 dX12_one_90 rfl ?_
      refine r_lload_n 2 dX12_one_91 rfl ?_
      obtain ⟨h6, h⟩ := rq_some h
      refine r_ldiv dX12_one_92 (of_decide_eq_true h6) ?_
      have hq := Option.some.inj h
      subst hq
      exact r_lret rfl dX12_one_93
    · replace h := it_pos c5 h
      refine r_lconst (x := (0 : Int64)) dX12_one_86 (by decide) ?_
      refine r_goto 93 dX12_one_87 (by decide) ?_
      have hq := Option.some.inj h
      subst hq
      exact r_lret rfl dX12_one_93
  replace h := it_neg c4 h
  by_cases c7 : x0 = (6 : Int32)
  · replace h := it_pos c7 h
    refine r_tableIn 108 dX12_one_1 (by rw [c7]; decide) (by rw [c7]; decide) (by rw [c7]; rfl) (by decide) ?_
    refine r_lload_n 1 dX12_one_108 rfl ?_
    refine r_lload_n 2 dX12_one_109 rfl ?_
    refine r_lcmp dX12_one_110 ?_
    refine r_if_ge 118 dX12_one_111 (by decide) (fun c8 => ?_) (fun c8 => ?_)
    · replace h := it_pos c8 h
      refine r_lconst (x := (0 : Int64)) dX12_one_118 (by decide) ?_
      have hq := Option.some.inj h
      subst hq
      exact r_lret rfl dX12_one_119
    · replace h := it_neg c8 h
      refine r_lconst (x := (1 : Int64)) dX12_one_114 (by decide) ?_
      refine r_goto 119 dX12_one_115 (by decide) ?_
      have hq := Option.some.inj h
      subst hq
      exact r_lret rfl dX12_one_119
  replace h := it_neg c7 h
  by_cases c9 : x0 = (7 : Int32)
  · replace h := it_pos c9 h
    refine r_tableIn 120 dX12_one_1 (by rw [c9]; decide) (by rw [c9]; decide) (by rw [c9]; rfl) (by decide) ?_
    refine r_lload_n 1 dX12_one_120 rfl ?_
    refine r_lload_n 2 dX12_one_121 rfl ?_
    refine r_lcmp dX12_one_122 ?_
    refine r_if_gt 130 dX12_one_123 (by decide) (fun c10 => ?_) (fun c10 => ?_)
    · replace h := it_pos c10 h
      refine r_lconst (x := (0 : Int64)) dX12_one_130 (by decide) ?_
      have hq := Option.some.inj h
      subst hq
      exact r_lret rfl dX12_one_131
    · replace h := it_neg c10 h
      refine r_lconst (x := (1 : Int64)) dX12_one_126 (by decide) ?_
      refine r_goto 131 dX12_one_127 (by decide) ?_
      have hq := Option.some.inj h
      subst hq
      exact r_lret rfl dX12_one_131
  replace h := it_neg c9 h
  by_cases c11 : x0 = (8 : Int32)
  · replace h := it_pos c11 h
    refine r_tableIn 132 dX12_one_1 (by rw [c11]; decide) (by rw [c11]; decide) (by rw [c11]; rfl) (by decide) ?_
    refine r_lload_n 1 dX12_one_132 rfl ?_
    refine r_lload_n 2 dX12_one_133 rfl ?_
    refine r_lcmp dX12_one_134 ?_
    refine r_if_ne 142 dX12_one_135 (by decide) (fun c12 => ?_) (fun c12 => ?_)
    · replace h := it_neg c12 h
      refine r_lconst (x := (0 : Int64)) dX12_one_142 (by decide) ?_
      have hq := Option.some.inj h
      subst hq
      exact r_lret rfl dX12_one_143
    · replace h := it_pos c12 h
      refine r_lconst (x := (1 : Int64)) dX12_one_138 (by decide) ?_
      refine r_goto 143 dX12_one_139 (by decide) ?_
      have hq := Option.some.inj h
      subst hq
      exact r_lret rfl dX12_one_143
  replace h := it_neg c11 h
  by_cases c13 : x0 = (9 : Int32)
  · replace h := it_pos c13 h
    refine r_tableIn 144 dX12_one_1 (by rw [c13]; decide) (by rw [c13]; decide) (by rw [c13]; rfl) (by decide) ?_
    refine r_lload_n 1 dX12_one_144 rfl ?_
    refine r_lload_n 2 dX12_one_145 rfl ?_
    refine r_lcmp dX12_one_146 ?_
    refine r_if_lt 154 dX12_one_147 (by decide) (fun c14 => ?_) (fun c14 => ?_)
    · replace h := it_pos c14 h
      refine r_lconst (x := (0 : Int64)) dX12_one_154 (by decide) ?_
      have hq := Option.some.inj h
      subst hq
      exact r_lret rfl dX12_one_155
    · replace h := it_neg c14 h
      refine r_lconst (x := (1 : Int64)) dX12_one_150 (by decide) ?_
      refine r_goto 155 dX12_one_151 (by decide) ?_
      have hq := Option.some.inj h
      subst hq
      exact r_lret rfl dX12_one_155
  replace h := it_neg c13 h
  by_cases c15 : x0 = (10 : Int32)
  · replace h := it_pos c15 h
    refine r_tableIn 156 dX12_one_1 (by rw [c15]; decide) (by rw [c15]; decide) (by rw [c15]; rfl) (by decide) ?_
    refine r_lload_n 1 dX12_one_156 rfl ?_
    refine r_lload_n 2 dX12_one_157 rfl ?_
    refine r_lcmp dX12_one_158 ?_
    refine r_if_le 166 dX12_one_159 (by decide) (fun c16 => ?_) (fun c16 => ?_)
    · replace h := it_pos c16 h
      refine r_lconst (x := (0 : Int64)) dX12_one_166 (by decide) ?_
      have hq := Option.some.inj h
      subst hq
      exact r_lret rfl dX12_one_167
    · replace h := it_neg c16 h
      refine r_lconst (x := (1 : Int64)) dX12_one_162 (by decide) ?_
      refine r_goto 167 dX12_one_163 (by decide) ?_
      have hq := Option.some.inj h
      subst hq
      exact r_lret rfl dX12_one_167
  replace h := it_neg c15 h
  by_cases c17 : x0 = (11 : Int32)
  · replace h := it_pos c17 h
    refine r_tableIn 172 dX12_one_1 (by rw [c17]; decide) (by rw [c17]; decide) (by rw [c17]; rfl) (by decide) ?_
    refine r_lload_n 1 dX12_one_172 rfl ?_
    refine r_lload_n 2 dX12_one_173 rfl ?_
    refine r_lor dX12_one_174 ?_
    have hq := Option.some.inj h
    subst hq
    exact r_lret rfl dX12_one_175
  replace h := it_neg c17 h
  by_cases c18 : x0 = (12 : Int32)
  · replace h := it_pos c18 h
    refine r_tableIn 168 dX12_one_1 (by rw [c18]; decide) (by rw [c18]; decide) (by rw [c18]; rfl) (by decide) ?_
    refine r_lload_n 1 dX12_one_168 rfl ?_
    refine r_lload_n 2 dX12_one_169 rfl ?_
    refine r_land dX12_one_170 ?_
    have hq := Option.some.inj h
    subst hq
    exact r_lret rfl dX12_one_171
  replace h := it_neg c18 h
  by_cases c19 : x0 = (13 : Int32)
  · replace h := it_pos c19 h
    refine r_tableIn 172 dX12_one_1 (by rw [c19]; decide) (by rw [c19]; decide) (by rw [c19]; rfl) (by decide) ?_
    refine r_lload_n 1 dX12_one_172 rfl ?_
    refine r_lload_n 2 dX12_one_173 rfl ?_
    refine r_lor dX12_one_174 ?_
    have hq := Option.some.inj h
    subst hq
    exact r_lret rfl dX12_one_175
  replace h := it_neg c19 h
  by_cases c20 : x0 = (14 : Int32)
  · replace h := it_pos c20 h
    refine r_tableIn 94 dX12_one_1 (by rw [c20]; decide) (by rw [c20]; decide) (by rw [c20]; rfl) (by decide) ?_
    refine r_lload_n 2 dX12_one_94 rfl ?_
    refine r_lconst (x := (0 : Int64)) dX12_one_95 (by decide) ?_
    refine r_lcmp dX12_one_96 ?_
    refine r_if_ne 104 dX12_one_97 (by decide) (fun c21 => ?_) (fun c21 => ?_)
    · replace h := it_neg c21 h
      refine r_lload_n 1 dX12_one_104 rfl ?_
      refine r_lload_n 2 dX12_one_105 rfl ?_
      obtain ⟨h22, h⟩ := rq_some h
      refine r_lrem dX12_one_106 (of_decide_eq_true h22) ?_
      have hq := Option.some.inj h
      subst hq
      exact r_lret rfl dX12_one_107
    · replace h := it_pos c21 h
      refine r_lconst (x := (0 : Int64)) dX12_one_100 (by decide) ?_
      refine r_goto 107 dX12_one_101 (by decide) ?_
      have hq := Option.some.inj h
      subst hq
      exact r_lret rfl dX12_one_107
  replace h := it_neg c20 h
  refine r_tableOut 172 dX12_one_1 (tbl_out (by decide) (by decide) (fun k h1 h2 => by
    rcases (show k = 2 ∨ k = 3 ∨ k = 4 ∨ k = 5 ∨ k = 6 ∨ k = 7 ∨ k = 8 ∨ k = 9 ∨ k = 10 ∨ k = 11 ∨ k = 12 ∨ k = 13 ∨ k = 14 by omega) with rfl | rfl | rfl | rfl | rfl | rfl | rfl | rfl | rfl | rfl | rfl | rfl | rfl
    · exact c1
    · exact c2
    · exact c3
    · exact c4
    · exact c7
    · exact c9
    · exact c11
    · exact c13
    · exact c15
    · exact c17
    · exact c18
    · exact c19
    · exact c20
    )) (by decide) ?_
  refine r_lload_n 1 dX12_one_172 rfl ?_
  refine r_lload_n 2 dX12_one_173 rfl ?_
  refine r_lor dX12_one_174 ?_
  have hq := Option.some.inj h
  subst hq
  exact r_lret rfl dX12_one_175
theorem dX12_reckons_0 : decode cX12_reckons 0 = .ok (.aload_n 0, 1) := by decide +kernel
theorem dX12_reckons_1 : decode cX12_reckons 1 = .ok (.iconst 0, 1) := by decide +kernel
theorem dX12_reckons_2 : decode cX12_reckons 2 = .ok (.putfield 271, 3) := by decide +kernel
theorem dX12_reckons_5 : decode cX12_reckons 5 = .ok (.iload_n 2, 1) := by decide +kernel
theorem dX12_reckons_6 : decode cX12_reckons 6 = .ok (.istore 4, 2) := by decide +kernel
theorem dX12_reckons_8 : decode cX12_reckons 8 = .ok (.iload 4, 2) := by decide +kernel
theorem dX12_reckons_10 : decode cX12_reckons 10 = .ok (.iload_n 3, 1) := by decide +kernel
theorem dX12_reckons_11 : decode cX12_reckons 11 = .ok (.if_icmp .ge 124, 3) := by decide +kernel
theorem dX12_reckons_14 : decode cX12_reckons 14 = .ok (.aload_n 0, 1) := by decide +kernel
theorem dX12_reckons_15 : decode cX12_reckons 15 = .ok (.getfield 13, 3) := by decide +kernel
theorem dX12_reckons_18 : decode cX12_reckons 18 = .ok (.sipush 400, 3) := by decide +kernel
theorem dX12_reckons_21 : decode cX12_reckons 21 = .ok (.iload_n 1, 1) := by decide +kernel
theorem dX12_reckons_22 : decode cX12_reckons 22 = .ok (.imul, 1) := by decide +kernel
theorem dX12_reckons_23 : decode cX12_reckons 23 = .ok (.iload 4, 2) := by decide +kernel
theorem dX12_reckons_25 : decode cX12_reckons 25 = .ok (.iadd, 1) := by decide +kernel
theorem dX12_reckons_26 : decode cX12_reckons 26 = .ok (.iaload, 1) := by decide +kernel
theorem dX12_reckons_27 : decode cX12_reckons 27 = .ok (.bipush 15, 2) := by decide +kernel
theorem dX12_reckons_29 : decode cX12_reckons 29 = .ok (.iand, 1) := by decide +kernel
theorem dX12_reckons_30 : decode cX12_reckons 30 = .ok (.istore 5, 2) := by decide +kernel
theorem dX12_reckons_32 : decode cX12_reckons 32 = .ok (.aload_n 0, 1) := by decide +kernel
theorem dX12_reckons_33 : decode cX12_reckons 33 = .ok (.getfield 13, 3) := by decide +kernel
theorem dX12_reckons_36 : decode cX12_reckons 36 = .ok (.sipush 400, 3) := by decide +kernel
theorem dX12_reckons_39 : decode cX12_reckons 39 = .ok (.iload_n 1, 1) := by decide +kernel
theorem dX12_reckons_40 : decode cX12_reckons 40 = .ok (.imul, 1) := by decide +kernel
theorem dX12_reckons_41 : decode cX12_reckons 41 = .ok (.iload 4, 2) := by decide +kernel
theorem dX12_reckons_43 : decode cX12_reckons 43 = .ok (.iadd, 1) := by decide +kernel
theorem dX12_reckons_44 : decode cX12_reckons 44 = .ok (.iaload, 1) := by decide +kernel
theorem dX12_reckons_45 : decode cX12_reckons 45 = .ok (.iconst 4, 1) := by decide +kernel
theorem dX12_reckons_46 : decode cX12_reckons 46 = .ok (.ishr, 1) := by decide +kernel
theorem dX12_reckons_47 : decode cX12_reckons 47 = .ok (.istore 6, 2) := by decide +kernel
theorem dX12_reckons_49 : decode cX12_reckons 49 = .ok (.iload 5, 2) := by decide +kernel
theorem dX12_reckons_51 : decode cX12_reckons 51 = .ok (.ifCond .ne 13, 3) := by decide +kernel
theorem dX12_reckons_54 : decode cX12_reckons 54 = .ok (.aload_n 0, 1) := by decide +kernel
theorem dX12_reckons_55 : decode cX12_reckons 55 = .ok (.iload 6, 2) := by decide +kernel
theorem dX12_reckons_57 : decode cX12_reckons 57 = .ok (.i2l, 1) := by decide +kernel
theorem dX12_reckons_58 : decode cX12_reckons 58 = .ok (.invokevirtual 274, 3) := by decide +kernel
theorem dX12_reckons_61 : decode cX12_reckons 61 = .ok (.goto 68, 3) := by decide +kernel
theorem dX12_reckons_64 : decode cX12_reckons 64 = .ok (.iload 5, 2) := by decide +kernel
theorem dX12_reckons_66 : decode cX12_reckons 66 = .ok (.iconst 1, 1) := by decide +kernel
theorem dX12_reckons_67 : decode cX12_reckons 67 = .ok (.if_icmp .ne 17, 3) := by decide +kernel
theorem dX12_reckons_70 : decode cX12_reckons 70 = .ok (.aload_n 0, 1) := by decide +kernel
theorem dX12_reckons_71 : decode cX12_reckons 71 = .ok (.aload_n 0, 1) := by decide +kernel
theorem dX12_reckons_72 : decode cX12_reckons 72 = .ok (.getfield 36, 3) := by decide +kernel
theorem dX12_reckons_75 : decode cX12_reckons 75 = .ok (.iload 6, 2) := by decide +kernel
theorem dX12_reckons_77 : decode cX12_reckons 77 = .ok (.laload, 1) := by decide +kernel
theorem dX12_reckons_78 : decode cX12_reckons 78 = .ok (.invokevirtual 274, 3) := by decide +kernel
theorem dX12_reckons_81 : decode cX12_reckons 81 = .ok (.goto 48, 3) := by decide +kernel
theorem dX12_reckons_84 : decode cX12_reckons 84 = .ok (.iload 5, 2) := by decide +kernel
theorem dX12_reckons_86 : decode cX12_reckons 86 = .ok (.bipush 11, 2) := by decide +kernel
theorem dX12_reckons_88 : decode cX12_reckons 88 = .ok (.if_icmp .ne 16, 3) := by decide +kernel
theorem dX12_reckons_91 : decode cX12_reckons 91 = .ok (.aload_n 0, 1) := by decide +kernel
theorem dX12_reckons_92 : decode cX12_reckons 92 = .ok (.lconst 1, 1) := by decide +kernel
theorem dX12_reckons_93 : decode cX12_reckons 93 = .ok (.aload_n 0, 1) := by decide +kernel
theorem dX12_reckons_94 : decode cX12_reckons 94 = .ok (.invokevirtual 278, 3) := by decide +kernel
theorem dX12_reckons_97 : decode cX12_reckons 97 = .ok (.lsub, 1) := by decide +kernel
theorem dX12_reckons_98 : decode cX12_reckons 98 = .ok (.invokevirtual 274, 3) := by decide +kernel
theorem dX12_reckons_101 : decode cX12_reckons 101 = .ok (.goto 28, 3) := by decide +kernel
theorem dX12_reckons_104 : decode cX12_reckons 104 = .ok (.aload_n 0, 1) := by decide +kernel
theorem dX12_reckons_105 : decode cX12_reckons 105 = .ok (.invokevirtual 278, 3) := by decide +kernel
theorem dX12_reckons_108 : decode cX12_reckons 108 = .ok (.lstore 7, 2) := by decide +kernel
theorem dX12_reckons_110 : decode cX12_reckons 110 = .ok (.aload_n 0, 1) := by decide +kernel
theorem dX12_reckons_111 : decode cX12_reckons 111 = .ok (.invokevirtual 278, 3) := by decide +kernel
theorem dX12_reckons_114 : decode cX12_reckons 114 = .ok (.lstore 9, 2) := by decide +kernel
theorem dX12_reckons_116 : decode cX12_reckons 116 = .ok (.aload_n 0, 1) := by decide +kernel
theorem dX12_reckons_117 : decode cX12_reckons 117 = .ok (.iload 5, 2) := by decide +kernel
theorem dX12_reckons_119 : decode cX12_reckons 119 = .ok (.lload 9, 2) := by decide +kernel
theorem dX12_reckons_121 : decode cX12_reckons 121 = .ok (.lload 7, 2) := by decide +kernel
theorem dX12_reckons_123 : decode cX12_reckons 123 = .ok (.invokestatic 282, 3) := by decide +kernel
theorem dX12_reckons_126 : decode cX12_reckons 126 = .ok (.invokevirtual 274, 3) := by decide +kernel
theorem dX12_reckons_129 : decode cX12_reckons 129 = .ok (.iinc 4 1, 3) := by decide +kernel
theorem dX12_reckons_132 : decode cX12_reckons 132 = .ok (.goto (-124), 3) := by decide +kernel
theorem dX12_reckons_135 : decode cX12_reckons 135 = .ok (.aload_n 0, 1) := by decide +kernel
theorem dX12_reckons_136 : decode cX12_reckons 136 = .ok (.invokevirtual 278, 3) := by decide +kernel
theorem dX12_reckons_139 : decode cX12_reckons 139 = .ok (.lreturn, 1) := by decide +kernel
abbrev Mm_reckons : rx_M := (RX12, yX12_reckons, cX12_reckons, 11, (some .long), 2)
theorem km_reckons : rKv Mm_reckons 3 := ⟨tb_in (i := 25) (j := 1) rfl rfl, tb_in (i := 25) (j := 2) rfl rfl, tb_in (i := 17) (j := 21) rfl rfl, tb_in (i := 23) (j := 0) rfl rfl, ⟨by decide, by decide, by decide +kernel⟩, by decide⟩
def m_reckons_l8 (z_sign : Nat → Int32) (z_word : Nat → Int64) (x1 : Int32) (x3 : Int32) : Nat → Int32 → (Nat → Int64) → Int32 → Option (Int64 × (Nat → Int64) × Int32)
  | 0, _, _, _ => none
  | n + 1, x4, z_stack, z_top => (if x3 ≤ x4 then (m_pop z_stack z_top).bind (fun q2 => some (q2.1, z_stack, q2.2)) else rq (inb (((400 : Int32) * x1) + x4) 2400) (lt ((z_sign (((400 : Int32) * x1) + x4).toNatClampNeg) &&& (15 : Int32)) (fun y4 => rq (inb (((400 : Int32) * x1) + x4) 2400) (lt ((z_sign (((400 : Int32) * x1) + x4).toNatClampNeg) >>> ((4 : Int32) &&& 31)) (fun y6 => (if y4 = 0 then (m_push (y6.toInt64) z_stack z_top).bind (fun q18 => m_reckons_l8 z_sign z_word x1 x3 n (x4 + (1 : Int32)) q18.1 q18.2) else (if y4 = (1 : Int32) then rq (inb y6 12) ((m_push (z_word y6.toNatClampNeg) z_stack z_top).bind (fun q17 => m_reckons_l8 z_sign z_word x1 x3 n (x4 + (1 : Int32)) q17.1 q17.2)) else (if y4 = (11 : Int32) then (m_pop z_stack z_top).bind (fun q14 => (m_push ((1 : Int64) - q14.1) z_stack q14.2).bind (fun q15 => m_reckons_l8 z_sign z_word x1 x3 n (x4 + (1 : Int32)) q15.1 q15.2)) else (m_pop z_stack z_top).bind (fun q10 => (m_pop z_stack q10.2).bind (fun q11 => (m_one y4 q11.1 q10.1).bind (fun q12 => (m_push q12 z_stack q11.2).bind (fun q13 => m_reckons_l8 z_sign z_word x1 x3 n (x4 + (1 : Int32)) q13.1 q13.2))))))))))))
set_option maxRecDepth 20000 in
theorem cm_reckons_l8 {q : Int64 × (Nat → Int64) × Int32} {x1 : Int32} {x3 : Int32}  : ∀ (n : Nat) (x4 : Int32) (z_stack : Nat → Int64) (z_top : Int32), m_reckons_l8 z_sign z_word x1 x3 n x4 z_stack z_top = some q → rW l D Z (ty7 K) Mm_reckons 8 [(0, .ref (ad 0)), (1, .int x1), (3, .int x3), (4, .int x4)] [] (wM K ad z_tape z_taped z_rules z_sign z_length z_clause z_clauses z_read z_next z_wrong z_number z_text z_made z_deep z_lines z_open z_opened z_stack z_top z_word z_said z_force z_x z_absent z_isRaining z_wasSaid z_undone z_kept z_order z_bestOrder z_hasBy z_wealthThen z_isFit z_tillThen z_drawX z_images z_imageForce z_imageX z_isMade) (wM K ad z_tape z_taped z_rules z_sign z_length z_clause z_clauses z_read z_next z_wrong z_number z_text z_made z_deep z_lines z_open z_opened q.2.1 q.2.2 z_word z_said z_force z_x z_absent z_isRaining z_wasSaid z_undone z_kept z_order z_bestOrder z_hasBy z_wealthThen z_isFit z_tillThen z_drawX z_images z_imageForce z_imageX z_isMade) (some (.long q.1)) := by
  intro n
  induction n with
  | zero => intro x4 z_stack z_top h; unfold m_reckons_l8 at h; cases h
  | succ n ih =>
    intro x4 z_stack z_top h
    unfold m_reckons_l8 at h
    refine r_iload 3 dX12_reckons_8 rfl ?_
    refine r_iload_n 2 dX12_reckons_10 rfl ?_
    refine r_icmp_ge 135 dX12_reckons_11 (by decide) (fun c1 => ?_) (fun c1 => ?_)
    · replace h := it_pos c1 h
      refine r_aload_n 0 dX12_reckons_135 rfl ?_
      obtain ⟨q2, h2, h⟩ := bd_some h
      refine cvM (st := []) (cm_pop h2) rfl rfl (Nat.le_of_ble_eq_true rfl) km_pop (tb_in (i := 23) (j := 4) rfl rfl) (by decide) rfl dX12_reckons_136 ?_
      have hq := Option.some.inj h
      subst hq
      exact r_lret rfl dX12_reckons_139
    · replace h := it_neg c1 h
      refine r_aload_n 0 dX12_reckons_14 rfl ?_
      refine gM_sign rfl dX12_reckons_15 ?_
      refine r_sipush (x := (400 : Int32)) dX12_reckons_18 (by decide) ?_
      refine r_iload_n 1 dX12_reckons_21 rfl ?_
      refine r_imul dX12_reckons_22 ?_
      refine r_iload 3 dX12_reckons_23 rfl ?_
      refine r_iadd dX12_reckons_25 ?_
      obtain ⟨h3, h⟩ := rq_some h
      refine lM_sign (inb_in h3) dX12_reckons_26 ?_
      refine r_bipush (x := (15 : Int32)) dX12_reckons_27 (by decide) ?_
      refine r_iand dX12_reckons_29 ?_
      obtain ⟨y4, e4, h⟩ := lt_some h
      refine r_top e4 ?_
      refine r_istore (lv' := [(5, .int y4), (0, .ref (ad 0)), (1, .int x1), (3, .int x3), (4, .int x4)]) dX12_reckons_30 (by decide) rfl ?_
      refine r_aload_n 1 dX12_reckons_32 rfl ?_
      refine gM_sign rfl dX12_reckons_33 ?_
      refine r_sipush (x := (400 : Int32)) dX12_reckons_36 (by decide) ?_
      refine r_iload_n 2 dX12_reckons_39 rfl ?_
      refine r_imul dX12_reckons_40 ?_
      refine r_iload 4 dX12_reckons_41 rfl ?_
      refine r_iadd dX12_reckons_43 ?_
      obtain ⟨h5, h⟩ := rq_some h
      refine lM_sign (inb_in h5) dX12_reckons_44 ?_
      refine r_iconst (x := (4 : Int32)) dX12_reckons_45 (by decide) ?_
      refine r_ishr dX12_reckons_46 ?_
      obtain ⟨y6, e6, h⟩ := lt_some h
      refine r_top e6 ?_
      refine r_istore (lv' := [(6, .int y6), (5, .int y4), (0, .ref (ad 0)), (1, .int x1), (3, .int x3), (4, .int x4)]) dX12_reckons_47 (by decide) rfl ?_
      refine r_iload 1 dX12_reckons_49 rfl ?_
      refine r_if_ne 64 dX12_reckons_51 (by decide) (fun c7 => ?_) (fun c7 => ?_)
      · replace h := it_neg c7 h
        refine r_iload 1 dX12_reckons_64 rfl ?_
        refine r_iconst (x := (1 : Int32)) dX12_reckons_66 (by decide) ?_
        refine r_icmp_ne 84 dX12_reckons_67 (by decide) (fun c8 => ?_) (fun c8 => ?_)
        · replace h := it_neg c8 h
          refine r_iload 1 dX12_reckons_84 rfl ?_
          refine r_bipush (x := (11 : Int32)) dX12_reckons_86 (by decide) ?_
          refine r_icmp_ne 104 dX12_reckons_88 (by decide) (fun c9 => ?_) (fun c9 => ?_)
          · replace h := it_neg c9 h
            refine r_aload_n 2 dX12_reckons_104 rfl ?_
            obtain ⟨q10, h10, h⟩ := bd_some h
            refine cvM (st := []) (cm_pop h10) rfl rfl (Nat.le_of_ble_eq_true rfl) km_pop (tb_in (i := 23) (j := 4) rfl rfl) (by decide) rfl dX12_reckons_105 ?_
            refine r_lstore (lv' := [(7, .long q10.1), (6, .int y6), (5, .int y4), (0, .ref (ad 0)), (1, .int x1), (3, .int x3), (4, .int x4)]) dX12_reckons_108 (by decide) rfl ?_
            refine r_aload_n 3 dX12_reckons_110 rfl ?_
            obtain ⟨q11, h11, h⟩ := bd_some h
            refine cvM (st := []) (cm_pop h11) rfl rfl (Nat.le_of_ble_eq_true rfl) km_pop (tb_in (i := 23) (j := 4) rfl rfl) (by decide) rfl dX12_reckons_111 ?_
            refine r_lstore (lv' := [(9, .long q11.1), (7, .long q10.1), (6, .int y6), (5, .int y4), (0, .ref (ad 0)), (1, .int x1), (3, .int x3), (4, .int x4)]) dX12_reckons_114 (by decide) rfl ?_
            refine r_aload_n 4 dX12_reckons_116 rfl ?_
            refine r_iload 3 dX12_reckons_117 rfl ?_
            refine r_lload 0 dX12_reckons_119 rfl ?_
            refine r_lload 1 dX12_reckons_121 rfl ?_
            obtain ⟨q12, h12, h⟩ := bd_some h
            refine r_callS (st := [.ref (ad 0)]) (cm_one h12) rfl rfl (Nat.le_of_ble_eq_true rfl) km_one (tb_in (i := 23) (j := 7) rfl rfl) (by decide) dX12_reckons_123 ?_
            obtain ⟨q13, h13, h⟩ := bd_some h
            refine cvM (st := []) (cm_push h13) rfl rfl (Nat.le_of_ble_eq_true rfl) km_push (tb_in (i := 23) (j := 1) rfl rfl) (by decide) rfl dX12_reckons_126 ?_
            refine r_iinc (y := (x4 + (1 : Int32))) (lv' := [(4, .int (x4 + (1 : Int32))), (9, .long q11.1), (7, .long q10.1), (6, .int y6), (5, .int y4), (0, .ref (ad 0)), (1, .int x1), (3, .int x3)]) 7 dX12_reckons_129 rfl rfl (by decide) rfl ?_
            refine r_goto 8 dX12_reckons_132 (by decide) ?_
            refine r_sub (lv' := [(0, .ref (ad 0)), (1, .int x1), (3, .int x3), (4, .int (x4 + (1 : Int32)))]) [5, 6, 7, 0] rfl ?_
            exact ih _ _ _ h
          · replace h := it_pos c9 h
            refine r_aload_n 2 dX12_reckons_91 rfl ?_
            refine r_lconst (x := (1 : Int64)) dX12_reckons_92 (by decide) ?_
            refine r_aload_n 2 dX12_reckons_93 rfl ?_
            obtain ⟨q14, h14, h⟩ := bd_some h
            refine cvM (st := [.long (1 : Int64), .ref (ad 0)]) (cm_pop h14) rfl rfl (Nat.le_of_ble_eq_true rfl) km_pop (tb_in (i := 23) (j := 4) rfl rfl) (by decide) rfl dX12_reckons_94 ?_
            refine r_lsub dX12_reckons_97 ?_
            obtain ⟨q15, h15, h⟩ := bd_some h
            refine cvM (st := []) (cm_push h15) rfl rfl (Nat.le_of_ble_eq_true rfl) km_push (tb_in (i := 23) (j := 1) rfl rfl) (by decide) rfl dX12_reckons_98 ?_
            refine r_goto 129 dX12_reckons_101 (by decide) ?_
            refine r_iinc (y := (x4 + (1 : Int32))) (lv' := [(4, .int (x4 + (1 : Int32))), (6, .int y6), (5, .int y4), (0, .ref (ad 0)), (1, .int x1), (3, .int x3)]) 5 dX12_reckons_129 rfl rfl (by decide) rfl ?_
            refine r_goto 8 dX12_reckons_132 (by decide) ?_
            refine r_sub (lv' := [(0, .ref (ad 0)), (1, .int x1), (3, .int x3), (4, .int (x4 + (1 : Int32)))]) [3, 4, 5, 0] rfl ?_
            exact ih _ _ _ h
        · replace h := it_pos c8 h
          refine r_aload_n 2 dX12_reckons_70 rfl ?_
          refine r_aload_n 2 dX12_reckons_71 rfl ?_
          refine gM_word rfl dX12_reckons_72 ?_
          refine r_iload 0 dX12_reckons_75 rfl ?_
          obtain ⟨h16, h⟩ := rq_some h
          refine lM_word (inb_in h16) dX12_reckons_77 ?_
          obtain ⟨q17, h17, h⟩ := bd_some h
          refine cvM (st := []) (cm_push h17) rfl rfl (Nat.le_of_ble_eq_true rfl) km_push (tb_in (i := 23) (j := 1) rfl rfl) (by decide) rfl dX12_reckons_78 ?_
          refine r_goto 129 dX12_reckons_81 (by decide) ?_
          refine r_iinc (y := (x4 + (1 : Int32))) (lv' := [(4, .int (x4 + (1 : Int32))), (6, .int y6), (5, .int y4), (0, .ref (ad 0)), (1, .int x1), (3, .int x3)]) 5 dX12_reckons_129 rfl rfl (by decide) rfl ?_
          refine r_goto 8 dX12_reckons_132 (by decide) ?_
          refine r_sub (lv' := [(0, .ref (ad 0)), (1, .int x1), (3, .int x3), (4, .int (x4 + (1 : Int32)))]) [3, 4, 5, 0] rfl ?_
          exact ih _ _ _ h
      · replace h := it_pos c7 h
        refine r_aload_n 2 dX12_reckons_54 rfl ?_
        refine r_iload 0 dX12_reckons_55 rfl ?_
        refine r_i2l dX12_reckons_57 ?_
        obtain ⟨q18, h18, h⟩ := bd_some h
        refine cvM (st := []) (cm_push h18) rfl rfl (Nat.le_of_ble_eq_true rfl) km_push (tb_in (i := 23) (j := 1) rfl rfl) (by decide) rfl dX12_reckons_58 ?_
        refine r_goto 129 dX12_reckons_61 (by decide) ?_
        refine r_iinc (y := (x4 + (1 : Int32))) (lv' := [(4, .int (x4 + (1 : Int32))), (6, .int y6), (5, .int y4), (0, .ref (ad 0)), (1, .int x1), (3, .int x3)]) 5 dX12_reckons_129 rfl rfl (by decide) rfl ?_
        refine r_goto 8 dX12_reckons_132 (by decide) ?_
        refine r_sub (lv' := [(0, .ref (ad 0)), (1, .int x1), (3, .int x3), (4, .int (x4 + (1 : Int32)))]) [3, 4, 5, 0] rfl ?_
        exact ih _ _ _ h
def m_reckons (x1 : Int32) (x2 : Int32) (x3 : Int32) (z_sign : Nat → Int32) (z_stack : Nat → Int64) (z_top : Int32) (z_word : Nat → Int64) : Option (Int64 × (Nat → Int64) × Int32) := m_reckons_l8 z_sign z_word x1 x3 FU x2 z_stack (0 : Int32)
set_option maxRecDepth 20000 in
theorem cm_reckons {q : Int64 × (Nat → Int64) × Int32} {x1 : Int32} {x2 : Int32} {x3 : Int32} (h : m_reckons x1 x2 x3 z_sign z_stack z_top z_word = some q) : rMet l D Z (ty7 K) Mm_reckons [.ref (ad 0), .int x1, .int x2, .int x3] (wM K ad z_tape z_taped z_rules z_sign z_length z_clause z_clauses z_read z_next z_wrong z_number z_text z_made z_deep z_lines z_open z_opened z_stack z_top z_word z_said z_force z_x z_absent z_isRaining z_wasSaid z_undone z_kept z_order z_bestOrder z_hasBy z_wealthThen z_isFit z_tillThen z_drawX z_images z_imageForce z_imageX z_isMade) (wM K ad z_tape z_taped z_rules z_sign z_length z_clause z_clauses z_read z_next z_wrong z_number z_text z_made z_deep z_lines z_open z_opened q.2.1 q.2.2 z_word z_said z_force z_x z_absent z_isRaining z_wasSaid z_undone z_kept z_order z_bestOrder z_hasBy z_wealthThen z_isFit z_tillThen z_drawX z_images z_imageForce z_imageX z_isMade) (some (.long q.1)) := by
  refine rMet.of (by decide) rfl (Nat.le_of_ble_eq_true rfl) ?_
  refine r_sub (lv' := [(0, .ref (ad 0)), (1, .int x1), (2, .int x2), (3, .int x3)]) [0, 1, 2, 3] rfl ?_
  unfold m_reckons at h
  refine r_aload_n 0 dX12_reckons_0 rfl ?_
  refine r_iconst (x := (0 : Int32)) dX12_reckons_1 (by decide) ?_
  refine pM_top rfl dX12_reckons_2 ?_
  refine r_iload_n 2 dX12_reckons_5 rfl ?_
  refine r_istore (lv' := [(4, .int x2), (0, .ref (ad 0)), (1, .int x1), (2, .int x2), (3, .int x3)]) dX12_reckons_6 (by decide) rfl ?_
  refine r_sub (lv' := [(0, .ref (ad 0)), (1, .int x1), (3, .int x3), (4, .int x2)]) [1, 2, 4, 0] rfl ?_
  exact cm_reckons_l8  FU _ _ _ h
theorem dX12_isFair_0 : decode cX12_isFair 0 = .ok (.aload_n 0, 1) := by decide +kernel
theorem dX12_isFair_1 : decode cX12_isFair 1 = .ok (.getfield 39, 3) := by decide +kernel
theorem dX12_isFair_4 : decode cX12_isFair 4 = .ok (.iconst 0, 1) := by decide +kernel
theorem dX12_isFair_5 : decode cX12_isFair 5 = .ok (.iaload, 1) := by decide +kernel
theorem dX12_isFair_6 : decode cX12_isFair 6 = .ok (.iconst 1, 1) := by decide +kernel
theorem dX12_isFair_7 : decode cX12_isFair 7 = .ok (.if_icmp .ne 7, 3) := by decide +kernel
theorem dX12_isFair_10 : decode cX12_isFair 10 = .ok (.iconst 1, 1) := by decide +kernel
theorem dX12_isFair_11 : decode cX12_isFair 11 = .ok (.goto 4, 3) := by decide +kernel
theorem dX12_isFair_14 : decode cX12_isFair 14 = .ok (.iconst 0, 1) := by decide +kernel
theorem dX12_isFair_15 : decode cX12_isFair 15 = .ok (.ireturn, 1) := by decide +kernel
abbrev Mm_isFair : rx_M := (RX12, yX12_isFair, cX12_isFair, 1, (some .boolean), 1)
theorem km_isFair : rKv Mm_isFair 0 := ⟨tb_in (i := 26) (j := 3) rfl rfl, tb_in (i := 26) (j := 4) rfl rfl, tb_in (i := 17) (j := 21) rfl rfl, tb_in (i := 23) (j := 9) rfl rfl, ⟨by decide, by decide, by decide +kernel⟩, by decide⟩
def m_isFair (z_said : Nat → Int32) : Option (Int32) := rq (inb (0 : Int32) 156) ((if (z_said (0 : Int32).toNatClampNeg) = (1 : Int32) then some ((1 : Int32)) else some ((0 : Int32))))
set_option maxRecDepth 20000 in
theorem cm_isFair {q : Int32}  (h : m_isFair z_said = some q) : rMet l D Z (ty7 K) Mm_isFair [.ref (ad 0)] (wM K ad z_tape z_taped z_rules z_sign z_length z_clause z_clauses z_read z_next z_wrong z_number z_text z_made z_deep z_lines z_open z_opened z_stack z_top z_word z_said z_force z_x z_absent z_isRaining z_wasSaid z_undone z_kept z_order z_bestOrder z_hasBy z_wealthThen z_isFit z_tillThen z_drawX z_images z_imageForce z_imageX z_isMade) (wM K ad z_tape z_taped z_rules z_sign z_length z_clause z_clauses z_read z_next z_wrong z_number z_text z_made z_deep z_lines z_open z_opened z_stack z_top z_word z_said z_force z_x z_absent z_isRaining z_wasSaid z_undone z_kept z_order z_bestOrder z_hasBy z_wealthThen z_isFit z_tillThen z_drawX z_images z_imageForce z_imageX z_isMade) (some (.int q)) := by
  refine rMet.of (by decide) rfl (Nat.le_of_ble_eq_true rfl) ?_
  refine r_sub (lv' := [(0, .ref (ad 0))]) [0] rfl ?_
  unfold m_isFair at h
  refine r_aload_n 0 dX12_isFair_0 rfl ?_
  refine gM_said rfl dX12_isFair_1 ?_
  refine r_iconst (x := (0 : Int32)) dX12_isFair_4 (by decide) ?_
  obtain ⟨h1, h⟩ := rq_some h
  refine lM_said (inb_in h1) dX12_isFair_5 ?_
  refine r_iconst (x := (1 : Int32)) dX12_isFair_6 (by decide) ?_
  refine r_icmp_ne 14 dX12_isFair_7 (by decide) (fun c2 => ?_) (fun c2 => ?_)
  · replace h := it_neg c2 h
    refine r_iconst (x := (0 : Int32)) dX12_isFair_14 (by decide) ?_
    have hq := Option.some.inj h
    subst hq
    exact r_zret (ty := .boolean) rfl rfl dX12_isFair_15
  · replace h := it_pos c2 h
    refine r_iconst (x := (1 : Int32)) dX12_isFair_10 (by decide) ?_
    refine r_goto 15 dX12_isFair_11 (by decide) ?_
    have hq := Option.some.inj h
    subst hq
    exact r_zret (ty := .boolean) rfl rfl dX12_isFair_15
theorem dX12_isStall_0 : decode cX12_isStall 0 = .ok (.iload_n 1, 1) := by decide +kernel
theorem dX12_isStall_1 : decode cX12_isStall 1 = .ok (.ifCond .lt 17, 3) := by decide +kernel
theorem dX12_isStall_4 : decode cX12_isStall 4 = .ok (.iload_n 1, 1) := by decide +kernel
theorem dX12_isStall_5 : decode cX12_isStall 5 = .ok (.aload_n 0, 1) := by decide +kernel
theorem dX12_isStall_6 : decode cX12_isStall 6 = .ok (.getfield 39, 3) := by decide +kernel
theorem dX12_isStall_9 : decode cX12_isStall 9 = .ok (.iconst 3, 1) := by decide +kernel
theorem dX12_isStall_10 : decode cX12_isStall 10 = .ok (.iaload, 1) := by decide +kernel
theorem dX12_isStall_11 : decode cX12_isStall 11 = .ok (.if_icmp .ge 7, 3) := by decide +kernel
theorem dX12_isStall_14 : decode cX12_isStall 14 = .ok (.iconst 1, 1) := by decide +kernel
theorem dX12_isStall_15 : decode cX12_isStall 15 = .ok (.goto 4, 3) := by decide +kernel
theorem dX12_isStall_18 : decode cX12_isStall 18 = .ok (.iconst 0, 1) := by decide +kernel
theorem dX12_isStall_19 : decode cX12_isStall 19 = .ok (.ireturn, 1) := by decide +kernel
abbrev Mm_isStall : rx_M := (RX12, yX12_isStall, cX12_isStall, 2, (some .boolean), 1)
theorem km_isStall : rKv Mm_isStall 1 := ⟨tb_in (i := 24) (j := 16) rfl rfl, tb_in (i := 24) (j := 17) rfl rfl, tb_in (i := 17) (j := 21) rfl rfl, tb_in (i := 23) (j := 10) rfl rfl, ⟨by decide, by decide, by decide +kernel⟩, by decide⟩
def m_isStall (x1 : Int32) (z_said : Nat → Int32) : Option (Int32) := (if x1 < 0 then some ((0 : Int32)) else rq (inb (3 : Int32) 156) ((if (z_said (3 : Int32).toNatClampNeg) ≤ x1 then some ((0 : Int32)) else some ((1 : Int32)))))
set_option maxRecDepth 20000 in
theorem cm_isStall {q : Int32} {x1 : Int32} (h : m_isStall x1 z_said = some q) : rMet l D Z (ty7 K) Mm_isStall [.ref (ad 0), .int x1] (wM K ad z_tape z_taped z_rules z_sign z_length z_clause z_clauses z_read z_next z_wrong z_number z_text z_made z_deep z_lines z_open z_opened z_stack z_top z_word z_said z_force z_x z_absent z_isRaining z_wasSaid z_undone z_kept z_order z_bestOrder z_hasBy z_wealthThen z_isFit z_tillThen z_drawX z_images z_imageForce z_imageX z_isMade) (wM K ad z_tape z_taped z_rules z_sign z_length z_clause z_clauses z_read z_next z_wrong z_number z_text z_made z_deep z_lines z_open z_opened z_stack z_top z_word z_said z_force z_x z_absent z_isRaining z_wasSaid z_undone z_kept z_order z_bestOrder z_hasBy z_wealthThen z_isFit z_tillThen z_drawX z_images z_imageForce z_imageX z_isMade) (some (.int q)) := by
  refine rMet.of (by decide) rfl (Nat.le_of_ble_eq_true rfl) ?_
  refine r_sub (lv' := [(0, .ref (ad 0)), (1, .int x1)]) [0, 1] rfl ?_
  unfold m_isStall at h
  refine r_iload_n 1 dX12_isStall_0 rfl ?_
  refine r_if_lt 18 dX12_isStall_1 (by decide) (fun c1 => ?_) (fun c1 => ?_)
  · replace h := it_pos c1 h
    refine r_iconst (x := (0 : Int32)) dX12_isStall_18 (by decide) ?_
    have hq := Option.some.inj h
    subst hq
    exact r_zret (ty := .boolean) rfl rfl dX12_isStall_19
  · replace h := it_neg c1 h
    refine r_iload_n 1 dX12_isStall_4 rfl ?_
    refine r_aload_n 0 dX12_isStall_5 rfl ?_
    refine gM_said rfl dX12_isStall_6 ?_
    refine r_iconst (x := (3 : Int32)) dX12_isStall_9 (by decide) ?_
    obtain ⟨h2, h⟩ := rq_some h
    refine lM_said (inb_in h2) dX12_isStall_10 ?_
    refine r_icmp_ge 18 dX12_isStall_11 (by decide) (fun c3 => ?_) (fun c3 => ?_)
    · replace h := it_pos c3 h
      refine r_iconst (x := (0 : Int32)) dX12_isStall_18 (by decide) ?_
      have hq := Option.some.inj h
      subst hq
      exact r_zret (ty := .boolean) rfl rfl dX12_isStall_19
    · replace h := it_neg c3 h
      refine r_iconst (x := (1 : Int32)) dX12_isStall_14 (by decide) ?_
      refine r_goto 19 dX12_isStall_15 (by decide) ?_
      have hq := Option.some.inj h
      subst hq
      exact r_zret (ty := .boolean) rfl rfl dX12_isStall_19
theorem dX12_isBuyer_0 : decode cX12_isBuyer 0 = .ok (.iload_n 1, 1) := by decide +kernel
theorem dX12_isBuyer_1 : decode cX12_isBuyer 1 = .ok (.ifCond .lt 17, 3) := by decide +kernel
theorem dX12_isBuyer_4 : decode cX12_isBuyer 4 = .ok (.iload_n 1, 1) := by decide +kernel
theorem dX12_isBuyer_5 : decode cX12_isBuyer 5 = .ok (.aload_n 0, 1) := by decide +kernel
theorem dX12_isBuyer_6 : decode cX12_isBuyer 6 = .ok (.getfield 39, 3) := by decide +kernel
theorem dX12_isBuyer_9 : decode cX12_isBuyer 9 = .ok (.iconst 4, 1) := by decide +kernel
theorem dX12_isBuyer_10 : decode cX12_isBuyer 10 = .ok (.iaload, 1) := by decide +kernel
theorem dX12_isBuyer_11 : decode cX12_isBuyer 11 = .ok (.if_icmp .ge 7, 3) := by decide +kernel
theorem dX12_isBuyer_14 : decode cX12_isBuyer 14 = .ok (.iconst 1, 1) := by decide +kernel
theorem dX12_isBuyer_15 : decode cX12_isBuyer 15 = .ok (.goto 4, 3) := by decide +kernel
theorem dX12_isBuyer_18 : decode cX12_isBuyer 18 = .ok (.iconst 0, 1) := by decide +kernel
theorem dX12_isBuyer_19 : decode cX12_isBuyer 19 = .ok (.ireturn, 1) := by decide +kernel
abbrev Mm_isBuyer : rx_M := (RX12, yX12_isBuyer, cX12_isBuyer, 2, (some .boolean), 1)
theorem km_isBuyer : rKv Mm_isBuyer 1 := ⟨tb_in (i := 24) (j := 25) rfl rfl, tb_in (i := 24) (j := 26) rfl rfl, tb_in (i := 17) (j := 21) rfl rfl, tb_in (i := 23) (j := 11) rfl rfl, ⟨by decide, by decide, by decide +kernel⟩, by decide⟩
def m_isBuyer (x1 : Int32) (z_said : Nat → Int32) : Option (Int32) := (if x1 < 0 then some ((0 : Int32)) else rq (inb (4 : Int32) 156) ((if (z_said (4 : Int32).toNatClampNeg) ≤ x1 then some ((0 : Int32)) else some ((1 : Int32)))))
set_option maxRecDepth 20000 in
theorem cm_isBuyer {q : Int32} {x1 : Int32} (h : m_isBuyer x1 z_said = some q) : rMet l D Z (ty7 K) Mm_isBuyer [.ref (ad 0), .int x1] (wM K ad z_tape z_taped z_rules z_sign z_length z_clause z_clauses z_read z_next z_wrong z_number z_text z_made z_deep z_lines z_open z_opened z_stack z_top z_word z_said z_force z_x z_absent z_isRaining z_wasSaid z_undone z_kept z_order z_bestOrder z_hasBy z_wealthThen z_isFit z_tillThen z_drawX z_images z_imageForce z_imageX z_isMade) (wM K ad z_tape z_taped z_rules z_sign z_length z_clause z_clauses z_read z_next z_wrong z_number z_text z_made z_deep z_lines z_open z_opened z_stack z_top z_word z_said z_force z_x z_absent z_isRaining z_wasSaid z_undone z_kept z_order z_bestOrder z_hasBy z_wealthThen z_isFit z_tillThen z_drawX z_images z_imageForce z_imageX z_isMade) (some (.int q)) := by
  refine rMet.of (by decide) rfl (Nat.le_of_ble_eq_true rfl) ?_
  refine r_sub (lv' := [(0, .ref (ad 0)), (1, .int x1)]) [0, 1] rfl ?_
  unfold m_isBuyer at h
  refine r_iload_n 1 dX12_isBuyer_0 rfl ?_
  refine r_if_lt 18 dX12_isBuyer_1 (by decide) (fun c1 => ?_) (fun c1 => ?_)
  · replace h := it_pos c1 h
    refine r_iconst (x := (0 : Int32)) dX12_isBuyer_18 (by decide) ?_
    have hq := Option.some.inj h
    subst hq
    exact r_zret (ty := .boolean) rfl rfl dX12_isBuyer_19
  · replace h := it_neg c1 h
    refine r_iload_n 1 dX12_isBuyer_4 rfl ?_
    refine r_aload_n 0 dX12_isBuyer_5 rfl ?_
    refine gM_said rfl dX12_isBuyer_6 ?_
    refine r_iconst (x := (4 : Int32)) dX12_isBuyer_9 (by decide) ?_
    obtain ⟨h2, h⟩ := rq_some h
    refine lM_said (inb_in h2) dX12_isBuyer_10 ?_
    refine r_icmp_ge 18 dX12_isBuyer_11 (by decide) (fun c3 => ?_) (fun c3 => ?_)
    · replace h := it_pos c3 h
      refine r_iconst (x := (0 : Int32)) dX12_isBuyer_18 (by decide) ?_
      have hq := Option.some.inj h
      subst hq
      exact r_zret (ty := .boolean) rfl rfl dX12_isBuyer_19
    · replace h := it_neg c3 h
      refine r_iconst (x := (1 : Int32)) dX12_isBuyer_14 (by decide) ?_
      refine r_goto 19 dX12_isBuyer_15 (by decide) ?_
      have hq := Option.some.inj h
      subst hq
      exact r_zret (ty := .boolean) rfl rfl dX12_isBuyer_19
theorem dX12_goodsOf_0 : decode cX12_goodsOf 0 = .ok (.aload_n 0, 1) := by decide +kernel
theorem dX12_goodsOf_1 : decode cX12_goodsOf 1 = .ok (.getfield 39, 3) := by decide +kernel
theorem dX12_goodsOf_4 : decode cX12_goodsOf 4 = .ok (.bipush 11, 2) := by decide +kernel
theorem dX12_goodsOf_6 : decode cX12_goodsOf 6 = .ok (.iconst 4, 1) := by decide +kernel
theorem dX12_goodsOf_7 : decode cX12_goodsOf 7 = .ok (.iload_n 1, 1) := by decide +kernel
theorem dX12_goodsOf_8 : decode cX12_goodsOf 8 = .ok (.imul, 1) := by decide +kernel
theorem dX12_goodsOf_9 : decode cX12_goodsOf 9 = .ok (.iadd, 1) := by decide +kernel
theorem dX12_goodsOf_10 : decode cX12_goodsOf 10 = .ok (.iaload, 1) := by decide +kernel
theorem dX12_goodsOf_11 : decode cX12_goodsOf 11 = .ok (.ireturn, 1) := by decide +kernel
abbrev Mm_goodsOf : rx_M := (RX12, yX12_goodsOf, cX12_goodsOf, 2, (some .int), 1)
theorem km_goodsOf : rKv Mm_goodsOf 1 := ⟨tb_in (i := 24) (j := 5) rfl rfl, tb_in (i := 24) (j := 6) rfl rfl, tb_in (i := 17) (j := 21) rfl rfl, tb_in (i := 23) (j := 12) rfl rfl, ⟨by decide, by decide, by decide +kernel⟩, by decide⟩
def m_goodsOf (x1 : Int32) (z_said : Nat → Int32) : Option (Int32) := rq (inb ((11 : Int32) + ((4 : Int32) * x1)) 156) (some ((z_said ((11 : Int32) + ((4 : Int32) * x1)).toNatClampNeg)))
set_option maxRecDepth 20000 in
theorem cm_goodsOf {q : Int32} {x1 : Int32} (h : m_goodsOf x1 z_said = some q) : rMet l D Z (ty7 K) Mm_goodsOf [.ref (ad 0), .int x1] (wM K ad z_tape z_taped z_rules z_sign z_length z_clause z_clauses z_read z_next z_wrong z_number z_text z_made z_deep z_lines z_open z_opened z_stack z_top z_word z_said z_force z_x z_absent z_isRaining z_wasSaid z_undone z_kept z_order z_bestOrder z_hasBy z_wealthThen z_isFit z_tillThen z_drawX z_images z_imageForce z_imageX z_isMade) (wM K ad z_tape z_taped z_rules z_sign z_length z_clause z_clauses z_read z_next z_wrong z_number z_text z_made z_deep z_lines z_open z_opened z_stack z_top z_word z_said z_force z_x z_absent z_isRaining z_wasSaid z_undone z_kept z_order z_bestOrder z_hasBy z_wealthThen z_isFit z_tillThen z_drawX z_images z_imageForce z_imageX z_isMade) (some (.int q)) := by
  refine rMet.of (by decide) rfl (Nat.le_of_ble_eq_true rfl) ?_
  refine r_sub (lv' := [(0, .ref (ad 0)), (1, .int x1)]) [0, 1] rfl ?_
  unfold m_goodsOf at h
  refine r_aload_n 0 dX12_goodsOf_0 rfl ?_
  refine gM_said rfl dX12_goodsOf_1 ?_
  refine r_bipush (x := (11 : Int32)) dX12_goodsOf_4 (by decide) ?_
  refine r_iconst (x := (4 : Int32)) dX12_goodsOf_6 (by decide) ?_
  refine r_iload_n 1 dX12_goodsOf_7 rfl ?_
  refine r_imul dX12_goodsOf_8 ?_
  refine r_iadd dX12_goodsOf_9 ?_
  obtain ⟨h1, h⟩ := rq_some h
  refine lM_said (inb_in h1) dX12_goodsOf_10 ?_
  have hq := Option.some.inj h
  subst hq
  exact r_iret rfl dX12_goodsOf_11
theorem dX12_priceOf_0 : decode cX12_priceOf 0 = .ok (.aload_n 0, 1) := by decide +kernel
theorem dX12_priceOf_1 : decode cX12_priceOf 1 = .ok (.getfield 39, 3) := by decide +kernel
theorem dX12_priceOf_4 : decode cX12_priceOf 4 = .ok (.bipush 11, 2) := by decide +kernel
theorem dX12_priceOf_6 : decode cX12_priceOf 6 = .ok (.iconst 4, 1) := by decide +kernel
theorem dX12_priceOf_7 : decode cX12_priceOf 7 = .ok (.iload_n 1, 1) := by decide +kernel
theorem dX12_priceOf_8 : decode cX12_priceOf 8 = .ok (.imul, 1) := by decide +kernel
theorem dX12_priceOf_9 : decode cX12_priceOf 9 = .ok (.iadd, 1) := by decide +kernel
theorem dX12_priceOf_10 : decode cX12_priceOf 10 = .ok (.iconst 1, 1) := by decide +kernel
theorem dX12_priceOf_11 : decode cX12_priceOf 11 = .ok (.iadd, 1) := by decide +kernel
theorem dX12_priceOf_12 : decode cX12_priceOf 12 = .ok (.iaload, 1) := by decide +kernel
theorem dX12_priceOf_13 : decode cX12_priceOf 13 = .ok (.ireturn, 1) := by decide +kernel
abbrev Mm_priceOf : rx_M := (RX12, yX12_priceOf, cX12_priceOf, 2, (some .int), 1)
theorem km_priceOf : rKv Mm_priceOf 1 := ⟨tb_in (i := 24) (j := 8) rfl rfl, tb_in (i := 24) (j := 9) rfl rfl, tb_in (i := 17) (j := 21) rfl rfl, tb_in (i := 23) (j := 13) rfl rfl, ⟨by decide, by decide, by decide +kernel⟩, by decide⟩
def m_priceOf (x1 : Int32) (z_said : Nat → Int32) : Option (Int32) := rq (inb (((11 : Int32) + ((4 : Int32) * x1)) + (1 : Int32)) 156) (some ((z_said (((11 : Int32) + ((4 : Int32) * x1)) + (1 : Int32)).toNatClampNeg)))
set_option maxRecDepth 20000 in
theorem cm_priceOf {q : Int32} {x1 : Int32} (h : m_priceOf x1 z_said = some q) : rMet l D Z (ty7 K) Mm_priceOf [.ref (ad 0), .int x1] (wM K ad z_tape z_taped z_rules z_sign z_length z_clause z_clauses z_read z_next z_wrong z_number z_text z_made z_deep z_lines z_open z_opened z_stack z_top z_word z_said z_force z_x z_absent z_isRaining z_wasSaid z_undone z_kept z_order z_bestOrder z_hasBy z_wealthThen z_isFit z_tillThen z_drawX z_images z_imageForce z_imageX z_isMade) (wM K ad z_tape z_taped z_rules z_sign z_length z_clause z_clauses z_read z_next z_wrong z_number z_text z_made z_deep z_lines z_open z_opened z_stack z_top z_word z_said z_force z_x z_absent z_isRaining z_wasSaid z_undone z_kept z_order z_bestOrder z_hasBy z_wealthThen z_isFit z_tillThen z_drawX z_images z_imageForce z_imageX z_isMade) (some (.int q)) := by
  refine rMet.of (by decide) rfl (Nat.le_of_ble_eq_true rfl) ?_
  refine r_sub (lv' := [(0, .ref (ad 0)), (1, .int x1)]) [0, 1] rfl ?_
  unfold m_priceOf at h
  refine r_aload_n 0 dX12_priceOf_0 rfl ?_
  refine gM_said rfl dX12_priceOf_1 ?_
  refine r_bipush (x := (11 : Int32)) dX12_priceOf_4 (by decide) ?_
  refine r_iconst (x := (4 : Int32)) dX12_priceOf_6 (by decide) ?_
  refine r_iload_n 1 dX12_priceOf_7 rfl ?_
  refine r_imul dX12_priceOf_8 ?_
  refine r_iadd dX12_priceOf_9 ?_
  refine r_iconst (x := (1 : Int32)) dX12_priceOf_10 (by decide) ?_
  refine r_iadd dX12_priceOf_11 ?_
  obtain ⟨h1, h⟩ := rq_some h
  refine lM_said (inb_in h1) dX12_priceOf_12 ?_
  have hq := Option.some.inj h
  subst hq
  exact r_iret rfl dX12_priceOf_13
theorem dX12_tillOf_0 : decode cX12_tillOf 0 = .ok (.aload_n 0, 1) := by decide +kernel
theorem dX12_tillOf_1 : decode cX12_tillOf 1 = .ok (.getfield 39, 3) := by decide +kernel
theorem dX12_tillOf_4 : decode cX12_tillOf 4 = .ok (.bipush 11, 2) := by decide +kernel
theorem dX12_tillOf_6 : decode cX12_tillOf 6 = .ok (.iconst 4, 1) := by decide +kernel
theorem dX12_tillOf_7 : decode cX12_tillOf 7 = .ok (.iload_n 1, 1) := by decide +kernel
theorem dX12_tillOf_8 : decode cX12_tillOf 8 = .ok (.imul, 1) := by decide +kernel
theorem dX12_tillOf_9 : decode cX12_tillOf 9 = .ok (.iadd, 1) := by decide +kernel
theorem dX12_tillOf_10 : decode cX12_tillOf 10 = .ok (.iconst 2, 1) := by decide +kernel
theorem dX12_tillOf_11 : decode cX12_tillOf 11 = .ok (.iadd, 1) := by decide +kernel
theorem dX12_tillOf_12 : decode cX12_tillOf 12 = .ok (.iaload, 1) := by decide +kernel
theorem dX12_tillOf_13 : decode cX12_tillOf 13 = .ok (.ireturn, 1) := by decide +kernel
abbrev Mm_tillOf : rx_M := (RX12, yX12_tillOf, cX12_tillOf, 2, (some .int), 1)
theorem km_tillOf : rKv Mm_tillOf 1 := ⟨tb_in (i := 25) (j := 16) rfl rfl, tb_in (i := 25) (j := 17) rfl rfl, tb_in (i := 17) (j := 21) rfl rfl, tb_in (i := 23) (j := 14) rfl rfl, ⟨by decide, by decide, by decide +kernel⟩, by decide⟩
def m_tillOf (x1 : Int32) (z_said : Nat → Int32) : Option (Int32) := rq (inb (((11 : Int32) + ((4 : Int32) * x1)) + (2 : Int32)) 156) (some ((z_said (((11 : Int32) + ((4 : Int32) * x1)) + (2 : Int32)).toNatClampNeg)))
set_option maxRecDepth 20000 in
theorem cm_tillOf {q : Int32} {x1 : Int32} (h : m_tillOf x1 z_said = some q) : rMet l D Z (ty7 K) Mm_tillOf [.ref (ad 0), .int x1] (wM K ad z_tape z_taped z_rules z_sign z_length z_clause z_clauses z_read z_next z_wrong z_number z_text z_made z_deep z_lines z_open z_opened z_stack z_top z_word z_said z_force z_x z_absent z_isRaining z_wasSaid z_undone z_kept z_order z_bestOrder z_hasBy z_wealthThen z_isFit z_tillThen z_drawX z_images z_imageForce z_imageX z_isMade) (wM K ad z_tape z_taped z_rules z_sign z_length z_clause z_clauses z_read z_next z_wrong z_number z_text z_made z_deep z_lines z_open z_opened z_stack z_top z_word z_said z_force z_x z_absent z_isRaining z_wasSaid z_undone z_kept z_order z_bestOrder z_hasBy z_wealthThen z_isFit z_tillThen z_drawX z_images z_imageForce z_imageX z_isMade) (some (.int q)) := by
  refine rMet.of (by decide) rfl (Nat.le_of_ble_eq_true rfl) ?_
  refine r_sub (lv' := [(0, .ref (ad 0)), (1, .int x1)]) [0, 1] rfl ?_
  unfold m_tillOf at h
  refine r_aload_n 0 dX12_tillOf_0 rfl ?_
  refine gM_said rfl dX12_tillOf_1 ?_
  refine r_bipush (x := (11 : Int32)) dX12_tillOf_4 (by decide) ?_
  refine r_iconst (x := (4 : Int32)) dX12_tillOf_6 (by decide) ?_
  refine r_iload_n 1 dX12_tillOf_7 rfl ?_
  refine r_imul dX12_tillOf_8 ?_
  refine r_iadd dX12_tillOf_9 ?_
  refine r_iconst (x := (2 : Int32)) dX12_tillOf_10 (by decide) ?_
  refine r_iadd dX12_tillOf_11 ?_
  obtain ⟨h1, h⟩ := rq_some h
  refine lM_said (inb_in h1) dX12_tillOf_12 ?_
  have hq := Option.some.inj h
  subst hq
  exact r_iret rfl dX12_tillOf_13
theorem dX12_wealthOf_0 : decode cX12_wealthOf 0 = .ok (.aload_n 0, 1) := by decide +kernel
theorem dX12_wealthOf_1 : decode cX12_wealthOf 1 = .ok (.getfield 39, 3) := by decide +kernel
theorem dX12_wealthOf_4 : decode cX12_wealthOf 4 = .ok (.bipush 11, 2) := by decide +kernel
theorem dX12_wealthOf_6 : decode cX12_wealthOf 6 = .ok (.iconst 4, 1) := by decide +kernel
theorem dX12_wealthOf_7 : decode cX12_wealthOf 7 = .ok (.iload_n 1, 1) := by decide +kernel
theorem dX12_wealthOf_8 : decode cX12_wealthOf 8 = .ok (.imul, 1) := by decide +kernel
theorem dX12_wealthOf_9 : decode cX12_wealthOf 9 = .ok (.iadd, 1) := by decide +kernel
theorem dX12_wealthOf_10 : decode cX12_wealthOf 10 = .ok (.iconst 3, 1) := by decide +kernel
theorem dX12_wealthOf_11 : decode cX12_wealthOf 11 = .ok (.iadd, 1) := by decide +kernel
theorem dX12_wealthOf_12 : decode cX12_wealthOf 12 = .ok (.iaload, 1) := by decide +kernel
theorem dX12_wealthOf_13 : decode cX12_wealthOf 13 = .ok (.ireturn, 1) := by decide +kernel
abbrev Mm_wealthOf : rx_M := (RX12, yX12_wealthOf, cX12_wealthOf, 2, (some .int), 1)
theorem km_wealthOf : rKv Mm_wealthOf 1 := ⟨tb_in (i := 27) (j := 1) rfl rfl, tb_in (i := 27) (j := 2) rfl rfl, tb_in (i := 17) (j := 21) rfl rfl, tb_in (i := 23) (j := 15) rfl rfl, ⟨by decide, by decide, by decide +kernel⟩, by decide⟩
def m_wealthOf (x1 : Int32) (z_said : Nat → Int32) : Option (Int32) := rq (inb (((11 : Int32) + ((4 : Int32) * x1)) + (3 : Int32)) 156) (some ((z_said (((11 : Int32) + ((4 : Int32) * x1)) + (3 : Int32)).toNatClampNeg)))
set_option maxRecDepth 20000 in
theorem cm_wealthOf {q : Int32} {x1 : Int32} (h : m_wealthOf x1 z_said = some q) : rMet l D Z (ty7 K) Mm_wealthOf [.ref (ad 0), .int x1] (wM K ad z_tape z_taped z_rules z_sign z_length z_clause z_clauses z_read z_next z_wrong z_number z_text z_made z_deep z_lines z_open z_opened z_stack z_top z_word z_said z_force z_x z_absent z_isRaining z_wasSaid z_undone z_kept z_order z_bestOrder z_hasBy z_wealthThen z_isFit z_tillThen z_drawX z_images z_imageForce z_imageX z_isMade) (wM K ad z_tape z_taped z_rules z_sign z_length z_clause z_clauses z_read z_next z_wrong z_number z_text z_made z_deep z_lines z_open z_opened z_stack z_top z_word z_said z_force z_x z_absent z_isRaining z_wasSaid z_undone z_kept z_order z_bestOrder z_hasBy z_wealthThen z_isFit z_tillThen z_drawX z_images z_imageForce z_imageX z_isMade) (some (.int q)) := by
  refine rMet.of (by decide) rfl (Nat.le_of_ble_eq_true rfl) ?_
  refine r_sub (lv' := [(0, .ref (ad 0)), (1, .int x1)]) [0, 1] rfl ?_
  unfold m_wealthOf at h
  refine r_aload_n 0 dX12_wealthOf_0 rfl ?_
  refine gM_said rfl dX12_wealthOf_1 ?_
  refine r_bipush (x := (11 : Int32)) dX12_wealthOf_4 (by decide) ?_
  refine r_iconst (x := (4 : Int32)) dX12_wealthOf_6 (by decide) ?_
  refine r_iload_n 1 dX12_wealthOf_7 rfl ?_
  refine r_imul dX12_wealthOf_8 ?_
  refine r_iadd dX12_wealthOf_9 ?_
  refine r_iconst (x := (3 : Int32)) dX12_wealthOf_10 (by decide) ?_
  refine r_iadd dX12_wealthOf_11 ?_
  obtain ⟨h1, h⟩ := rq_some h
  refine lM_said (inb_in h1) dX12_wealthOf_12 ?_
  have hq := Option.some.inj h
  subst hq
  exact r_iret rfl dX12_wealthOf_13
theorem dX12_placeOf_0 : decode cX12_placeOf 0 = .ok (.iconst 0, 1) := by decide +kernel
theorem dX12_placeOf_1 : decode cX12_placeOf 1 = .ok (.istore_n 2, 1) := by decide +kernel
theorem dX12_placeOf_2 : decode cX12_placeOf 2 = .ok (.aload_n 0, 1) := by decide +kernel
theorem dX12_placeOf_3 : decode cX12_placeOf 3 = .ok (.getfield 39, 3) := by decide +kernel
theorem dX12_placeOf_6 : decode cX12_placeOf 6 = .ok (.bipush 35, 2) := by decide +kernel
theorem dX12_placeOf_8 : decode cX12_placeOf 8 = .ok (.iload_n 2, 1) := by decide +kernel
theorem dX12_placeOf_9 : decode cX12_placeOf 9 = .ok (.iadd, 1) := by decide +kernel
theorem dX12_placeOf_10 : decode cX12_placeOf 10 = .ok (.iaload, 1) := by decide +kernel
theorem dX12_placeOf_11 : decode cX12_placeOf 11 = .ok (.iload_n 1, 1) := by decide +kernel
theorem dX12_placeOf_12 : decode cX12_placeOf 12 = .ok (.if_icmp .eq 9, 3) := by decide +kernel
theorem dX12_placeOf_15 : decode cX12_placeOf 15 = .ok (.iinc 2 1, 3) := by decide +kernel
theorem dX12_placeOf_18 : decode cX12_placeOf 18 = .ok (.goto (-16), 3) := by decide +kernel
theorem dX12_placeOf_21 : decode cX12_placeOf 21 = .ok (.iload_n 2, 1) := by decide +kernel
theorem dX12_placeOf_22 : decode cX12_placeOf 22 = .ok (.ireturn, 1) := by decide +kernel
abbrev Mm_placeOf : rx_M := (RX12, yX12_placeOf, cX12_placeOf, 3, (some .int), 1)
theorem km_placeOf : rKv Mm_placeOf 1 := ⟨tb_in (i := 23) (j := 19) rfl rfl, tb_in (i := 23) (j := 20) rfl rfl, tb_in (i := 17) (j := 21) rfl rfl, tb_in (i := 23) (j := 16) rfl rfl, ⟨by decide, by decide, by decide +kernel⟩, by decide⟩
def m_placeOf_l2 (z_said : Nat → Int32) (x1 : Int32) : Nat → Int32 → Option (Int32)
  | 0, _ => none
  | n + 1, x2 => rq (inb ((35 : Int32) + x2) 156) ((if (z_said ((35 : Int32) + x2).toNatClampNeg) = x1 then some (x2) else m_placeOf_l2 z_said x1 n (x2 + (1 : Int32))))
set_option maxRecDepth 20000 in
theorem cm_placeOf_l2 {q : Int32} {x1 : Int32}  : ∀ (n : Nat) (x2 : Int32), m_placeOf_l2 z_said x1 n x2 = some q → rW l D Z (ty7 K) Mm_placeOf 2 [(0, .ref (ad 0)), (1, .int x1), (2, .int x2)] [] (wM K ad z_tape z_taped z_rules z_sign z_length z_clause z_clauses z_read z_next z_wrong z_number z_text z_made z_deep z_lines z_open z_opened z_stack z_top z_word z_said z_force z_x z_absent z_isRaining z_wasSaid z_undone z_kept z_order z_bestOrder z_hasBy z_wealthThen z_isFit z_tillThen z_drawX z_images z_imageForce z_imageX z_isMade) (wM K ad z_tape z_taped z_rules z_sign z_length z_clause z_clauses z_read z_next z_wrong z_number z_text z_made z_deep z_lines z_open z_opened z_stack z_top z_word z_said z_force z_x z_absent z_isRaining z_wasSaid z_undone z_kept z_order z_bestOrder z_hasBy z_wealthThen z_isFit z_tillThen z_drawX z_images z_imageForce z_imageX z_isMade) (some (.int q)) := by
  intro n
  induction n with
  | zero => intro x2 h; unfold m_placeOf_l2 at h; cases h
  | succ n ih =>
    intro x2 h
    unfold m_placeOf_l2 at h
    refine r_aload_n 0 dX12_placeOf_2 rfl ?_
    refine gM_said rfl dX12_placeOf_3 ?_
    refine r_bipush (x := (35 : Int32)) dX12_placeOf_6 (by decide) ?_
    refine r_iload_n 2 dX12_placeOf_8 rfl ?_
    refine r_iadd dX12_placeOf_9 ?_
    obtain ⟨h1, h⟩ := rq_some h
    refine lM_said (inb_in h1) dX12_placeOf_10 ?_
    refine r_iload_n 1 dX12_placeOf_11 rfl ?_
    refine r_icmp_eq 21 dX12_placeOf_12 (by decide) (fun c2 => ?_) (fun c2 => ?_)
    · replace h := it_pos c2 h
      refine r_iload_n 2 dX12_placeOf_21 rfl ?_
      have hq := Option.some.inj h
      subst hq
      exact r_iret rfl dX12_placeOf_22
    · replace h := it_neg c2 h
      refine r_iinc (y := (x2 + (1 : Int32))) (lv' := [(2, .int (x2 + (1 : Int32))), (0, .ref (ad 0)), (1, .int x1)]) 2 dX12_placeOf_15 rfl rfl (by decide) rfl ?_
      refine r_goto 2 dX12_placeOf_18 (by decide) ?_
      refine r_sub (lv' := [(0, .ref (ad 0)), (1, .int x1), (2, .int (x2 + (1 : Int32)))]) [1, 2, 0] rfl ?_
      exact ih _ h
def m_placeOf (x1 : Int32) (z_said : Nat → Int32) : Option (Int32) := m_placeOf_l2 z_said x1 FU (0 : Int32)
set_option maxRecDepth 20000 in
theorem cm_placeOf {q : Int32} {x1 : Int32} (h : m_placeOf x1 z_said = some q) : rMet l D Z (ty7 K) Mm_placeOf [.ref (ad 0), .int x1] (wM K ad z_tape z_taped z_rules z_sign z_length z_clause z_clauses z_read z_next z_wrong z_number z_text z_made z_deep z_lines z_open z_opened z_stack z_top z_word z_said z_force z_x z_absent z_isRaining z_wasSaid z_undone z_kept z_order z_bestOrder z_hasBy z_wealthThen z_isFit z_tillThen z_drawX z_images z_imageForce z_imageX z_isMade) (wM K ad z_tape z_taped z_rules z_sign z_length z_clause z_clauses z_read z_next z_wrong z_number z_text z_made z_deep z_lines z_open z_opened z_stack z_top z_word z_said z_force z_x z_absent z_isRaining z_wasSaid z_undone z_kept z_order z_bestOrder z_hasBy z_wealthThen z_isFit z_tillThen z_drawX z_images z_imageForce z_imageX z_isMade) (some (.int q)) := by
  refine rMet.of (by decide) rfl (Nat.le_of_ble_eq_true rfl) ?_
  refine r_sub (lv' := [(0, .ref (ad 0)), (1, .int x1)]) [0, 1] rfl ?_
  unfold m_placeOf at h
  refine r_iconst (x := (0 : Int32)) dX12_placeOf_0 (by decide) ?_
  refine r_istore_n (lv' := [(2, .int (0 : Int32)), (0, .ref (ad 0)), (1, .int x1)]) dX12_placeOf_1 (by decide) rfl ?_
  refine r_sub (lv' := [(0, .ref (ad 0)), (1, .int x1), (2, .int (0 : Int32))]) [1, 2, 0] rfl ?_
  exact cm_placeOf_l2  FU _ h
theorem dX12_besideOf_0 : decode cX12_besideOf 0 = .ok (.aload_n 0, 1) := by decide +kernel
theorem dX12_besideOf_1 : decode cX12_besideOf 1 = .ok (.getfield 39, 3) := by decide +kernel
theorem dX12_besideOf_4 : decode cX12_besideOf 4 = .ok (.bipush 35, 2) := by decide +kernel
theorem dX12_besideOf_6 : decode cX12_besideOf 6 = .ok (.aload_n 0, 1) := by decide +kernel
theorem dX12_besideOf_7 : decode cX12_besideOf 7 = .ok (.iload_n 1, 1) := by decide +kernel
theorem dX12_besideOf_8 : decode cX12_besideOf 8 = .ok (.invokevirtual 286, 3) := by decide +kernel
theorem dX12_besideOf_11 : decode cX12_besideOf 11 = .ok (.iload_n 2, 1) := by decide +kernel
theorem dX12_besideOf_12 : decode cX12_besideOf 12 = .ok (.iadd, 1) := by decide +kernel
theorem dX12_besideOf_13 : decode cX12_besideOf 13 = .ok (.aload_n 0, 1) := by decide +kernel
theorem dX12_besideOf_14 : decode cX12_besideOf 14 = .ok (.getfield 39, 3) := by decide +kernel
theorem dX12_besideOf_17 : decode cX12_besideOf 17 = .ok (.iconst 3, 1) := by decide +kernel
theorem dX12_besideOf_18 : decode cX12_besideOf 18 = .ok (.iaload, 1) := by decide +kernel
theorem dX12_besideOf_19 : decode cX12_besideOf 19 = .ok (.iadd, 1) := by decide +kernel
theorem dX12_besideOf_20 : decode cX12_besideOf 20 = .ok (.aload_n 0, 1) := by decide +kernel
theorem dX12_besideOf_21 : decode cX12_besideOf 21 = .ok (.getfield 39, 3) := by decide +kernel
theorem dX12_besideOf_24 : decode cX12_besideOf 24 = .ok (.iconst 3, 1) := by decide +kernel
theorem dX12_besideOf_25 : decode cX12_besideOf 25 = .ok (.iaload, 1) := by decide +kernel
theorem dX12_besideOf_26 : decode cX12_besideOf 26 = .ok (.irem, 1) := by decide +kernel
theorem dX12_besideOf_27 : decode cX12_besideOf 27 = .ok (.iadd, 1) := by decide +kernel
theorem dX12_besideOf_28 : decode cX12_besideOf 28 = .ok (.iaload, 1) := by decide +kernel
theorem dX12_besideOf_29 : decode cX12_besideOf 29 = .ok (.ireturn, 1) := by decide +kernel
abbrev Mm_besideOf : rx_M := (RX12, yX12_besideOf, cX12_besideOf, 3, (some .int), 2)
theorem km_besideOf : rKv Mm_besideOf 2 := ⟨tb_in (i := 23) (j := 23) rfl rfl, tb_in (i := 23) (j := 24) rfl rfl, tb_in (i := 17) (j := 21) rfl rfl, tb_in (i := 23) (j := 17) rfl rfl, ⟨by decide, by decide, by decide +kernel⟩, by decide⟩
def m_besideOf (x1 : Int32) (x2 : Int32) (z_said : Nat → Int32) : Option (Int32) := (m_placeOf x1 z_said).bind (fun q1 => rq (inb (3 : Int32) 156) (rq (inb (3 : Int32) 156) (rq (decide (¬ (z_said (3 : Int32).toNatClampNeg) = 0)) (rq (inb ((35 : Int32) + (((q1 + x2) + (z_said (3 : Int32).toNatClampNeg)) - ((q1 + x2) + (z_said (3 : Int32).toNatClampNeg)) / (z_said (3 : Int32).toNatClampNeg) * (z_said (3 : Int32).toNatClampNeg))) 156) (some ((z_said ((35 : Int32) + (((q1 + x2) + (z_said (3 : Int32).toNatClampNeg)) - ((q1 + x2) + (z_said (3 : Int32).toNatClampNeg)) / (z_said (3 : Int32).toNatClampNeg) * (z_said (3 : Int32).toNatClampNeg))).toNatClampNeg)))))))
set_option maxRecDepth 20000 in
theorem cm_besideOf {q : Int32} {x1 : Int32} {x2 : Int32} (h : m_besideOf x1 x2 z_said = some q) : rMet l D Z (ty7 K) Mm_besideOf [.ref (ad 0), .int x1, .int x2] (wM K ad z_tape z_taped z_rules z_sign z_length z_clause z_clauses z_read z_next z_wrong z_number z_text z_made z_deep z_lines z_open z_opened z_stack z_top z_word z_said z_force z_x z_absent z_isRaining z_wasSaid z_undone z_kept z_order z_bestOrder z_hasBy z_wealthThen z_isFit z_tillThen z_drawX z_images z_imageForce z_imageX z_isMade) (wM K ad z_tape z_taped z_rules z_sign z_length z_clause z_clauses z_read z_next z_wrong z_number z_text z_made z_deep z_lines z_open z_opened z_stack z_top z_word z_said z_force z_x z_absent z_isRaining z_wasSaid z_undone z_kept z_order z_bestOrder z_hasBy z_wealthThen z_isFit z_tillThen z_drawX z_images z_imageForce z_imageX z_isMade) (some (.int q)) := by
  refine rMet.of (by decide) rfl (Nat.le_of_ble_eq_true rfl) ?_
  refine r_sub (lv' := [(0, .ref (ad 0)), (1, .int x1), (2, .int x2)]) [0, 1, 2] rfl ?_
  unfold m_besideOf at h
  refine r_aload_n 0 dX12_besideOf_0 rfl ?_
  refine gM_said rfl dX12_besideOf_1 ?_
  refine r_bipush (x := (35 : Int32)) dX12_besideOf_4 (by decide) ?_
  refine r_aload_n 0 dX12_besideOf_6 rfl ?_
  refine r_iload_n 1 dX12_besideOf_7 rfl ?_
  obtain ⟨q1, h1, h⟩ := bd_some h
  refine cvM (st := [.int (35 : Int32), .ref (ad 10)]) (cm_placeOf h1) rfl rfl (Nat.le_of_ble_eq_true rfl) km_placeOf (tb_in (i := 23) (j := 18) rfl rfl) (by decide) rfl dX12_besideOf_8 ?_
  refine r_iload_n 2 dX12_besideOf_11 rfl ?_
  refine r_iadd dX12_besideOf_12 ?_
  refine r_aload_n 0 dX12_besideOf_13 rfl ?_
  refine gM_said rfl dX12_besideOf_14 ?_
  refine r_iconst (x := (3 : Int32)) dX12_besideOf_17 (by decide) ?_
  obtain ⟨h2, h⟩ := rq_some h
  refine lM_said (inb_in h2) dX12_besideOf_18 ?_
  refine r_iadd dX12_besideOf_19 ?_
  refine r_aload_n 0 dX12_besideOf_20 rfl ?_
  refine gM_said rfl dX12_besideOf_21 ?_
  refine r_iconst (x := (3 : Int32)) dX12_besideOf_24 (by decide) ?_
  obtain ⟨h3, h⟩ := rq_some h
  refine lM_said (inb_in h3) dX12_besideOf_25 ?_
  obtain ⟨h4, h⟩ := rq_some h
  refine r_irem dX12_besideOf_26 (of_decide_eq_true h4) ?_
  refine r_iadd dX12_besideOf_27 ?_
  obtain ⟨h5, h⟩ := rq_some h
  refine lM_said (inb_in h5) dX12_besideOf_28 ?_
  have hq := Option.some.inj h
  subst hq
  exact r_iret rfl dX12_besideOf_29
theorem dX12_sellerOf_0 : decode cX12_sellerOf 0 = .ok (.aload_n 0, 1) := by decide +kernel
theorem dX12_sellerOf_1 : decode cX12_sellerOf 1 = .ok (.iload_n 1, 1) := by decide +kernel
theorem dX12_sellerOf_2 : decode cX12_sellerOf 2 = .ok (.iconst (-1), 1) := by decide +kernel
theorem dX12_sellerOf_3 : decode cX12_sellerOf 3 = .ok (.invokevirtual 289, 3) := by decide +kernel
theorem dX12_sellerOf_6 : decode cX12_sellerOf 6 = .ok (.ireturn, 1) := by decide +kernel
abbrev Mm_sellerOf : rx_M := (RX12, yX12_sellerOf, cX12_sellerOf, 2, (some .int), 3)
theorem km_sellerOf : rKv Mm_sellerOf 1 := ⟨tb_in (i := 23) (j := 30) rfl rfl, tb_in (i := 23) (j := 31) rfl rfl, tb_in (i := 17) (j := 21) rfl rfl, tb_in (i := 23) (j := 21) rfl rfl, ⟨by decide, by decide, by decide +kernel⟩, by decide⟩
def m_sellerOf (x1 : Int32) (z_said : Nat → Int32) : Option (Int32) := (m_besideOf x1 (-1 : Int32) z_said).bind (fun q1 => some (q1))
set_option maxRecDepth 20000 in
theorem cm_sellerOf {q : Int32} {x1 : Int32} (h : m_sellerOf x1 z_said = some q) : rMet l D Z (ty7 K) Mm_sellerOf [.ref (ad 0), .int x1] (wM K ad z_tape z_taped z_rules z_sign z_length z_clause z_clauses z_read z_next z_wrong z_number z_text z_made z_deep z_lines z_open z_opened z_stack z_top z_word z_said z_force z_x z_absent z_isRaining z_wasSaid z_undone z_kept z_order z_bestOrder z_hasBy z_wealthThen z_isFit z_tillThen z_drawX z_images z_imageForce z_imageX z_isMade) (wM K ad z_tape z_taped z_rules z_sign z_length z_clause z_clauses z_read z_next z_wrong z_number z_text z_made z_deep z_lines z_open z_opened z_stack z_top z_word z_said z_force z_x z_absent z_isRaining z_wasSaid z_undone z_kept z_order z_bestOrder z_hasBy z_wealthThen z_isFit z_tillThen z_drawX z_images z_imageForce z_imageX z_isMade) (some (.int q)) := by
  refine rMet.of (by decide) rfl (Nat.le_of_ble_eq_true rfl) ?_
  refine r_sub (lv' := [(0, .ref (ad 0)), (1, .int x1)]) [0, 1] rfl ?_
  unfold m_sellerOf at h
  refine r_aload_n 0 dX12_sellerOf_0 rfl ?_
  refine r_iload_n 1 dX12_sellerOf_1 rfl ?_
  refine r_iconst (x := (-1 : Int32)) dX12_sellerOf_2 (by decide) ?_
  obtain ⟨q1, h1, h⟩ := bd_some h
  refine cvM (st := []) (cm_besideOf h1) rfl rfl (Nat.le_of_ble_eq_true rfl) km_besideOf (tb_in (i := 23) (j := 22) rfl rfl) (by decide) rfl dX12_sellerOf_3 ?_
  have hq := Option.some.inj h
  subst hq
  exact r_iret rfl dX12_sellerOf_6
theorem dX12_bears_0 : decode cX12_bears 0 = .ok (.aload_n 0, 1) := by decide +kernel
theorem dX12_bears_1 : decode cX12_bears 1 = .ok (.getfield 39, 3) := by decide +kernel
theorem dX12_bears_4 : decode cX12_bears 4 = .ok (.bipush 41, 2) := by decide +kernel
theorem dX12_bears_6 : decode cX12_bears 6 = .ok (.iload_n 1, 1) := by decide +kernel
theorem dX12_bears_7 : decode cX12_bears 7 = .ok (.iadd, 1) := by decide +kernel
theorem dX12_bears_8 : decode cX12_bears 8 = .ok (.iaload, 1) := by decide +kernel
theorem dX12_bears_9 : decode cX12_bears 9 = .ok (.iload_n 2, 1) := by decide +kernel
theorem dX12_bears_10 : decode cX12_bears 10 = .ok (.invokestatic 293, 3) := by decide +kernel
theorem dX12_bears_13 : decode cX12_bears 13 = .ok (.ireturn, 1) := by decide +kernel
abbrev Mm_bears : rx_M := (RX12, yX12_bears, cX12_bears, 3, (some .boolean), 2)
theorem km_bears : rKv Mm_bears 2 := ⟨tb_in (i := 24) (j := 1) rfl rfl, tb_in (i := 24) (j := 2) rfl rfl, tb_in (i := 17) (j := 21) rfl rfl, tb_in (i := 23) (j := 25) rfl rfl, ⟨by decide, by decide, by decide +kernel⟩, by decide⟩
def m_bears (x1 : Int32) (x2 : Int32) (z_said : Nat → Int32) : Option (Int32) := rq (inb ((41 : Int32) + x1) 156) ((m_isOf (z_said ((41 : Int32) + x1).toNatClampNeg) x2).bind (fun q2 => rq (bo q2) (some (q2))))
set_option maxRecDepth 20000 in
theorem cm_bears {q : Int32} {x1 : Int32} {x2 : Int32} (h : m_bears x1 x2 z_said = some q) : rMet l D Z (ty7 K) Mm_bears [.ref (ad 0), .int x1, .int x2] (wM K ad z_tape z_taped z_rules z_sign z_length z_clause z_clauses z_read z_next z_wrong z_number z_text z_made z_deep z_lines z_open z_opened z_stack z_top z_word z_said z_force z_x z_absent z_isRaining z_wasSaid z_undone z_kept z_order z_bestOrder z_hasBy z_wealthThen z_isFit z_tillThen z_drawX z_images z_imageForce z_imageX z_isMade) (wM K ad z_tape z_taped z_rules z_sign z_length z_clause z_clauses z_read z_next z_wrong z_number z_text z_made z_deep z_lines z_open z_opened z_stack z_top z_word z_said z_force z_x z_absent z_isRaining z_wasSaid z_undone z_kept z_order z_bestOrder z_hasBy z_wealthThen z_isFit z_tillThen z_drawX z_images z_imageForce z_imageX z_isMade) (some (.int q)) := by
  refine rMet.of (by decide) rfl (Nat.le_of_ble_eq_true rfl) ?_
  refine r_sub (lv' := [(0, .ref (ad 0)), (1, .int x1), (2, .int x2)]) [0, 1, 2] rfl ?_
  unfold m_bears at h
  refine r_aload_n 0 dX12_bears_0 rfl ?_
  refine gM_said rfl dX12_bears_1 ?_
  refine r_bipush (x := (41 : Int32)) dX12_bears_4 (by decide) ?_
  refine r_iload_n 1 dX12_bears_6 rfl ?_
  refine r_iadd dX12_bears_7 ?_
  obtain ⟨h1, h⟩ := rq_some h
  refine lM_said (inb_in h1) dX12_bears_8 ?_
  refine r_iload_n 2 dX12_bears_9 rfl ?_
  obtain ⟨q2, h2, h⟩ := bd_some h
  refine r_callS (st := []) (cm_isOf h2) rfl rfl (Nat.le_of_ble_eq_true rfl) km_isOf (tb_in (i := 23) (j := 26) rfl rfl) (by decide) dX12_bears_10 ?_
  obtain ⟨h3, h⟩ := rq_some h
  have hq := Option.some.inj h
  subst hq
  exact r_zret (ty := .boolean) rfl (bo_nar h3) dX12_bears_13
theorem dX12_praiseOf_0 : decode cX12_praiseOf 0 = .ok (.aload_n 0, 1) := by decide +kernel
theorem dX12_praiseOf_1 : decode cX12_praiseOf 1 = .ok (.iload_n 1, 1) := by decide +kernel
theorem dX12_praiseOf_2 : decode cX12_praiseOf 2 = .ok (.invokevirtual 296, 3) := by decide +kernel
theorem dX12_praiseOf_5 : decode cX12_praiseOf 5 = .ok (.istore_n 2, 1) := by decide +kernel
theorem dX12_praiseOf_6 : decode cX12_praiseOf 6 = .ok (.aload_n 0, 1) := by decide +kernel
theorem dX12_praiseOf_7 : decode cX12_praiseOf 7 = .ok (.iload_n 2, 1) := by decide +kernel
theorem dX12_praiseOf_8 : decode cX12_praiseOf 8 = .ok (.iload_n 1, 1) := by decide +kernel
theorem dX12_praiseOf_9 : decode cX12_praiseOf 9 = .ok (.invokevirtual 299, 3) := by decide +kernel
theorem dX12_praiseOf_12 : decode cX12_praiseOf 12 = .ok (.ifCond .eq 17, 3) := by decide +kernel
theorem dX12_praiseOf_15 : decode cX12_praiseOf 15 = .ok (.aload_n 0, 1) := by decide +kernel
theorem dX12_praiseOf_16 : decode cX12_praiseOf 16 = .ok (.getfield 39, 3) := by decide +kernel
theorem dX12_praiseOf_19 : decode cX12_praiseOf 19 = .ok (.bipush 89, 2) := by decide +kernel
theorem dX12_praiseOf_21 : decode cX12_praiseOf 21 = .ok (.iload_n 2, 1) := by decide +kernel
theorem dX12_praiseOf_22 : decode cX12_praiseOf 22 = .ok (.iadd, 1) := by decide +kernel
theorem dX12_praiseOf_23 : decode cX12_praiseOf 23 = .ok (.iaload, 1) := by decide +kernel
theorem dX12_praiseOf_24 : decode cX12_praiseOf 24 = .ok (.iconst 2, 1) := by decide +kernel
theorem dX12_praiseOf_25 : decode cX12_praiseOf 25 = .ok (.idiv, 1) := by decide +kernel
theorem dX12_praiseOf_26 : decode cX12_praiseOf 26 = .ok (.goto 12, 3) := by decide +kernel
theorem dX12_praiseOf_29 : decode cX12_praiseOf 29 = .ok (.aload_n 0, 1) := by decide +kernel
theorem dX12_praiseOf_30 : decode cX12_praiseOf 30 = .ok (.getfield 39, 3) := by decide +kernel
theorem dX12_praiseOf_33 : decode cX12_praiseOf 33 = .ok (.bipush 89, 2) := by decide +kernel
theorem dX12_praiseOf_35 : decode cX12_praiseOf 35 = .ok (.iload_n 2, 1) := by decide +kernel
theorem dX12_praiseOf_36 : decode cX12_praiseOf 36 = .ok (.iadd, 1) := by decide +kernel
theorem dX12_praiseOf_37 : decode cX12_praiseOf 37 = .ok (.iaload, 1) := by decide +kernel
theorem dX12_praiseOf_38 : decode cX12_praiseOf 38 = .ok (.ireturn, 1) := by decide +kernel
abbrev Mm_praiseOf : rx_M := (RX12, yX12_praiseOf, cX12_praiseOf, 3, (some .int), 4)
theorem km_praiseOf : rKv Mm_praiseOf 1 := ⟨tb_in (i := 24) (j := 19) rfl rfl, tb_in (i := 24) (j := 20) rfl rfl, tb_in (i := 17) (j := 21) rfl rfl, tb_in (i := 23) (j := 28) rfl rfl, ⟨by decide, by decide, by decide +kernel⟩, by decide⟩
def m_praiseOf (x1 : Int32) (z_said : Nat → Int32) : Option (Int32) := (m_sellerOf x1 z_said).bind (fun q1 => (m_bears q1 x1 z_said).bind (fun q2 => (if q2 = 0 then rq (inb ((89 : Int32) + q1) 156) (some ((z_said ((89 : Int32) + q1).toNatClampNeg))) else rq (inb ((89 : Int32) + q1) 156) (some (((z_said ((89 : Int32) + q1).toNatClampNeg) / (2 : Int32)))))))
set_option maxRecDepth 20000 in
theorem cm_praiseOf {q : Int32} {x1 : Int32} (h : m_praiseOf x1 z_said = some q) : rMet l D Z (ty7 K) Mm_praiseOf [.ref (ad 0), .int x1] (wM K ad z_tape z_taped z_rules z_sign z_length z_clause z_clauses z_read z_next z_wrong z_number z_text z_made z_deep z_lines z_open z_opened z_stack z_top z_word z_said z_force z_x z_absent z_isRaining z_wasSaid z_undone z_kept z_order z_bestOrder z_hasBy z_wealthThen z_isFit z_tillThen z_drawX z_images z_imageForce z_imageX z_isMade) (wM K ad z_tape z_taped z_rules z_sign z_length z_clause z_clauses z_read z_next z_wrong z_number z_text z_made z_deep z_lines z_open z_opened z_stack z_top z_word z_said z_force z_x z_absent z_isRaining z_wasSaid z_undone z_kept z_order z_bestOrder z_hasBy z_wealthThen z_isFit z_tillThen z_drawX z_images z_imageForce z_imageX z_isMade) (some (.int q)) := by
  refine rMet.of (by decide) rfl (Nat.le_of_ble_eq_true rfl) ?_
  refine r_sub (lv' := [(0, .ref (ad 0)), (1, .int x1)]) [0, 1] rfl ?_
  unfold m_praiseOf at h
  refine r_aload_n 0 dX12_praiseOf_0 rfl ?_
  refine r_iload_n 1 dX12_praiseOf_1 rfl ?_
  obtain ⟨q1, h1, h⟩ := bd_some h
  refine cvM (st := []) (cm_sellerOf h1) rfl rfl (Nat.le_of_ble_eq_true rfl) km_sellerOf (tb_in (i := 23) (j := 29) rfl rfl) (by decide) rfl dX12_praiseOf_2 ?_
  refine r_istore_n (lv' := [(2, .int q1), (0, .ref (ad 0)), (1, .int x1)]) dX12_praiseOf_5 (by decide) rfl ?_
  refine r_aload_n 1 dX12_praiseOf_6 rfl ?_
  refine r_iload_n 0 dX12_praiseOf_7 rfl ?_
  refine r_iload_n 2 dX12_praiseOf_8 rfl ?_
  obtain ⟨q2, h2, h⟩ := bd_some h
  refine cvM (st := []) (cm_bears h2) rfl rfl (Nat.le_of_ble_eq_true rfl) km_bears (tb_in (i := 24) (j := 0) rfl rfl) (by decide) rfl dX12_praiseOf_9 ?_
  refine r_if_eq 29 dX12_praiseOf_12 (by decide) (fun c3 => ?_) (fun c3 => ?_)
  · replace h := it_pos c3 h
    refine r_aload_n 1 dX12_praiseOf_29 rfl ?_
    refine gM_said rfl dX12_praiseOf_30 ?_
    refine r_bipush (x := (89 : Int32)) dX12_praiseOf_33 (by decide) ?_
    refine r_iload_n 0 dX12_praiseOf_35 rfl ?_
    refine r_iadd dX12_praiseOf_36 ?_
    obtain ⟨h4, h⟩ := rq_some h
    refine lM_said (inb_in h4) dX12_praiseOf_37 ?_
    have hq := Option.some.inj h
    subst hq
    exact r_iret rfl dX12_praiseOf_38
  · replace h := it_neg c3 h
    refine r_aload_n 1 dX12_praiseOf_15 rfl ?_
    refine gM_said rfl dX12_praiseOf_16 ?_
    refine r_bipush (x := (89 : Int32)) dX12_praiseOf_19 (by decide) ?_
    refine r_iload_n 0 dX12_praiseOf_21 rfl ?_
    refine r_iadd dX12_praiseOf_22 ?_
    obtain ⟨h5, h⟩ := rq_some h
    refine lM_said (inb_in h5) dX12_praiseOf_23 ?_
    refine r_iconst (x := (2 : Int32)) dX12_praiseOf_24 (by decide) ?_
    refine r_idiv dX12_praiseOf_25 (by decide) ?_
    refine r_goto 38 dX12_praiseOf_26 (by decide) ?_
    have hq := Option.some.inj h
    subst hq
    exact r_iret rfl dX12_praiseOf_38
theorem dX12_canBuy_0 : decode cX12_canBuy 0 = .ok (.aload_n 0, 1) := by decide +kernel
theorem dX12_canBuy_1 : decode cX12_canBuy 1 = .ok (.iload_n 2, 1) := by decide +kernel
theorem dX12_canBuy_2 : decode cX12_canBuy 2 = .ok (.invokevirtual 302, 3) := by decide +kernel
theorem dX12_canBuy_5 : decode cX12_canBuy 5 = .ok (.ifCond .le 24, 3) := by decide +kernel
theorem dX12_canBuy_8 : decode cX12_canBuy 8 = .ok (.aload_n 0, 1) := by decide +kernel
theorem dX12_canBuy_9 : decode cX12_canBuy 9 = .ok (.iload_n 2, 1) := by decide +kernel
theorem dX12_canBuy_10 : decode cX12_canBuy 10 = .ok (.invokevirtual 305, 3) := by decide +kernel
theorem dX12_canBuy_13 : decode cX12_canBuy 13 = .ok (.aload_n 0, 1) := by decide +kernel
theorem dX12_canBuy_14 : decode cX12_canBuy 14 = .ok (.getfield 39, 3) := by decide +kernel
theorem dX12_canBuy_17 : decode cX12_canBuy 17 = .ok (.bipush 47, 2) := by decide +kernel
theorem dX12_canBuy_19 : decode cX12_canBuy 19 = .ok (.iload_n 1, 1) := by decide +kernel
theorem dX12_canBuy_20 : decode cX12_canBuy 20 = .ok (.iadd, 1) := by decide +kernel
theorem dX12_canBuy_21 : decode cX12_canBuy 21 = .ok (.iaload, 1) := by decide +kernel
theorem dX12_canBuy_22 : decode cX12_canBuy 22 = .ok (.if_icmp .gt 7, 3) := by decide +kernel
theorem dX12_canBuy_25 : decode cX12_canBuy 25 = .ok (.iconst 1, 1) := by decide +kernel
theorem dX12_canBuy_26 : decode cX12_canBuy 26 = .ok (.goto 4, 3) := by decide +kernel
theorem dX12_canBuy_29 : decode cX12_canBuy 29 = .ok (.iconst 0, 1) := by decide +kernel
theorem dX12_canBuy_30 : decode cX12_canBuy 30 = .ok (.ireturn, 1) := by decide +kernel
abbrev Mm_canBuy : rx_M := (RX12, yX12_canBuy, cX12_canBuy, 3, (some .boolean), 2)
theorem km_canBuy : rKv Mm_canBuy 2 := ⟨tb_in (i := 24) (j := 28) rfl rfl, tb_in (i := 24) (j := 29) rfl rfl, tb_in (i := 17) (j := 21) rfl rfl, tb_in (i := 24) (j := 3) rfl rfl, ⟨by decide, by decide, by decide +kernel⟩, by decide⟩
def m_canBuy (x1 : Int32) (x2 : Int32) (z_said : Nat → Int32) : Option (Int32) := (m_goodsOf x2 z_said).bind (fun q1 => (if q1 ≤ 0 then some ((0 : Int32)) else (m_priceOf x2 z_said).bind (fun q3 => rq (inb ((47 : Int32) + x1) 156) ((if (z_said ((47 : Int32) + x1).toNatClampNeg) < q3 then some ((0 : Int32)) else some ((1 : Int32)))))))
set_option maxRecDepth 20000 in
theorem cm_canBuy {q : Int32} {x1 : Int32} {x2 : Int32} (h : m_canBuy x1 x2 z_said = some q) : rMet l D Z (ty7 K) Mm_canBuy [.ref (ad 0), .int x1, .int x2] (wM K ad z_tape z_taped z_rules z_sign z_length z_clause z_clauses z_read z_next z_wrong z_number z_text z_made z_deep z_lines z_open z_opened z_stack z_top z_word z_said z_force z_x z_absent z_isRaining z_wasSaid z_undone z_kept z_order z_bestOrder z_hasBy z_wealthThen z_isFit z_tillThen z_drawX z_images z_imageForce z_imageX z_isMade) (wM K ad z_tape z_taped z_rules z_sign z_length z_clause z_clauses z_read z_next z_wrong z_number z_text z_made z_deep z_lines z_open z_opened z_stack z_top z_word z_said z_force z_x z_absent z_isRaining z_wasSaid z_undone z_kept z_order z_bestOrder z_hasBy z_wealthThen z_isFit z_tillThen z_drawX z_images z_imageForce z_imageX z_isMade) (some (.int q)) := by
  refine rMet.of (by decide) rfl (Nat.le_of_ble_eq_true rfl) ?_
  refine r_sub (lv' := [(0, .ref (ad 0)), (1, .int x1), (2, .int x2)]) [0, 1, 2] rfl ?_
  unfold m_canBuy at h
  refine r_aload_n 0 dX12_canBuy_0 rfl ?_
  refine r_iload_n 2 dX12_canBuy_1 rfl ?_
  obtain ⟨q1, h1, h⟩ := bd_some h
  refine cvM (st := []) (cm_goodsOf h1) rfl rfl (Nat.le_of_ble_eq_true rfl) km_goodsOf (tb_in (i := 24) (j := 4) rfl rfl) (by decide) rfl dX12_canBuy_2 ?_
  refine r_if_le 29 dX12_canBuy_5 (by decide) (fun c2 => ?_) (fun c2 => ?_)
  · replace h := it_pos c2 h
    refine r_iconst (x := (0 : Int32)) dX12_canBuy_29 (by decide) ?_
    have hq := Option.some.inj h
    subst hq
    exact r_zret (ty := .boolean) rfl rfl dX12_canBuy_30
  · replace h := it_neg c2 h
    refine r_aload_n 0 dX12_canBuy_8 rfl ?_
    refine r_iload_n 2 dX12_canBuy_9 rfl ?_
    obtain ⟨q3, h3, h⟩ := bd_some h
    refine cvM (st := []) (cm_priceOf h3) rfl rfl (Nat.le_of_ble_eq_true rfl) km_priceOf (tb_in (i := 24) (j := 7) rfl rfl) (by decide) rfl dX12_canBuy_10 ?_
    refine r_aload_n 0 dX12_canBuy_13 rfl ?_
    refine gM_said rfl dX12_canBuy_14 ?_
    refine r_bipush (x := (47 : Int32)) dX12_canBuy_17 (by decide) ?_
    refine r_iload_n 1 dX12_canBuy_19 rfl ?_
    refine r_iadd dX12_canBuy_20 ?_
    obtain ⟨h4, h⟩ := rq_some h
    refine lM_said (inb_in h4) dX12_canBuy_21 ?_
    refine r_icmp_gt 29 dX12_canBuy_22 (by decide) (fun c5 => ?_) (fun c5 => ?_)
    · replace h := it_pos c5 h
      refine r_iconst (x := (0 : Int32)) dX12_canBuy_29 (by decide) ?_
      have hq := Option.some.inj h
      subst hq
      exact r_zret (ty := .boolean) rfl rfl dX12_canBuy_30
    · replace h := it_neg c5 h
      refine r_iconst (x := (1 : Int32)) dX12_canBuy_25 (by decide) ?_
      refine r_goto 30 dX12_canBuy_26 (by decide) ?_
      have hq := Option.some.inj h
      subst hq
      exact r_zret (ty := .boolean) rfl rfl dX12_canBuy_30
theorem dX12_sumOfAll_0 : decode cX12_sumOfAll 0 = .ok (.iconst 0, 1) := by decide +kernel
theorem dX12_sumOfAll_1 : decode cX12_sumOfAll 1 = .ok (.istore_n 2, 1) := by decide +kernel
theorem dX12_sumOfAll_2 : decode cX12_sumOfAll 2 = .ok (.iconst 0, 1) := by decide +kernel
theorem dX12_sumOfAll_3 : decode cX12_sumOfAll 3 = .ok (.istore_n 3, 1) := by decide +kernel
theorem dX12_sumOfAll_4 : decode cX12_sumOfAll 4 = .ok (.iload_n 3, 1) := by decide +kernel
theorem dX12_sumOfAll_5 : decode cX12_sumOfAll 5 = .ok (.aload_n 0, 1) := by decide +kernel
theorem dX12_sumOfAll_6 : decode cX12_sumOfAll 6 = .ok (.getfield 39, 3) := by decide +kernel
theorem dX12_sumOfAll_9 : decode cX12_sumOfAll 9 = .ok (.iconst 3, 1) := by decide +kernel
theorem dX12_sumOfAll_10 : decode cX12_sumOfAll 10 = .ok (.iaload, 1) := by decide +kernel
theorem dX12_sumOfAll_11 : decode cX12_sumOfAll 11 = .ok (.if_icmp .ge 25, 3) := by decide +kernel
theorem dX12_sumOfAll_14 : decode cX12_sumOfAll 14 = .ok (.iload_n 2, 1) := by decide +kernel
theorem dX12_sumOfAll_15 : decode cX12_sumOfAll 15 = .ok (.aload_n 0, 1) := by decide +kernel
theorem dX12_sumOfAll_16 : decode cX12_sumOfAll 16 = .ok (.getfield 39, 3) := by decide +kernel
theorem dX12_sumOfAll_19 : decode cX12_sumOfAll 19 = .ok (.bipush 11, 2) := by decide +kernel
theorem dX12_sumOfAll_21 : decode cX12_sumOfAll 21 = .ok (.iconst 4, 1) := by decide +kernel
theorem dX12_sumOfAll_22 : decode cX12_sumOfAll 22 = .ok (.iload_n 3, 1) := by decide +kernel
theorem dX12_sumOfAll_23 : decode cX12_sumOfAll 23 = .ok (.imul, 1) := by decide +kernel
theorem dX12_sumOfAll_24 : decode cX12_sumOfAll 24 = .ok (.iadd, 1) := by decide +kernel
theorem dX12_sumOfAll_25 : decode cX12_sumOfAll 25 = .ok (.iload_n 1, 1) := by decide +kernel
theorem dX12_sumOfAll_26 : decode cX12_sumOfAll 26 = .ok (.iadd, 1) := by decide +kernel
theorem dX12_sumOfAll_27 : decode cX12_sumOfAll 27 = .ok (.iaload, 1) := by decide +kernel
theorem dX12_sumOfAll_28 : decode cX12_sumOfAll 28 = .ok (.iadd, 1) := by decide +kernel
theorem dX12_sumOfAll_29 : decode cX12_sumOfAll 29 = .ok (.istore_n 2, 1) := by decide +kernel
theorem dX12_sumOfAll_30 : decode cX12_sumOfAll 30 = .ok (.iinc 3 1, 3) := by decide +kernel
theorem dX12_sumOfAll_33 : decode cX12_sumOfAll 33 = .ok (.goto (-29), 3) := by decide +kernel
theorem dX12_sumOfAll_36 : decode cX12_sumOfAll 36 = .ok (.iload_n 2, 1) := by decide +kernel
theorem dX12_sumOfAll_37 : decode cX12_sumOfAll 37 = .ok (.ireturn, 1) := by decide +kernel
abbrev Mm_sumOfAll : rx_M := (RX12, yX12_sumOfAll, cX12_sumOfAll, 4, (some .int), 1)
theorem km_sumOfAll : rKv Mm_sumOfAll 1 := ⟨tb_in (i := 29) (j := 0) rfl rfl, tb_in (i := 29) (j := 1) rfl rfl, tb_in (i := 17) (j := 21) rfl rfl, tb_in (i := 24) (j := 10) rfl rfl, ⟨by decide, by decide, by decide +kernel⟩, by decide⟩
def m_sumOfAll_l4 (z_said : Nat → Int32) (x1 : Int32) : Nat → Int32 → Int32 → Option (Int32)
  | 0, _, _ => none
  | n + 1, x2, x3 => rq (inb (3 : Int32) 156) ((if (z_said (3 : Int32).toNatClampNeg) ≤ x3 then some (x2) else rq (inb (((11 : Int32) + ((4 : Int32) * x3)) + x1) 156) (lt (x2 + (z_said (((11 : Int32) + ((4 : Int32) * x3)) + x1).toNatClampNeg)) (fun y4 => m_sumOfAll_l4 z_said x1 n y4 (x3 + (1 : Int32))))))
set_option maxRecDepth 20000 in
theorem cm_sumOfAll_l4 {q : Int32} {x1 : Int32}  : ∀ (n : Nat) (x2 : Int32) (x3 : Int32), m_sumOfAll_l4 z_said x1 n x2 x3 = some q → rW l D Z (ty7 K) Mm_sumOfAll 4 [(0, .ref (ad 0)), (1, .int x1), (2, .int x2), (3, .int x3)] [] (wM K ad z_tape z_taped z_rules z_sign z_length z_clause z_clauses z_read z_next z_wrong z_number z_text z_made z_deep z_lines z_open z_opened z_stack z_top z_word z_said z_force z_x z_absent z_isRaining z_wasSaid z_undone z_kept z_order z_bestOrder z_hasBy z_wealthThen z_isFit z_tillThen z_drawX z_images z_imageForce z_imageX z_isMade) (wM K ad z_tape z_taped z_rules z_sign z_length z_clause z_clauses z_read z_next z_wrong z_number z_text z_made z_deep z_lines z_open z_opened z_stack z_top z_word z_said z_force z_x z_absent z_isRaining z_wasSaid z_undone z_kept z_order z_bestOrder z_hasBy z_wealthThen z_isFit z_tillThen z_drawX z_images z_imageForce z_imageX z_isMade) (some (.int q)) := by
  intro n
  induction n with
  | zero => intro x2 x3 h; unfold m_sumOfAll_l4 at h; cases h
  | succ n ih =>
    intro x2 x3 h
    unfold m_sumOfAll_l4 at h
    refine r_iload_n 3 dX12_sumOfAll_4 rfl ?_
    refine r_aload_n 0 dX12_sumOfAll_5 rfl ?_
    refine gM_said rfl dX12_sumOfAll_6 ?_
    refine r_iconst (x := (3 : Int32)) dX12_sumOfAll_9 (by decide) ?_
    obtain ⟨h1, h⟩ := rq_some h
    refine lM_said (inb_in h1) dX12_sumOfAll_10 ?_
    refine r_icmp_ge 36 dX12_sumOfAll_11 (by decide) (fun c2 => ?_) (fun c2 => ?_)
    · replace h := it_pos c2 h
      refine r_iload_n 2 dX12_sumOfAll_36 rfl ?_
      have hq := Option.some.inj h
      subst hq
      exact r_iret rfl dX12_sumOfAll_37
    · replace h := it_neg c2 h
      refine r_iload_n 2 dX12_sumOfAll_14 rfl ?_
      refine r_aload_n 0 dX12_sumOfAll_15 rfl ?_
      refine gM_said rfl dX12_sumOfAll_16 ?_
      refine r_bipush (x := (11 : Int32)) dX12_sumOfAll_19 (by decide) ?_
      refine r_iconst (x := (4 : Int32)) dX12_sumOfAll_21 (by decide) ?_
      refine r_iload_n 3 dX12_sumOfAll_22 rfl ?_
      refine r_imul dX12_sumOfAll_23 ?_
      refine r_iadd dX12_sumOfAll_24 ?_
      refine r_iload_n 1 dX12_sumOfAll_25 rfl ?_
      refine r_iadd dX12_sumOfAll_26 ?_
      obtain ⟨h3, h⟩ := rq_some h
      refine lM_said (inb_in h3) dX12_sumOfAll_27 ?_
      refine r_iadd dX12_sumOfAll_28 ?_
      obtain ⟨y4, e4, h⟩ := lt_some h
      refine r_top e4 ?_
      refine r_istore_n (lv' := [(2, .int y4), (0, .ref (ad 0)), (1, .int x1), (3, .int x3)]) dX12_sumOfAll_29 (by decide) rfl ?_
      refine r_iinc (y := (x3 + (1 : Int32))) (lv' := [(3, .int (x3 + (1 : Int32))), (2, .int y4), (0, .ref (ad 0)), (1, .int x1)]) 3 dX12_sumOfAll_30 rfl rfl (by decide) rfl ?_
      refine r_goto 4 dX12_sumOfAll_33 (by decide) ?_
      refine r_sub (lv' := [(0, .ref (ad 0)), (1, .int x1), (2, .int y4), (3, .int (x3 + (1 : Int32)))]) [2, 3, 1, 0] rfl ?_
      exact ih _ _ h
def m_sumOfAll (x1 : Int32) (z_said : Nat → Int32) : Option (Int32) := m_sumOfAll_l4 z_said x1 FU (0 : Int32) (0 : Int32)
set_option maxRecDepth 20000 in
theorem cm_sumOfAll {q : Int32} {x1 : Int32} (h : m_sumOfAll x1 z_said = some q) : rMet l D Z (ty7 K) Mm_sumOfAll [.ref (ad 0), .int x1] (wM K ad z_tape z_taped z_rules z_sign z_length z_clause z_clauses z_read z_next z_wrong z_number z_text z_made z_deep z_lines z_open z_opened z_stack z_top z_word z_said z_force z_x z_absent z_isRaining z_wasSaid z_undone z_kept z_order z_bestOrder z_hasBy z_wealthThen z_isFit z_tillThen z_drawX z_images z_imageForce z_imageX z_isMade) (wM K ad z_tape z_taped z_rules z_sign z_length z_clause z_clauses z_read z_next z_wrong z_number z_text z_made z_deep z_lines z_open z_opened z_stack z_top z_word z_said z_force z_x z_absent z_isRaining z_wasSaid z_undone z_kept z_order z_bestOrder z_hasBy z_wealthThen z_isFit z_tillThen z_drawX z_images z_imageForce z_imageX z_isMade) (some (.int q)) := by
  refine rMet.of (by decide) rfl (Nat.le_of_ble_eq_true rfl) ?_
  refine r_sub (lv' := [(0, .ref (ad 0)), (1, .int x1)]) [0, 1] rfl ?_
  unfold m_sumOfAll at h
  refine r_iconst (x := (0 : Int32)) dX12_sumOfAll_0 (by decide) ?_
  refine r_istore_n (lv' := [(2, .int (0 : Int32)), (0, .ref (ad 0)), (1, .int x1)]) dX12_sumOfAll_1 (by decide) rfl ?_
  refine r_iconst (x := (0 : Int32)) dX12_sumOfAll_2 (by decide) ?_
  refine r_istore_n (lv' := [(3, .int (0 : Int32)), (2, .int (0 : Int32)), (0, .ref (ad 0)), (1, .int x1)]) dX12_sumOfAll_3 (by decide) rfl ?_
  refine r_sub (lv' := [(0, .ref (ad 0)), (1, .int x1), (2, .int (0 : Int32)), (3, .int (0 : Int32))]) [2, 3, 1, 0] rfl ?_
  exact cm_sumOfAll_l4  FU _ _ h
theorem dX12_force_0 : decode cX12_force 0 = .ok (.iload_n 1, 1) := by decide +kernel
theorem dX12_force_1 : decode cX12_force 1 = .ok (.iconst (-1), 1) := by decide +kernel
theorem dX12_force_2 : decode cX12_force 2 = .ok (.if_icmp .eq 14, 3) := by decide +kernel
theorem dX12_force_5 : decode cX12_force 5 = .ok (.aload_n 0, 1) := by decide +kernel
theorem dX12_force_6 : decode cX12_force 6 = .ok (.iload_n 1, 1) := by decide +kernel
theorem dX12_force_7 : decode cX12_force 7 = .ok (.invokevirtual 308, 3) := by decide +kernel
theorem dX12_force_10 : decode cX12_force 10 = .ok (.ifCond .ne 6, 3) := by decide +kernel
theorem dX12_force_13 : decode cX12_force 13 = .ok (.bipush (-2), 2) := by decide +kernel
theorem dX12_force_15 : decode cX12_force 15 = .ok (.ireturn, 1) := by decide +kernel
theorem dX12_force_16 : decode cX12_force 16 = .ok (.aload_n 0, 1) := by decide +kernel
theorem dX12_force_17 : decode cX12_force 17 = .ok (.getfield 42, 3) := by decide +kernel
theorem dX12_force_20 : decode cX12_force 20 = .ok (.istore_n 2, 1) := by decide +kernel
theorem dX12_force_21 : decode cX12_force 21 = .ok (.aload_n 0, 1) := by decide +kernel
theorem dX12_force_22 : decode cX12_force 22 = .ok (.iload_n 1, 1) := by decide +kernel
theorem dX12_force_23 : decode cX12_force 23 = .ok (.putfield 42, 3) := by decide +kernel
theorem dX12_force_26 : decode cX12_force 26 = .ok (.iload_n 2, 1) := by decide +kernel
theorem dX12_force_27 : decode cX12_force 27 = .ok (.ireturn, 1) := by decide +kernel
abbrev Mm_force : rx_M := (RX12, yX12_force, cX12_force, 3, (some .int), 2)
theorem km_force : rKv Mm_force 1 := ⟨tb_in (i := 31) (j := 12) rfl rfl, tb_in (i := 31) (j := 13) rfl rfl, tb_in (i := 17) (j := 21) rfl rfl, tb_in (i := 24) (j := 11) rfl rfl, ⟨by decide, by decide, by decide +kernel⟩, by decide⟩
def m_force (x1 : Int32) (z_rules : Int32) (z_force : Int32) : Option (Int32 × Int32) := (if x1 = (-1 : Int32) then some (z_force, x1) else (m_isRule x1 z_rules).bind (fun q2 => (if q2 = 0 then some ((-2 : Int32), z_force) else some (z_force, x1))))
set_option maxRecDepth 20000 in
theorem cm_force {q : Int32 × Int32} {x1 : Int32} (h : m_force x1 z_rules z_force = some q) : rMet l D Z (ty7 K) Mm_force [.ref (ad 0), .int x1] (wM K ad z_tape z_taped z_rules z_sign z_length z_clause z_clauses z_read z_next z_wrong z_number z_text z_made z_deep z_lines z_open z_opened z_stack z_top z_word z_said z_force z_x z_absent z_isRaining z_wasSaid z_undone z_kept z_order z_bestOrder z_hasBy z_wealthThen z_isFit z_tillThen z_drawX z_images z_imageForce z_imageX z_isMade) (wM K ad z_tape z_taped z_rules z_sign z_length z_clause z_clauses z_read z_next z_wrong z_number z_text z_made z_deep z_lines z_open z_opened z_stack z_top z_word z_said q.2 z_x z_absent z_isRaining z_wasSaid z_undone z_kept z_order z_bestOrder z_hasBy z_wealthThen z_isFit z_tillThen z_drawX z_images z_imageForce z_imageX z_isMade) (some (.int q.1)) := by
  refine rMet.of (by decide) rfl (Nat.le_of_ble_eq_true rfl) ?_
  refine r_sub (lv' := [(0, .ref (ad 0)), (1, .int x1)]) [0, 1] rfl ?_
  unfold m_force at h
  refine r_iload_n 1 dX12_force_0 rfl ?_
  refine r_iconst (x := (-1 : Int32)) dX12_force_1 (by decide) ?_
  refine r_icmp_eq 16 dX12_force_2 (by decide) (fun c1 => ?_) (fun c1 => ?_)
  · replace h := it_pos c1 h
    refine r_aload_n 0 dX12_force_16 rfl ?_
    refine gM_force rfl dX12_force_17 ?_
    refine r_istore_n (lv' := [(2, .int z_force), (0, .ref (ad 0)), (1, .int x1)]) dX12_force_20 (by decide) rfl ?_
    refine r_aload_n 1 dX12_force_21 rfl ?_
    refine r_iload_n 2 dX12_force_22 rfl ?_
    refine pM_force rfl dX12_force_23 ?_
    refine r_iload_n 0 dX12_force_26 rfl ?_
    have hq := Option.some.inj h
    subst hq
    exact r_iret rfl dX12_force_27
  · replace h := it_neg c1 h
    refine r_aload_n 0 dX12_force_5 rfl ?_
    refine r_iload_n 1 dX12_force_6 rfl ?_
    obtain ⟨q2, h2, h⟩ := bd_some h
    refine cvM (st := []) (cm_isRule h2) rfl rfl (Nat.le_of_ble_eq_true rfl) km_isRule (tb_in (i := 24) (j := 12) rfl rfl) (by decide) rfl dX12_force_7 ?_
    refine r_if_ne 16 dX12_force_10 (by decide) (fun c3 => ?_) (fun c3 => ?_)
    · replace h := it_neg c3 h
      refine r_aload_n 0 dX12_force_16 rfl ?_
      refine gM_force rfl dX12_force_17 ?_
      refine r_istore_n (lv' := [(2, .int z_force), (0, .ref (ad 0)), (1, .int x1)]) dX12_force_20 (by decide) rfl ?_
      refine r_aload_n 1 dX12_force_21 rfl ?_
      refine r_iload_n 2 dX12_force_22 rfl ?_
      refine pM_force rfl dX12_force_23 ?_
      refine r_iload_n 0 dX12_force_26 rfl ?_
      have hq := Option.some.inj h
      subst hq
      exact r_iret rfl dX12_force_27
    · replace h := it_pos c3 h
      refine r_bipush (x := (-2 : Int32)) dX12_force_13 (by decide) ?_
      have hq := Option.some.inj h
      subst hq
      exact r_iret rfl dX12_force_15
theorem dX12_stall_0 : decode cX12_stall 0 = .ok (.aload_n 0, 1) := by decide +kernel
theorem dX12_stall_1 : decode cX12_stall 1 = .ok (.iload_n 1, 1) := by decide +kernel
theorem dX12_stall_2 : decode cX12_stall 2 = .ok (.invokevirtual 311, 3) := by decide +kernel
theorem dX12_stall_5 : decode cX12_stall 5 = .ok (.ifCond .ne 5, 3) := by decide +kernel
theorem dX12_stall_8 : decode cX12_stall 8 = .ok (.iconst (-1), 1) := by decide +kernel
theorem dX12_stall_9 : decode cX12_stall 9 = .ok (.ireturn, 1) := by decide +kernel
theorem dX12_stall_10 : decode cX12_stall 10 = .ok (.iload_n 2, 1) := by decide +kernel
theorem dX12_stall_11 : decode cX12_stall 11 = .ok (.tableswitch 107 0 8 #[49, 49, 49, 49, 63, 69, 75, 81, 91], 49) := by decide +kernel
theorem dX12_stall_60 : decode cX12_stall 60 = .ok (.aload_n 0, 1) := by decide +kernel
theorem dX12_stall_61 : decode cX12_stall 61 = .ok (.getfield 39, 3) := by decide +kernel
theorem dX12_stall_64 : decode cX12_stall 64 = .ok (.bipush 11, 2) := by decide +kernel
theorem dX12_stall_66 : decode cX12_stall 66 = .ok (.iconst 4, 1) := by decide +kernel
theorem dX12_stall_67 : decode cX12_stall 67 = .ok (.iload_n 1, 1) := by decide +kernel
theorem dX12_stall_68 : decode cX12_stall 68 = .ok (.imul, 1) := by decide +kernel
theorem dX12_stall_69 : decode cX12_stall 69 = .ok (.iadd, 1) := by decide +kernel
theorem dX12_stall_70 : decode cX12_stall 70 = .ok (.iload_n 2, 1) := by decide +kernel
theorem dX12_stall_71 : decode cX12_stall 71 = .ok (.iadd, 1) := by decide +kernel
theorem dX12_stall_72 : decode cX12_stall 72 = .ok (.iaload, 1) := by decide +kernel
theorem dX12_stall_73 : decode cX12_stall 73 = .ok (.ireturn, 1) := by decide +kernel
theorem dX12_stall_74 : decode cX12_stall 74 = .ok (.aload_n 0, 1) := by decide +kernel
theorem dX12_stall_75 : decode cX12_stall 75 = .ok (.iload_n 1, 1) := by decide +kernel
theorem dX12_stall_76 : decode cX12_stall 76 = .ok (.invokevirtual 286, 3) := by decide +kernel
theorem dX12_stall_79 : decode cX12_stall 79 = .ok (.ireturn, 1) := by decide +kernel
theorem dX12_stall_80 : decode cX12_stall 80 = .ok (.aload_n 0, 1) := by decide +kernel
theorem dX12_stall_81 : decode cX12_stall 81 = .ok (.iload_n 1, 1) := by decide +kernel
theorem dX12_stall_82 : decode cX12_stall 82 = .ok (.invokevirtual 296, 3) := by decide +kernel
theorem dX12_stall_85 : decode cX12_stall 85 = .ok (.ireturn, 1) := by decide +kernel
theorem dX12_stall_86 : decode cX12_stall 86 = .ok (.aload_n 0, 1) := by decide +kernel
theorem dX12_stall_87 : decode cX12_stall 87 = .ok (.iload_n 1, 1) := by decide +kernel
theorem dX12_stall_88 : decode cX12_stall 88 = .ok (.invokevirtual 314, 3) := by decide +kernel
theorem dX12_stall_91 : decode cX12_stall 91 = .ok (.ireturn, 1) := by decide +kernel
theorem dX12_stall_92 : decode cX12_stall 92 = .ok (.aload_n 0, 1) := by decide +kernel
theorem dX12_stall_93 : decode cX12_stall 93 = .ok (.getfield 39, 3) := by decide +kernel
theorem dX12_stall_96 : decode cX12_stall 96 = .ok (.bipush 41, 2) := by decide +kernel
theorem dX12_stall_98 : decode cX12_stall 98 = .ok (.iload_n 1, 1) := by decide +kernel
theorem dX12_stall_99 : decode cX12_stall 99 = .ok (.iadd, 1) := by decide +kernel
theorem dX12_stall_100 : decode cX12_stall 100 = .ok (.iaload, 1) := by decide +kernel
theorem dX12_stall_101 : decode cX12_stall 101 = .ok (.ireturn, 1) := by decide +kernel
theorem dX12_stall_102 : decode cX12_stall 102 = .ok (.aload_n 0, 1) := by decide +kernel
theorem dX12_stall_103 : decode cX12_stall 103 = .ok (.getfield 39, 3) := by decide +kernel
theorem dX12_stall_106 : decode cX12_stall 106 = .ok (.bipush 101, 2) := by decide +kernel
theorem dX12_stall_108 : decode cX12_stall 108 = .ok (.iload_n 1, 1) := by decide +kernel
theorem dX12_stall_109 : decode cX12_stall 109 = .ok (.iadd, 1) := by decide +kernel
theorem dX12_stall_110 : decode cX12_stall 110 = .ok (.iaload, 1) := by decide +kernel
theorem dX12_stall_111 : decode cX12_stall 111 = .ok (.aload_n 0, 1) := by decide +kernel
theorem dX12_stall_112 : decode cX12_stall 112 = .ok (.iload_n 1, 1) := by decide +kernel
theorem dX12_stall_113 : decode cX12_stall 113 = .ok (.invokevirtual 302, 3) := by decide +kernel
theorem dX12_stall_116 : decode cX12_stall 116 = .ok (.isub, 1) := by decide +kernel
theorem dX12_stall_117 : decode cX12_stall 117 = .ok (.ireturn, 1) := by decide +kernel
theorem dX12_stall_118 : decode cX12_stall 118 = .ok (.iconst (-1), 1) := by decide +kernel
theorem dX12_stall_119 : decode cX12_stall 119 = .ok (.ireturn, 1) := by decide +kernel
abbrev Mm_stall : rx_M := (RX12, yX12_stall, cX12_stall, 3, (some .int), 5)
theorem km_stall : rKv Mm_stall 2 := ⟨tb_in (i := 31) (j := 18) rfl rfl, tb_in (i := 31) (j := 19) rfl rfl, tb_in (i := 17) (j := 21) rfl rfl, tb_in (i := 24) (j := 21) rfl rfl, ⟨by decide, by decide, by decide +kernel⟩, by decide⟩
def m_stall (x1 : Int32) (x2 : Int32) (z_said : Nat → Int32) : Option (Int32) := (m_isStall x1 z_said).bind (fun q1 => (if q1 = 0 then some ((-1 : Int32)) else (if x2 = (0 : Int32) then rq (inb (((11 : Int32) + ((4 : Int32) * x1)) + x2) 156) (some ((z_said (((11 : Int32) + ((4 : Int32) * x1)) + x2).toNatClampNeg))) else if x2 = (1 : Int32) then rq (inb (((11 : Int32) + ((4 : Int32) * x1)) + x2) 156) (some ((z_said (((11 : Int32) + ((4 : Int32) * x1)) + x2).toNatClampNeg))) else if x2 = (2 : Int32) then rq (inb (((11 : Int32) + ((4 : Int32) * x1)) + x2) 156) (some ((z_said (((11 : Int32) + ((4 : Int32) * x1)) + x2).toNatClampNeg))) else if x2 = (3 : Int32) then rq (inb (((11 : Int32) + ((4 : Int32) * x1)) + x2) 156) (some ((z_said (((11 : Int32) + ((4 : Int32) * x1)) + x2).toNatClampNeg))) else if x2 = (4 : Int32) then (m_placeOf x1 z_said).bind (fun q12 => some (q12)) else if x2 = (5 : Int32) then (m_sellerOf x1 z_said).bind (fun q14 => some (q14)) else if x2 = (6 : Int32) then (m_praiseOf x1 z_said).bind (fun q16 => some (q16)) else if x2 = (7 : Int32) then rq (inb ((41 : Int32) + x1) 156) (some ((z_said ((41 : Int32) + x1).toNatClampNeg))) else if x2 = (8 : Int32) then rq (inb ((101 : Int32) + x1) 156) ((m_goodsOf x1 z_said).bind (fun q21 => some (((z_said ((101 : Int32) + x1).toNatClampNeg) - q21)))) else some ((-1 : Int32)))))
set_option maxRecDepth 20000 in
theorem cm_stall {q : Int32} {x1 : Int32} {x2 : Int32} (h : m_stall x1 x2 z_said = some q) : rMet l D Z (ty7 K) Mm_stall [.ref (ad 0), .int x1, .int x2] (wM K ad z_tape z_taped z_rules z_sign z_length z_clause z_clauses z_read z_next z_wrong z_number z_text z_made z_deep z_lines z_open z_opened z_stack z_top z_word z_said z_force z_x z_absent z_isRaining z_wasSaid z_undone z_kept z_order z_bestOrder z_hasBy z_wealthThen z_isFit z_tillThen z_drawX z_images z_imageForce z_imageX z_isMade) (wM K ad z_tape z_taped z_rules z_sign z_length z_clause z_clauses z_read z_next z_wrong z_number z_text z_made z_deep z_lines z_open z_opened z_stack z_top z_word z_said z_force z_x z_absent z_isRaining z_wasSaid z_undone z_kept z_order z_bestOrder z_hasBy z_wealthThen z_isFit z_tillThen z_drawX z_images z_imageForce z_imageX z_isMade) (some (.int q)) := by
  refine rMet.of (by decide) rfl (Nat.le_of_ble_eq_true rfl) ?_
  refine r_sub (lv' := [(0, .ref (ad 0)), (1, .int x1), (2, .int x2)]) [0, 1, 2] rfl ?_
  unfold m_stall at h
  refine r_aload_n 0 dX12_stall_0 rfl ?_
  refine r_iload_n 1 dX12_stall_1 rfl ?_
  obtain ⟨q1, h1, h⟩ := bd_some h
  refine cvM (st := []) (cm_isStall h1) rfl rfl (Nat.le_of_ble_eq_true rfl) km_isStall (tb_in (i := 24) (j := 15) rfl rfl) (by decide) rfl dX12_stall_2 ?_
  refine r_if_ne 10 dX12_stall_5 (by decide) (fun c2 => ?_) (fun c2 => ?_)
  · replace h := it_neg c2 h
    refine r_iload_n 2 dX12_stall_10 rfl ?_
    by_cases c3 : x2 = (0 : Int32)
    · replace h := it_pos c3 h
      refine r_tableIn 60 dX12_stall_11 (by rw [c3]; decide) (by rw [c3]; decide) (by rw [c3]; rfl) (by decide) ?_
      refine r_aload_n 0 dX12_stall_60 rfl ?_
      refine gM_said rfl dX12_stall_61 ?_
      refine r_bipush (x := (11 : Int32)) dX12_stall_64 (by decide) ?_
      refine r_iconst (x := (4 : Int32)) dX12_stall_66 (by decide) ?_
      refine r_iload_n 1 dX12_stall_67 rfl ?_
      refine r_imul dX12_stall_68 ?_
      refine r_iadd dX12_stall_69 ?_
      refine r_iload_n 2 dX12_stall_70 rfl ?_
      refine r_iadd dX12_stall_71 ?_
      obtain ⟨h4, h⟩ := rq_some h
      refine lM_said (inb_in h4) dX12_stall_72 ?_
      have hq := Option.some.inj h
      subst hq
      exact r_iret rfl dX12_stall_73
    replace h := it_neg c3 h
    by_cases c5 : x2 = (1 : Int32)
    · replace h := it_pos c5 h
      refine r_tableIn 60 dX12_stall_11 (by rw [c5]; decide) (by rw [c5]; decide) (by rw [c5]; rfl) (by decide) ?_
      refine r_aload_n 0 dX12_stall_60 rfl ?_
      refine gM_said rfl dX12_stall_61 ?_
      refine r_bipush (x := (11 : Int32)) dX12_stall_64 (by decide) ?_
      refine r_iconst (x := (4 : Int32)) dX12_stall_66 (by decide) ?_
      refine r_iload_n 1 dX12_stall_67 rfl ?_
      refine r_imul dX12_stall_68 ?_
      refine r_iadd dX12_stall_69 ?_
      refine r_iload_n 2 dX12_stall_70 rfl ?_
      refine r_iadd dX12_stall_71 ?_
      obtain ⟨h6, h⟩ := rq_some h
      refine lM_said (inb_in h6) dX12_stall_72 ?_
      have hq := Option.some.inj h
      subst hq
      exact r_iret rfl dX12_stall_73
    replace h := it_neg c5 h
    by_cases c7 : x2 = (2 : Int32)
    · replace h := it_pos c7 h
      refine r_tableIn 60 dX12_stall_11 (by rw [c7]; decide) (by rw [c7]; decide) (by rw [c7]; rfl) (by decide) ?_
      refine r_aload_n 0 dX12_stall_60 rfl ?_
      refine gM_said rfl dX12_stall_61 ?_
      refine r_bipush (x := (11 : Int32)) dX12_stall_64 (by decide) ?_
      refine r_iconst (x := (4 : Int32)) dX12_stall_66 (by decide) ?_
      refine r_iload_n 1 dX12_stall_67 rfl ?_
      refine r_imul dX12_stall_68 ?_
      refine r_iadd dX12_stall_69 ?_
      refine r_iload_n 2 dX12_stall_70 rfl ?_
      refine r_iadd dX12_stall_71 ?_
      obtain ⟨h8, h⟩ := rq_some h
      refine lM_said (inb_in h8) dX12_stall_72 ?_
      have hq := Option.some.inj h
      subst hq
      exact r_iret rfl dX12_stall_73
    replace h := it_neg c7 h
    by_cases c9 : x2 = (3 : Int32)
    · replace h := it_pos c9 h
      refine r_tableIn 60 dX12_stall_11 (by rw [c9]; decide) (by rw [c9]; decide) (by rw [c9]; rfl) (by decide) ?_
      refine r_aload_n 0 dX12_stall_60 rfl ?_
      refine gM_said rfl dX12_stall_61 ?_
      refine r_bipush (x := (11 : Int32)) dX12_stall_64 (by decide) ?_
      refine r_iconst (x := (4 : Int32)) dX12_stall_66 (by decide) ?_
      refine r_iload_n 1 dX12_stall_67 rfl ?_
      refine r_imul dX12_stall_68 ?_
      refine r_iadd dX12_stall_69 ?_
      refine r_iload_n 2 dX12_stall_70 rfl ?_
      refine r_iadd dX12_stall_71 ?_
      obtain ⟨h10, h⟩ := rq_some h
      refine lM_said (inb_in h10) dX12_stall_72 ?_
      have hq := Option.some.inj h
      subst hq
      exact r_iret rfl dX12_stall_73
    replace h := it_neg c9 h
    by_cases c11 : x2 = (4 : Int32)
    · replace h := it_pos c11 h
      refine r_tableIn 74 dX12_stall_11 (by rw [c11]; decide) (by rw [c11]; decide) (by rw [c11]; rfl) (by decide) ?_
      refine r_aload_n 0 dX12_stall_74 rfl ?_
      refine r_iload_n 1 dX12_stall_75 rfl ?_
      obtain ⟨q12, h12, h⟩ := bd_some h
      refine cvM (st := []) (cm_placeOf h12) rfl rfl (Nat.le_of_ble_eq_true rfl) km_placeOf (tb_in (i := 23) (j := 18) rfl rfl) (by decide) rfl dX12_stall_76 ?_
      have hq := Option.some.inj h
      subst hq
      exact r_iret rfl dX12_stall_79
    replace h := it_neg c11 h
    by_cases c13 : x2 = (5 : Int32)
    · replace h := it_pos c13 h
      refine r_tableIn 80 dX12_stall_11 (by rw [c13]; decide) (by rw [c13]; decide) (by rw [c13]; rfl) (by decide) ?_
      refine r_aload_n 0 dX12_stall_80 rfl ?_
      refine r_iload_n 1 dX12_stall_81 rfl ?_
      obtain ⟨q14, h14, h⟩ := bd_some h
      refine cvM (st := []) (cm_sellerOf h14) rfl rfl (Nat.le_of_ble_eq_true rfl) km_sellerOf (tb_in (i := 23) (j := 29) rfl rfl) (by decide) rfl dX12_stall_82 ?_
      have hq := Option.some.inj h
      subst hq
      exact r_iret rfl dX12_stall_85
    replace h := it_neg c13 h
    by_cases c15 : x2 = (6 : Int32)
    · replace h := it_pos c15 h
      refine r_tableIn 86 dX12_stall_11 (by rw [c15]; decide) (by rw [c15]; decide) (by rw [c15]; rfl) (by decide) ?_
      refine r_aload_n 0 dX12_stall_86 rfl ?_
      refine r_iload_n 1 dX12_stall_87 rfl ?_
      obtain ⟨q16, h16, h⟩ := bd_some h
      refine cvM (st := []) (cm_praiseOf h16) rfl rfl (Nat.le_of_ble_eq_true rfl) km_praiseOf (tb_in (i := 24) (j := 18) rfl rfl) (by decide) rfl dX12_stall_88 ?_
      have hq := Option.some.inj h
      subst hq
      exact r_iret rfl dX12_stall_91
    replace h := it_neg c15 h
    by_cases c17 : x2 = (7 : Int32)
    · replace h := it_pos c17 h
      refine r_tableIn 92 dX12_stall_11 (by rw [c17]; decide) (by rw [c17]; decide) (by rw [c17]; rfl) (by decide) ?_
      refine r_aload_n 0 dX12_stall_92 rfl ?_
      refine gM_said rfl dX12_stall_93 ?_
      refine r_bipush (x := (41 : Int32)) dX12_stall_96 (by decide) ?_
      refine r_iload_n 1 dX12_stall_98 rfl ?_
      refine r_iadd dX12_stall_99 ?_
      obtain ⟨h18, h⟩ := rq_some h
      refine lM_said (inb_in h18) dX12_stall_100 ?_
      have hq := Option.some.inj h
      subst hq
      exact r_iret rfl dX12_stall_101
    replace h := it_neg c17 h
    by_cases c19 : x2 = (8 : Int32)
    · replace h := it_pos c19 h
      refine r_tableIn 102 dX12_stall_11 (by rw [c19]; decide) (by rw [c19]; decide) (by rw [c19]; rfl) (by decide) ?_
      refine r_aload_n 0 dX12_stall_102 rfl ?_
      refine gM_said rfl dX12_stall_103 ?_
      refine r_bipush (x := (101 : Int32)) dX12_stall_106 (by decide) ?_
      refine r_iload_n 1 dX12_stall_108 rfl ?_
      refine r_iadd dX12_stall_109 ?_
      obtain ⟨h20, h⟩ := rq_some h
      refine lM_said (inb_in h20) dX12_stall_110 ?_
      refine r_aload_n 0 dX12_stall_111 rfl ?_
      refine r_iload_n 1 dX12_stall_112 rfl ?_
      obtain ⟨q21, h21, h⟩ := bd_some h
      refine cvM (st := [.int (z_said ((101 : Int32) + x1).toNatClampNeg)]) (cm_goodsOf h21) rfl rfl (Nat.le_of_ble_eq_true rfl) km_goodsOf (tb_in (i := 24) (j := 4) rfl rfl) (by decide) rfl dX12_stall_113 ?_
      refine r_isub dX12_stall_116 ?_
      have hq := Option.some.inj h
      subst hq
      exact r_iret rfl dX12_stall_117
    replace h := it_neg c19 h
    refine r_tableOut 118 dX12_stall_11 (tbl_out (by decide) (by decide) (fun k h1 h2 => by
      rcases (show k = 0 ∨ k = 1 ∨ k = 2 ∨ k = 3 ∨ k = 4 ∨ k = 5 ∨ k = 6 ∨ k = 7 ∨ k = 8 by omega) with rfl | rfl | rfl | rfl | rfl | rfl | rfl | rfl | rfl
      · exact c3
      · exact c5
      · exact c7
      · exact c9
      · exact c11
      · exact c13
      · exact c15
      · exact c17
      · exact c19
      )) (by decide) ?_
    refine r_iconst (x := (-1 : Int32)) dX12_stall_118 (by decide) ?_
    have hq := Option.some.inj h
    subst hq
    exact r_iret rfl dX12_stall_119
  · replace h := it_pos c2 h
    refine r_iconst (x := (-1 : Int32)) dX12_stall_8 (by decide) ?_
    have hq := Option.some.inj h
    subst hq
    exact r_iret rfl dX12_stall_9
theorem dX12_buyer_0 : decode cX12_buyer 0 = .ok (.aload_n 0, 1) := by decide +kernel
theorem dX12_buyer_1 : decode cX12_buyer 1 = .ok (.iload_n 1, 1) := by decide +kernel
theorem dX12_buyer_2 : decode cX12_buyer 2 = .ok (.invokevirtual 317, 3) := by decide +kernel
theorem dX12_buyer_5 : decode cX12_buyer 5 = .ok (.ifCond .eq 15, 3) := by decide +kernel
theorem dX12_buyer_8 : decode cX12_buyer 8 = .ok (.iload_n 2, 1) := by decide +kernel
theorem dX12_buyer_9 : decode cX12_buyer 9 = .ok (.i2l, 1) := by decide +kernel
theorem dX12_buyer_10 : decode cX12_buyer 10 = .ok (.lconst 0, 1) := by decide +kernel
theorem dX12_buyer_11 : decode cX12_buyer 11 = .ok (.ldc2_w 320, 3) := by decide +kernel
theorem dX12_buyer_14 : decode cX12_buyer 14 = .ok (.invokestatic 124, 3) := by decide +kernel
theorem dX12_buyer_17 : decode cX12_buyer 17 = .ok (.ifCond .ne 5, 3) := by decide +kernel
theorem dX12_buyer_20 : decode cX12_buyer 20 = .ok (.iconst (-1), 1) := by decide +kernel
theorem dX12_buyer_21 : decode cX12_buyer 21 = .ok (.ireturn, 1) := by decide +kernel
theorem dX12_buyer_22 : decode cX12_buyer 22 = .ok (.iload_n 2, 1) := by decide +kernel
theorem dX12_buyer_23 : decode cX12_buyer 23 = .ok (.iconst 2, 1) := by decide +kernel
theorem dX12_buyer_24 : decode cX12_buyer 24 = .ok (.if_icmp .ge 29, 3) := by decide +kernel
theorem dX12_buyer_27 : decode cX12_buyer 27 = .ok (.iload_n 2, 1) := by decide +kernel
theorem dX12_buyer_28 : decode cX12_buyer 28 = .ok (.ifCond .ne 15, 3) := by decide +kernel
theorem dX12_buyer_31 : decode cX12_buyer 31 = .ok (.aload_n 0, 1) := by decide +kernel
theorem dX12_buyer_32 : decode cX12_buyer 32 = .ok (.getfield 39, 3) := by decide +kernel
theorem dX12_buyer_35 : decode cX12_buyer 35 = .ok (.bipush 47, 2) := by decide +kernel
theorem dX12_buyer_37 : decode cX12_buyer 37 = .ok (.iload_n 1, 1) := by decide +kernel
theorem dX12_buyer_38 : decode cX12_buyer 38 = .ok (.iadd, 1) := by decide +kernel
theorem dX12_buyer_39 : decode cX12_buyer 39 = .ok (.iaload, 1) := by decide +kernel
theorem dX12_buyer_40 : decode cX12_buyer 40 = .ok (.goto 12, 3) := by decide +kernel
theorem dX12_buyer_43 : decode cX12_buyer 43 = .ok (.aload_n 0, 1) := by decide +kernel
theorem dX12_buyer_44 : decode cX12_buyer 44 = .ok (.getfield 39, 3) := by decide +kernel
theorem dX12_buyer_47 : decode cX12_buyer 47 = .ok (.bipush 95, 2) := by decide +kernel
theorem dX12_buyer_49 : decode cX12_buyer 49 = .ok (.iload_n 1, 1) := by decide +kernel
theorem dX12_buyer_50 : decode cX12_buyer 50 = .ok (.iadd, 1) := by decide +kernel
theorem dX12_buyer_51 : decode cX12_buyer 51 = .ok (.iaload, 1) := by decide +kernel
theorem dX12_buyer_52 : decode cX12_buyer 52 = .ok (.ireturn, 1) := by decide +kernel
theorem dX12_buyer_53 : decode cX12_buyer 53 = .ok (.iconst 0, 1) := by decide +kernel
theorem dX12_buyer_54 : decode cX12_buyer 54 = .ok (.istore_n 3, 1) := by decide +kernel
theorem dX12_buyer_55 : decode cX12_buyer 55 = .ok (.iconst 0, 1) := by decide +kernel
theorem dX12_buyer_56 : decode cX12_buyer 56 = .ok (.istore 4, 2) := by decide +kernel
theorem dX12_buyer_58 : decode cX12_buyer 58 = .ok (.iload 4, 2) := by decide +kernel
theorem dX12_buyer_60 : decode cX12_buyer 60 = .ok (.aload_n 0, 1) := by decide +kernel
theorem dX12_buyer_61 : decode cX12_buyer 61 = .ok (.getfield 39, 3) := by decide +kernel
theorem dX12_buyer_64 : decode cX12_buyer 64 = .ok (.iconst 3, 1) := by decide +kernel
theorem dX12_buyer_65 : decode cX12_buyer 65 = .ok (.iaload, 1) := by decide +kernel
theorem dX12_buyer_66 : decode cX12_buyer 66 = .ok (.if_icmp .ge 30, 3) := by decide +kernel
theorem dX12_buyer_69 : decode cX12_buyer 69 = .ok (.iload_n 3, 1) := by decide +kernel
theorem dX12_buyer_70 : decode cX12_buyer 70 = .ok (.aload_n 0, 1) := by decide +kernel
theorem dX12_buyer_71 : decode cX12_buyer 71 = .ok (.iload_n 1, 1) := by decide +kernel
theorem dX12_buyer_72 : decode cX12_buyer 72 = .ok (.iload 4, 2) := by decide +kernel
theorem dX12_buyer_74 : decode cX12_buyer 74 = .ok (.invokevirtual 322, 3) := by decide +kernel
theorem dX12_buyer_77 : decode cX12_buyer 77 = .ok (.ifCond .eq 10, 3) := by decide +kernel
theorem dX12_buyer_80 : decode cX12_buyer 80 = .ok (.iconst 1, 1) := by decide +kernel
theorem dX12_buyer_81 : decode cX12_buyer 81 = .ok (.iload 4, 2) := by decide +kernel
theorem dX12_buyer_83 : decode cX12_buyer 83 = .ok (.ishl, 1) := by decide +kernel
theorem dX12_buyer_84 : decode cX12_buyer 84 = .ok (.goto 4, 3) := by decide +kernel
theorem dX12_buyer_87 : decode cX12_buyer 87 = .ok (.iconst 0, 1) := by decide +kernel
theorem dX12_buyer_88 : decode cX12_buyer 88 = .ok (.ior, 1) := by decide +kernel
theorem dX12_buyer_89 : decode cX12_buyer 89 = .ok (.istore_n 3, 1) := by decide +kernel
theorem dX12_buyer_90 : decode cX12_buyer 90 = .ok (.iinc 4 1, 3) := by decide +kernel
theorem dX12_buyer_93 : decode cX12_buyer 93 = .ok (.goto (-35), 3) := by decide +kernel
theorem dX12_buyer_96 : decode cX12_buyer 96 = .ok (.iload_n 3, 1) := by decide +kernel
theorem dX12_buyer_97 : decode cX12_buyer 97 = .ok (.ireturn, 1) := by decide +kernel
abbrev Mm_buyer : rx_M := (RX12, yX12_buyer, cX12_buyer, 5, (some .int), 3)
theorem km_buyer : rKv Mm_buyer 2 := ⟨tb_in (i := 31) (j := 24) rfl rfl, tb_in (i := 31) (j := 25) rfl rfl, tb_in (i := 17) (j := 21) rfl rfl, tb_in (i := 24) (j := 22) rfl rfl, ⟨by decide, by decide, by decide +kernel⟩, by decide⟩
def m_buyer_l58 (z_said : Nat → Int32) (x1 : Int32) : Nat → Int32 → Int32 → Option (Int32)
  | 0, _, _ => none
  | n + 1, x3, x4 => rq (inb (3 : Int32) 156) ((if (z_said (3 : Int32).toNatClampNeg) ≤ x4 then some (x3) else (m_canBuy x1 x4 z_said).bind (fun q8 => (if q8 = 0 then lt (x3 ||| (0 : Int32)) (fun y10 => m_buyer_l58 z_said x1 n y10 (x4 + (1 : Int32))) else lt (x3 ||| ((1 : Int32) <<< (x4 &&& 31))) (fun y11 => m_buyer_l58 z_said x1 n y11 (x4 + (1 : Int32)))))))
set_option maxRecDepth 20000 in
theorem cm_buyer_l58 {q : Int32} {x1 : Int32}  : ∀ (n : Nat) (x3 : Int32) (x4 : Int32), m_buyer_l58 z_said x1 n x3 x4 = some q → rW l D Z (ty7 K) Mm_buyer 58 [(0, .ref (ad 0)), (1, .int x1), (3, .int x3), (4, .int x4)] [] (wM K ad z_tape z_taped z_rules z_sign z_length z_clause z_clauses z_read z_next z_wrong z_number z_text z_made z_deep z_lines z_open z_opened z_stack z_top z_word z_said z_force z_x z_absent z_isRaining z_wasSaid z_undone z_kept z_order z_bestOrder z_hasBy z_wealthThen z_isFit z_tillThen z_drawX z_images z_imageForce z_imageX z_isMade) (wM K ad z_tape z_taped z_rules z_sign z_length z_clause z_clauses z_read z_next z_wrong z_number z_text z_made z_deep z_lines z_open z_opened z_stack z_top z_word z_said z_force z_x z_absent z_isRaining z_wasSaid z_undone z_kept z_order z_bestOrder z_hasBy z_wealthThen z_isFit z_tillThen z_drawX z_images z_imageForce z_imageX z_isMade) (some (.int q)) := by
  intro n
  induction n with
  | zero => intro x3 x4 h; unfold m_buyer_l58 at h; cases h
  | succ n ih =>
    intro x3 x4 h
    unfold m_buyer_l58 at h
    refine r_iload 3 dX12_buyer_58 rfl ?_
    refine r_aload_n 0 dX12_buyer_60 rfl ?_
    refine gM_said rfl dX12_buyer_61 ?_
    refine r_iconst (x := (3 : Int32)) dX12_buyer_64 (by decide) ?_
    obtain ⟨h6, h⟩ := rq_some h
    refine lM_said (inb_in h6) dX12_buyer_65 ?_
    refine r_icmp_ge 96 dX12_buyer_66 (by decide) (fun c7 => ?_) (fun c7 => ?_)
    · replace h := it_pos c7 h
      refine r_iload_n 2 dX12_buyer_96 rfl ?_
      have hq := Option.some.inj h
      subst hq
      exact r_iret rfl dX12_buyer_97
    · replace h := it_neg c7 h
      refine r_iload_n 2 dX12_buyer_69 rfl ?_
      refine r_aload_n 0 dX12_buyer_70 rfl ?_
      refine r_iload_n 1 dX12_buyer_71 rfl ?_
      refine r_iload 3 dX12_buyer_72 rfl ?_
      obtain ⟨q8, h8, h⟩ := bd_some h
      refine cvM (st := [.int x3]) (cm_canBuy h8) rfl rfl (Nat.le_of_ble_eq_true rfl) km_canBuy (tb_in (i := 24) (j := 27) rfl rfl) (by decide) rfl dX12_buyer_74 ?_
      refine r_if_eq 87 dX12_buyer_77 (by decide) (fun c9 => ?_) (fun c9 => ?_)
      · replace h := it_pos c9 h
        refine r_iconst (x := (0 : Int32)) dX12_buyer_87 (by decide) ?_
        refine r_ior dX12_buyer_88 ?_
        obtain ⟨y10, e10, h⟩ := lt_some h
        refine r_top e10 ?_
        refine r_istore_n (lv' := [(3, .int y10), (0, .ref (ad 0)), (1, .int x1), (4, .int x4)]) dX12_buyer_89 (by decide) rfl ?_
        refine r_iinc (y := (x4 + (1 : Int32))) (lv' := [(4, .int (x4 + (1 : Int32))), (3, .int y10), (0, .ref (ad 0)), (1, .int x1)]) 3 dX12_buyer_90 rfl rfl (by decide) rfl ?_
        refine r_goto 58 dX12_buyer_93 (by decide) ?_
        refine r_sub (lv' := [(0, .ref (ad 0)), (1, .int x1), (3, .int y10), (4, .int (x4 + (1 : Int32)))]) [2, 3, 1, 0] rfl ?_
        exact ih _ _ h
      · replace h := it_neg c9 h
        refine r_iconst (x := (1 : Int32)) dX12_buyer_80 (by decide) ?_
        refine r_iload 3 dX12_buyer_81 rfl ?_
        refine r_ishl dX12_buyer_83 ?_
        refine r_goto 88 dX12_buyer_84 (by decide) ?_
        refine r_ior dX12_buyer_88 ?_
        obtain ⟨y11, e11, h⟩ := lt_some h
        refine r_top e11 ?_
        refine r_istore_n (lv' := [(3, .int y11), (0, .ref (ad 0)), (1, .int x1), (4, .int x4)]) dX12_buyer_89 (by decide) rfl ?_
        refine r_iinc (y := (x4 + (1 : Int32))) (lv' := [(4, .int (x4 + (1 : Int32))), (3, .int y11), (0, .ref (ad 0)), (1, .int x1)]) 3 dX12_buyer_90 rfl rfl (by decide) rfl ?_
        refine r_goto 58 dX12_buyer_93 (by decide) ?_
        refine r_sub (lv' := [(0, .ref (ad 0)), (1, .int x1), (3, .int y11), (4, .int (x4 + (1 : Int32)))]) [2, 3, 1, 0] rfl ?_
        exact ih _ _ h
def m_buyer (x1 : Int32) (x2 : Int32) (z_said : Nat → Int32) : Option (Int32) := (m_isBuyer x1 z_said).bind (fun q1 => (if q1 = 0 then some ((-1 : Int32)) else (m_in (x2.toInt64) (0 : Int64) (2 : Int64)).bind (fun q3 => (if q3 = 0 then some ((-1 : Int32)) else (if (2 : Int32) ≤ x2 then m_buyer_l58 z_said x1 FU (0 : Int32) (0 : Int32) else (if x2 = 0 then rq (inb ((47 : Int32) + x1) 156) (some ((z_said ((47 : Int32) + x1).toNatClampNeg))) else rq (inb ((95 : Int32) + x1) 156) (some ((z_said ((95 : Int32) + x1).toNatClampNeg)))))))))
set_option maxRecDepth 20000 in
theorem cm_buyer {q : Int32} {x1 : Int32} {x2 : Int32} (h : m_buyer x1 x2 z_said = some q) : rMet l D Z (ty7 K) Mm_buyer [.ref (ad 0), .int x1, .int x2] (wM K ad z_tape z_taped z_rules z_sign z_length z_clause z_clauses z_read z_next z_wrong z_number z_text z_made z_deep z_lines z_open z_opened z_stack z_top z_word z_said z_force z_x z_absent z_isRaining z_wasSaid z_undone z_kept z_order z_bestOrder z_hasBy z_wealthThen z_isFit z_tillThen z_drawX z_images z_imageForce z_imageX z_isMade) (wM K ad z_tape z_taped z_rules z_sign z_length z_clause z_clauses z_read z_next z_wrong z_number z_text z_made z_deep z_lines z_open z_opened z_stack z_top z_word z_said z_force z_x z_absent z_isRaining z_wasSaid z_undone z_kept z_order z_bestOrder z_hasBy z_wealthThen z_isFit z_tillThen z_drawX z_images z_imageForce z_imageX z_isMade) (some (.int q)) := by
  refine rMet.of (by decide) rfl (Nat.le_of_ble_eq_true rfl) ?_
  refine r_sub (lv' := [(0, .ref (ad 0)), (1, .int x1), (2, .int x2)]) [0, 1, 2] rfl ?_
  unfold m_buyer at h
  refine r_aload_n 0 dX12_buyer_0 rfl ?_
  refine r_iload_n 1 dX12_buyer_1 rfl ?_
  obtain ⟨q1, h1, h⟩ := bd_some h
  refine cvM (st := []) (cm_isBuyer h1) rfl rfl (Nat.le_of_ble_eq_true rfl) km_isBuyer (tb_in (i := 24) (j := 24) rfl rfl) (by decide) rfl dX12_buyer_2 ?_
  refine r_if_eq 20 dX12_buyer_5 (by decide) (fun c2 => ?_) (fun c2 => ?_)
  · replace h := it_pos c2 h
    refine r_iconst (x := (-1 : Int32)) dX12_buyer_20 (by decide) ?_
    have hq := Option.some.inj h
    subst hq
    exact r_iret rfl dX12_buyer_21
  · replace h := it_neg c2 h
    refine r_iload_n 2 dX12_buyer_8 rfl ?_
    refine r_i2l dX12_buyer_9 ?_
    refine r_lconst (x := (0 : Int64)) dX12_buyer_10 (by decide) ?_
    refine r_ldc2 (x := (2 : Int64)) (tb_in (i := 24) (j := 23) rfl rfl) dX12_buyer_11 ?_
    obtain ⟨q3, h3, h⟩ := bd_some h
    refine r_callS (st := []) (cm_in h3) rfl rfl (Nat.le_of_ble_eq_true rfl) km_in (tb_in (i := 18) (j := 20) rfl rfl) (by decide) dX12_buyer_14 ?_
    refine r_if_ne 22 dX12_buyer_17 (by decide) (fun c4 => ?_) (fun c4 => ?_)
    · replace h := it_neg c4 h
      refine r_iload_n 2 dX12_buyer_22 rfl ?_
      refine r_iconst (x := (2 : Int32)) dX12_buyer_23 (by decide) ?_
      refine r_icmp_ge 53 dX12_buyer_24 (by decide) (fun c5 => ?_) (fun c5 => ?_)
      · replace h := it_pos c5 h
        refine r_iconst (x := (0 : Int32)) dX12_buyer_53 (by decide) ?_
        refine r_istore_n (lv' := [(3, .int (0 : Int32)), (0, .ref (ad 0)), (1, .int x1), (2, .int x2)]) dX12_buyer_54 (by decide) rfl ?_
        refine r_iconst (x := (0 : Int32)) dX12_buyer_55 (by decide) ?_
        refine r_istore (lv' := [(4, .int (0 : Int32)), (3, .int (0 : Int32)), (0, .ref (ad 0)), (1, .int x1), (2, .int x2)]) dX12_buyer_56 (by decide) rfl ?_
        refine r_sub (lv' := [(0, .ref (ad 0)), (1, .int x1), (3, .int (0 : Int32)), (4, .int (0 : Int32))]) [2, 3, 1, 0] rfl ?_
        exact cm_buyer_l58  FU _ _ h
      · replace h := it_neg c5 h
        refine r_iload_n 2 dX12_buyer_27 rfl ?_
        refine r_if_ne 43 dX12_buyer_28 (by decide) (fun c12 => ?_) (fun c12 => ?_)
        · replace h := it_neg c12 h
          refine r_aload_n 0 dX12_buyer_43 rfl ?_
          refine gM_said rfl dX12_buyer_44 ?_
          refine r_bipush (x := (95 : Int32)) dX12_buyer_47 (by decide) ?_
          refine r_iload_n 1 dX12_buyer_49 rfl ?_
          refine r_iadd dX12_buyer_50 ?_
          obtain ⟨h13, h⟩ := rq_some h
          refine lM_said (inb_in h13) dX12_buyer_51 ?_
          have hq := Option.some.inj h
          subst hq
          exact r_iret rfl dX12_buyer_52
        · replace h := it_pos c12 h
          refine r_aload_n 0 dX12_buyer_31 rfl ?_
          refine gM_said rfl dX12_buyer_32 ?_
          refine r_bipush (x := (47 : Int32)) dX12_buyer_35 (by decide) ?_
          refine r_iload_n 1 dX12_buyer_37 rfl ?_
          refine r_iadd dX12_buyer_38 ?_
          obtain ⟨h14, h⟩ := rq_some h
          refine lM_said (inb_in h14) dX12_buyer_39 ?_
          refine r_goto 52 dX12_buyer_40 (by decide) ?_
          have hq := Option.some.inj h
          subst hq
          exact r_iret rfl dX12_buyer_52
    · replace h := it_pos c4 h
      refine r_iconst (x := (-1 : Int32)) dX12_buyer_20 (by decide) ?_
      have hq := Option.some.inj h
      subst hq
      exact r_iret rfl dX12_buyer_21
theorem dX12_had_0 : decode cX12_had 0 = .ok (.aload_n 0, 1) := by decide +kernel
theorem dX12_had_1 : decode cX12_had 1 = .ok (.iload_n 1, 1) := by decide +kernel
theorem dX12_had_2 : decode cX12_had 2 = .ok (.invokevirtual 317, 3) := by decide +kernel
theorem dX12_had_5 : decode cX12_had 5 = .ok (.ifCond .eq 28, 3) := by decide +kernel
theorem dX12_had_8 : decode cX12_had 8 = .ok (.aload_n 0, 1) := by decide +kernel
theorem dX12_had_9 : decode cX12_had 9 = .ok (.iload_n 2, 1) := by decide +kernel
theorem dX12_had_10 : decode cX12_had 10 = .ok (.invokevirtual 311, 3) := by decide +kernel
theorem dX12_had_13 : decode cX12_had 13 = .ok (.ifCond .eq 20, 3) := by decide +kernel
theorem dX12_had_16 : decode cX12_had 16 = .ok (.aload_n 0, 1) := by decide +kernel
theorem dX12_had_17 : decode cX12_had 17 = .ok (.getfield 39, 3) := by decide +kernel
theorem dX12_had_20 : decode cX12_had 20 = .ok (.bipush 53, 2) := by decide +kernel
theorem dX12_had_22 : decode cX12_had 22 = .ok (.bipush 6, 2) := by decide +kernel
theorem dX12_had_24 : decode cX12_had 24 = .ok (.iload_n 1, 1) := by decide +kernel
theorem dX12_had_25 : decode cX12_had 25 = .ok (.imul, 1) := by decide +kernel
theorem dX12_had_26 : decode cX12_had 26 = .ok (.iadd, 1) := by decide +kernel
theorem dX12_had_27 : decode cX12_had 27 = .ok (.iload_n 2, 1) := by decide +kernel
theorem dX12_had_28 : decode cX12_had 28 = .ok (.iadd, 1) := by decide +kernel
theorem dX12_had_29 : decode cX12_had 29 = .ok (.iaload, 1) := by decide +kernel
theorem dX12_had_30 : decode cX12_had 30 = .ok (.goto 4, 3) := by decide +kernel
theorem dX12_had_33 : decode cX12_had 33 = .ok (.iconst (-1), 1) := by decide +kernel
theorem dX12_had_34 : decode cX12_had 34 = .ok (.ireturn, 1) := by decide +kernel
abbrev Mm_had : rx_M := (RX12, yX12_had, cX12_had, 3, (some .int), 2)
theorem km_had : rKv Mm_had 2 := ⟨tb_in (i := 31) (j := 30) rfl rfl, tb_in (i := 31) (j := 31) rfl rfl, tb_in (i := 17) (j := 21) rfl rfl, tb_in (i := 24) (j := 30) rfl rfl, ⟨by decide, by decide, by decide +kernel⟩, by decide⟩
def m_had (x1 : Int32) (x2 : Int32) (z_said : Nat → Int32) : Option (Int32) := (m_isBuyer x1 z_said).bind (fun q1 => (if q1 = 0 then some ((-1 : Int32)) else (m_isStall x2 z_said).bind (fun q3 => (if q3 = 0 then some ((-1 : Int32)) else rq (inb (((53 : Int32) + ((6 : Int32) * x1)) + x2) 156) (some ((z_said (((53 : Int32) + ((6 : Int32) * x1)) + x2).toNatClampNeg)))))))
set_option maxRecDepth 20000 in
theorem cm_had {q : Int32} {x1 : Int32} {x2 : Int32} (h : m_had x1 x2 z_said = some q) : rMet l D Z (ty7 K) Mm_had [.ref (ad 0), .int x1, .int x2] (wM K ad z_tape z_taped z_rules z_sign z_length z_clause z_clauses z_read z_next z_wrong z_number z_text z_made z_deep z_lines z_open z_opened z_stack z_top z_word z_said z_force z_x z_absent z_isRaining z_wasSaid z_undone z_kept z_order z_bestOrder z_hasBy z_wealthThen z_isFit z_tillThen z_drawX z_images z_imageForce z_imageX z_isMade) (wM K ad z_tape z_taped z_rules z_sign z_length z_clause z_clauses z_read z_next z_wrong z_number z_text z_made z_deep z_lines z_open z_opened z_stack z_top z_word z_said z_force z_x z_absent z_isRaining z_wasSaid z_undone z_kept z_order z_bestOrder z_hasBy z_wealthThen z_isFit z_tillThen z_drawX z_images z_imageForce z_imageX z_isMade) (some (.int q)) := by
  refine rMet.of (by decide) rfl (Nat.le_of_ble_eq_true rfl) ?_
  refine r_sub (lv' := [(0, .ref (ad 0)), (1, .int x1), (2, .int x2)]) [0, 1, 2] rfl ?_
  unfold m_had at h
  refine r_aload_n 0 dX12_had_0 rfl ?_
  refine r_iload_n 1 dX12_had_1 rfl ?_
  obtain ⟨q1, h1, h⟩ := bd_some h
  refine cvM (st := []) (cm_isBuyer h1) rfl rfl (Nat.le_of_ble_eq_true rfl) km_isBuyer (tb_in (i := 24) (j := 24) rfl rfl) (by decide) rfl dX12_had_2 ?_
  refine r_if_eq 33 dX12_had_5 (by decide) (fun c2 => ?_) (fun c2 => ?_)
  · replace h := it_pos c2 h
    refine r_iconst (x := (-1 : Int32)) dX12_had_33 (by decide) ?_
    have hq := Option.some.inj h
    subst hq
    exact r_iret rfl dX12_had_34
  · replace h := it_neg c2 h
    refine r_aload_n 0 dX12_had_8 rfl ?_
    refine r_iload_n 2 dX12_had_9 rfl ?_
    obtain ⟨q3, h3, h⟩ := bd_some h
    refine cvM (st := []) (cm_isStall h3) rfl rfl (Nat.le_of_ble_eq_true rfl) km_isStall (tb_in (i := 24) (j := 15) rfl rfl) (by decide) rfl dX12_had_10 ?_
    refine r_if_eq 33 dX12_had_13 (by decide) (fun c4 => ?_) (fun c4 => ?_)
    · replace h := it_pos c4 h
      refine r_iconst (x := (-1 : Int32)) dX12_had_33 (by decide) ?_
      have hq := Option.some.inj h
      subst hq
      exact r_iret rfl dX12_had_34
    · replace h := it_neg c4 h
      refine r_aload_n 0 dX12_had_16 rfl ?_
      refine gM_said rfl dX12_had_17 ?_
      refine r_bipush (x := (53 : Int32)) dX12_had_20 (by decide) ?_
      refine r_bipush (x := (6 : Int32)) dX12_had_22 (by decide) ?_
      refine r_iload_n 1 dX12_had_24 rfl ?_
      refine r_imul dX12_had_25 ?_
      refine r_iadd dX12_had_26 ?_
      refine r_iload_n 2 dX12_had_27 rfl ?_
      refine r_iadd dX12_had_28 ?_
      obtain ⟨h5, h⟩ := rq_some h
      refine lM_said (inb_in h5) dX12_had_29 ?_
      refine r_goto 34 dX12_had_30 (by decide) ?_
      have hq := Option.some.inj h
      subst hq
      exact r_iret rfl dX12_had_34
theorem dX12_summedBy_0 : decode cX12_summedBy 0 = .ok (.iconst 0, 1) := by decide +kernel
theorem dX12_summedBy_1 : decode cX12_summedBy 1 = .ok (.istore_n 2, 1) := by decide +kernel
theorem dX12_summedBy_2 : decode cX12_summedBy 2 = .ok (.iload_n 2, 1) := by decide +kernel
theorem dX12_summedBy_3 : decode cX12_summedBy 3 = .ok (.aload_n 0, 1) := by decide +kernel
theorem dX12_summedBy_4 : decode cX12_summedBy 4 = .ok (.getfield 23, 3) := by decide +kernel
theorem dX12_summedBy_7 : decode cX12_summedBy 7 = .ok (.iload_n 1, 1) := by decide +kernel
theorem dX12_summedBy_8 : decode cX12_summedBy 8 = .ok (.iaload, 1) := by decide +kernel
theorem dX12_summedBy_9 : decode cX12_summedBy 9 = .ok (.if_icmp .ge 75, 3) := by decide +kernel
theorem dX12_summedBy_12 : decode cX12_summedBy 12 = .ok (.bipush 48, 2) := by decide +kernel
theorem dX12_summedBy_14 : decode cX12_summedBy 14 = .ok (.iload_n 1, 1) := by decide +kernel
theorem dX12_summedBy_15 : decode cX12_summedBy 15 = .ok (.imul, 1) := by decide +kernel
theorem dX12_summedBy_16 : decode cX12_summedBy 16 = .ok (.iconst 4, 1) := by decide +kernel
theorem dX12_summedBy_17 : decode cX12_summedBy 17 = .ok (.iload_n 2, 1) := by decide +kernel
theorem dX12_summedBy_18 : decode cX12_summedBy 18 = .ok (.imul, 1) := by decide +kernel
theorem dX12_summedBy_19 : decode cX12_summedBy 19 = .ok (.iadd, 1) := by decide +kernel
theorem dX12_summedBy_20 : decode cX12_summedBy 20 = .ok (.istore_n 3, 1) := by decide +kernel
theorem dX12_summedBy_21 : decode cX12_summedBy 21 = .ok (.aload_n 0, 1) := by decide +kernel
theorem dX12_summedBy_22 : decode cX12_summedBy 22 = .ok (.getfield 20, 3) := by decide +kernel
theorem dX12_summedBy_25 : decode cX12_summedBy 25 = .ok (.iload_n 3, 1) := by decide +kernel
theorem dX12_summedBy_26 : decode cX12_summedBy 26 = .ok (.iconst 2, 1) := by decide +kernel
theorem dX12_summedBy_27 : decode cX12_summedBy 27 = .ok (.iadd, 1) := by decide +kernel
theorem dX12_summedBy_28 : decode cX12_summedBy 28 = .ok (.iaload, 1) := by decide +kernel
theorem dX12_summedBy_29 : decode cX12_summedBy 29 = .ok (.ifCond .lt 29, 3) := by decide +kernel
theorem dX12_summedBy_32 : decode cX12_summedBy 32 = .ok (.aload_n 0, 1) := by decide +kernel
theorem dX12_summedBy_33 : decode cX12_summedBy 33 = .ok (.iload_n 1, 1) := by decide +kernel
theorem dX12_summedBy_34 : decode cX12_summedBy 34 = .ok (.aload_n 0, 1) := by decide +kernel
theorem dX12_summedBy_35 : decode cX12_summedBy 35 = .ok (.getfield 20, 3) := by decide +kernel
theorem dX12_summedBy_38 : decode cX12_summedBy 38 = .ok (.iload_n 3, 1) := by decide +kernel
theorem dX12_summedBy_39 : decode cX12_summedBy 39 = .ok (.iconst 2, 1) := by decide +kernel
theorem dX12_summedBy_40 : decode cX12_summedBy 40 = .ok (.iadd, 1) := by decide +kernel
theorem dX12_summedBy_41 : decode cX12_summedBy 41 = .ok (.iaload, 1) := by decide +kernel
theorem dX12_summedBy_42 : decode cX12_summedBy 42 = .ok (.aload_n 0, 1) := by decide +kernel
theorem dX12_summedBy_43 : decode cX12_summedBy 43 = .ok (.getfield 20, 3) := by decide +kernel
theorem dX12_summedBy_46 : decode cX12_summedBy 46 = .ok (.iload_n 3, 1) := by decide +kernel
theorem dX12_summedBy_47 : decode cX12_summedBy 47 = .ok (.iconst 3, 1) := by decide +kernel
theorem dX12_summedBy_48 : decode cX12_summedBy 48 = .ok (.iadd, 1) := by decide +kernel
theorem dX12_summedBy_49 : decode cX12_summedBy 49 = .ok (.iaload, 1) := by decide +kernel
theorem dX12_summedBy_50 : decode cX12_summedBy 50 = .ok (.invokevirtual 325, 3) := by decide +kernel
theorem dX12_summedBy_53 : decode cX12_summedBy 53 = .ok (.lconst 1, 1) := by decide +kernel
theorem dX12_summedBy_54 : decode cX12_summedBy 54 = .ok (.lcmp, 1) := by decide +kernel
theorem dX12_summedBy_55 : decode cX12_summedBy 55 = .ok (.ifCond .ne 23, 3) := by decide +kernel
theorem dX12_summedBy_58 : decode cX12_summedBy 58 = .ok (.aload_n 0, 1) := by decide +kernel
theorem dX12_summedBy_59 : decode cX12_summedBy 59 = .ok (.iload_n 1, 1) := by decide +kernel
theorem dX12_summedBy_60 : decode cX12_summedBy 60 = .ok (.aload_n 0, 1) := by decide +kernel
theorem dX12_summedBy_61 : decode cX12_summedBy 61 = .ok (.getfield 20, 3) := by decide +kernel
theorem dX12_summedBy_64 : decode cX12_summedBy 64 = .ok (.iload_n 3, 1) := by decide +kernel
theorem dX12_summedBy_65 : decode cX12_summedBy 65 = .ok (.iaload, 1) := by decide +kernel
theorem dX12_summedBy_66 : decode cX12_summedBy 66 = .ok (.aload_n 0, 1) := by decide +kernel
theorem dX12_summedBy_67 : decode cX12_summedBy 67 = .ok (.getfield 20, 3) := by decide +kernel
theorem dX12_summedBy_70 : decode cX12_summedBy 70 = .ok (.iload_n 3, 1) := by decide +kernel
theorem dX12_summedBy_71 : decode cX12_summedBy 71 = .ok (.iconst 1, 1) := by decide +kernel
theorem dX12_summedBy_72 : decode cX12_summedBy 72 = .ok (.iadd, 1) := by decide +kernel
theorem dX12_summedBy_73 : decode cX12_summedBy 73 = .ok (.iaload, 1) := by decide +kernel
theorem dX12_summedBy_74 : decode cX12_summedBy 74 = .ok (.invokevirtual 325, 3) := by decide +kernel
theorem dX12_summedBy_77 : decode cX12_summedBy 77 = .ok (.lreturn, 1) := by decide +kernel
theorem dX12_summedBy_78 : decode cX12_summedBy 78 = .ok (.iinc 2 1, 3) := by decide +kernel
theorem dX12_summedBy_81 : decode cX12_summedBy 81 = .ok (.goto (-79), 3) := by decide +kernel
theorem dX12_summedBy_84 : decode cX12_summedBy 84 = .ok (.lconst 0, 1) := by decide +kernel
theorem dX12_summedBy_85 : decode cX12_summedBy 85 = .ok (.lreturn, 1) := by decide +kernel
abbrev Mm_summedBy : rx_M := (RX12, yX12_summedBy, cX12_summedBy, 4, (some .long), 3)
theorem km_summedBy : rKv Mm_summedBy 1 := ⟨tb_in (i := 25) (j := 5) rfl rfl, tb_in (i := 25) (j := 6) rfl rfl, tb_in (i := 17) (j := 21) rfl rfl, tb_in (i := 24) (j := 31) rfl rfl, ⟨by decide, by decide, by decide +kernel⟩, by decide⟩
def m_summedBy_l2 (z_sign : Nat → Int32) (z_clause : Nat → Int32) (z_clauses : Nat → Int32) (z_word : Nat → Int64) (x1 : Int32) : Nat → Int32 → (Nat → Int64) → Int32 → Option (Int64 × (Nat → Int64) × Int32)
  | 0, _, _, _ => none
  | n + 1, x2, z_stack, z_top => rq (inb x1 6) ((if (z_clauses x1.toNatClampNeg) ≤ x2 then some ((0 : Int64), z_stack, z_top) else lt (((48 : Int32) * x1) + ((4 : Int32) * x2)) (fun y3 => rq (inb (y3 + (2 : Int32)) 288) ((if (z_clause (y3 + (2 : Int32)).toNatClampNeg) < 0 then rq (inb y3 288) (rq (inb (y3 + (1 : Int32)) 288) ((m_reckons x1 (z_clause y3.toNatClampNeg) (z_clause (y3 + (1 : Int32)).toNatClampNeg) z_sign z_stack z_top z_word).bind (fun q8 => some (q8.1, q8.2.1, q8.2.2)))) else rq (inb (y3 + (2 : Int32)) 288) (rq (inb (y3 + (3 : Int32)) 288) ((m_reckons x1 (z_clause (y3 + (2 : Int32)).toNatClampNeg) (z_clause (y3 + (3 : Int32)).toNatClampNeg) z_sign z_stack z_top z_word).bind (fun q11 => (if (lg_cmp q11.1 (1 : Int64)) = 0 then rq (inb y3 288) (rq (inb (y3 + (1 : Int32)) 288) ((m_reckons x1 (z_clause y3.toNatClampNeg) (z_clause (y3 + (1 : Int32)).toNatClampNeg) z_sign q11.2.1 q11.2.2 z_word).bind (fun q15 => some (q15.1, q15.2.1, q15.2.2)))) else m_summedBy_l2 z_sign z_clause z_clauses z_word x1 n (x2 + (1 : Int32)) q11.2.1 q11.2.2)))))))))
set_option maxRecDepth 20000 in
theorem cm_summedBy_l2 {q : Int64 × (Nat → Int64) × Int32} {x1 : Int32}  : ∀ (n : Nat) (x2 : Int32) (z_stack : Nat → Int64) (z_top : Int32), m_summedBy_l2 z_sign z_clause z_clauses z_word x1 n x2 z_stack z_top = some q → rW l D Z (ty7 K) Mm_summedBy 2 [(0, .ref (ad 0)), (1, .int x1), (2, .int x2)] [] (wM K ad z_tape z_taped z_rules z_sign z_length z_clause z_clauses z_read z_next z_wrong z_number z_text z_made z_deep z_lines z_open z_opened z_stack z_top z_word z_said z_force z_x z_absent z_isRaining z_wasSaid z_undone z_kept z_order z_bestOrder z_hasBy z_wealthThen z_isFit z_tillThen z_drawX z_images z_imageForce z_imageX z_isMade) (wM K ad z_tape z_taped z_rules z_sign z_length z_clause z_clauses z_read z_next z_wrong z_number z_text z_made z_deep z_lines z_open z_opened q.2.1 q.2.2 z_word z_said z_force z_x z_absent z_isRaining z_wasSaid z_undone z_kept z_order z_bestOrder z_hasBy z_wealthThen z_isFit z_tillThen z_drawX z_images z_imageForce z_imageX z_isMade) (some (.long q.1)) := by
  intro n
  induction n with
  | zero => intro x2 z_stack z_top h; unfold m_summedBy_l2 at h; cases h
  | succ n ih =>
    intro x2 z_stack z_top h
    unfold m_summedBy_l2 at h
    refine r_iload_n 2 dX12_summedBy_2 rfl ?_
    refine r_aload_n 0 dX12_summedBy_3 rfl ?_
    refine gM_clauses rfl dX12_summedBy_4 ?_
    refine r_iload_n 1 dX12_summedBy_7 rfl ?_
    obtain ⟨h1, h⟩ := rq_some h
    refine lM_clauses (inb_in h1) dX12_summedBy_8 ?_
    refine r_icmp_ge 84 dX12_summedBy_9 (by decide) (fun c2 => ?_) (fun c2 => ?_)
    · replace h := it_pos c2 h
      refine r_lconst (x := (0 : Int64)) dX12_summedBy_84 (by decide) ?_
      have hq := Option.some.inj h
      subst hq
      exact r_lret rfl dX12_summedBy_85
    · replace h := it_neg c2 h
      refine r_bipush (x := (48 : Int32)) dX12_summedBy_12 (by decide) ?_
      refine r_iload_n 1 dX12_summedBy_14 rfl ?_
      refine r_imul dX12_summedBy_15 ?_
      refine r_iconst (x := (4 : Int32)) dX12_summedBy_16 (by decide) ?_
      refine r_iload_n 2 dX12_summedBy_17 rfl ?_
      refine r_imul dX12_summedBy_18 ?_
      refine r_iadd dX12_summedBy_19 ?_
      obtain ⟨y3, e3, h⟩ := lt_some h
      refine r_top e3 ?_
      refine r_istore_n (lv' := [(3, .int y3), (0, .ref (ad 0)), (1, .int x1), (2, .int x2)]) dX12_summedBy_20 (by decide) rfl ?_
      refine r_aload_n 1 dX12_summedBy_21 rfl ?_
      refine gM_clause rfl dX12_summedBy_22 ?_
      refine r_iload_n 0 dX12_summedBy_25 rfl ?_
      refine r_iconst (x := (2 : Int32)) dX12_summedBy_26 (by decide) ?_
      refine r_iadd dX12_summedBy_27 ?_
      obtain ⟨h4, h⟩ := rq_some h
      refine lM_clause (inb_in h4) dX12_summedBy_28 ?_
      refine r_if_lt 58 dX12_summedBy_29 (by decide) (fun c5 => ?_) (fun c5 => ?_)
      · replace h := it_pos c5 h
        refine r_aload_n 1 dX12_summedBy_58 rfl ?_
        refine r_iload_n 2 dX12_summedBy_59 rfl ?_
        refine r_aload_n 1 dX12_summedBy_60 rfl ?_
        refine gM_clause rfl dX12_summedBy_61 ?_
        refine r_iload_n 0 dX12_summedBy_64 rfl ?_
        obtain ⟨h6, h⟩ := rq_some h
        refine lM_clause (inb_in h6) dX12_summedBy_65 ?_
        refine r_aload_n 1 dX12_summedBy_66 rfl ?_
        refine gM_clause rfl dX12_summedBy_67 ?_
        refine r_iload_n 0 dX12_summedBy_70 rfl ?_
        refine r_iconst (x := (1 : Int32)) dX12_summedBy_71 (by decide) ?_
        refine r_iadd dX12_summedBy_72 ?_
        obtain ⟨h7, h⟩ := rq_some h
        refine lM_clause (inb_in h7) dX12_summedBy_73 ?_
        obtain ⟨q8, h8, h⟩ := bd_some h
        refine cvM (st := []) (cm_reckons h8) rfl rfl (Nat.le_of_ble_eq_true rfl) km_reckons (tb_in (i := 25) (j := 0) rfl rfl) (by decide) rfl dX12_summedBy_74 ?_
        have hq := Option.some.inj h
        subst hq
        exact r_lret rfl dX12_summedBy_77
      · replace h := it_neg c5 h
        refine r_aload_n 1 dX12_summedBy_32 rfl ?_
        refine r_iload_n 2 dX12_summedBy_33 rfl ?_
        refine r_aload_n 1 dX12_summedBy_34 rfl ?_
        refine gM_clause rfl dX12_summedBy_35 ?_
        refine r_iload_n 0 dX12_summedBy_38 rfl ?_
        refine r_iconst (x := (2 : Int32)) dX12_summedBy_39 (by decide) ?_
        refine r_iadd dX12_summedBy_40 ?_
        obtain ⟨h9, h⟩ := rq_some h
        refine lM_clause (inb_in h9) dX12_summedBy_41 ?_
        refine r_aload_n 1 dX12_summedBy_42 rfl ?_
        refine gM_clause rfl dX12_summedBy_43 ?_
        refine r_iload_n 0 dX12_summedBy_46 rfl ?_
        refine r_iconst (x := (3 : Int32)) dX12_summedBy_47 (by decide) ?_
        refine r_iadd dX12_summedBy_48 ?_
        obtain ⟨h10, h⟩ := rq_some h
        refine lM_clause (inb_in h10) dX12_summedBy_49 ?_
        obtain ⟨q11, h11, h⟩ := bd_some h
        refine cvM (st := []) (cm_reckons h11) rfl rfl (Nat.le_of_ble_eq_true rfl) km_reckons (tb_in (i := 25) (j := 0) rfl rfl) (by decide) rfl dX12_summedBy_50 ?_
        refine r_lconst (x := (1 : Int64)) dX12_summedBy_53 (by decide) ?_
        refine r_lcmp dX12_summedBy_54 ?_
        refine r_if_ne 78 dX12_summedBy_55 (by decide) (fun c12 => ?_) (fun c12 => ?_)
        · replace h := it_neg c12 h
          refine r_iinc (y := (x2 + (1 : Int32))) (lv' := [(2, .int (x2 + (1 : Int32))), (3, .int y3), (0, .ref (ad 0)), (1, .int x1)]) 3 dX12_summedBy_78 rfl rfl (by decide) rfl ?_
          refine r_goto 2 dX12_summedBy_81 (by decide) ?_
          refine r_sub (lv' := [(0, .ref (ad 0)), (1, .int x1), (2, .int (x2 + (1 : Int32)))]) [2, 3, 0] rfl ?_
          exact ih _ _ _ h
        · replace h := it_pos c12 h
          refine r_aload_n 1 dX12_summedBy_58 rfl ?_
          refine r_iload_n 2 dX12_summedBy_59 rfl ?_
          refine r_aload_n 1 dX12_summedBy_60 rfl ?_
          refine gM_clause rfl dX12_summedBy_61 ?_
          refine r_iload_n 0 dX12_summedBy_64 rfl ?_
          obtain ⟨h13, h⟩ := rq_some h
          refine lM_clause (inb_in h13) dX12_summedBy_65 ?_
          refine r_aload_n 1 dX12_summedBy_66 rfl ?_
          refine gM_clause rfl dX12_summedBy_67 ?_
          refine r_iload_n 0 dX12_summedBy_70 rfl ?_
          refine r_iconst (x := (1 : Int32)) dX12_summedBy_71 (by decide) ?_
          refine r_iadd dX12_summedBy_72 ?_
          obtain ⟨h14, h⟩ := rq_some h
          refine lM_clause (inb_in h14) dX12_summedBy_73 ?_
          obtain ⟨q15, h15, h⟩ := bd_some h
          refine cvM (st := []) (cm_reckons h15) rfl rfl (Nat.le_of_ble_eq_true rfl) km_reckons (tb_in (i := 25) (j := 0) rfl rfl) (by decide) rfl dX12_summedBy_74 ?_
          have hq := Option.some.inj h
          subst hq
          exact r_lret rfl dX12_summedBy_77
def m_summedBy (x1 : Int32) (z_sign : Nat → Int32) (z_clause : Nat → Int32) (z_clauses : Nat → Int32) (z_stack : Nat → Int64) (z_top : Int32) (z_word : Nat → Int64) : Option (Int64 × (Nat → Int64) × Int32) := m_summedBy_l2 z_sign z_clause z_clauses z_word x1 FU (0 : Int32) z_stack z_top
set_option maxRecDepth 20000 in
theorem cm_summedBy {q : Int64 × (Nat → Int64) × Int32} {x1 : Int32} (h : m_summedBy x1 z_sign z_clause z_clauses z_stack z_top z_word = some q) : rMet l D Z (ty7 K) Mm_summedBy [.ref (ad 0), .int x1] (wM K ad z_tape z_taped z_rules z_sign z_length z_clause z_clauses z_read z_next z_wrong z_number z_text z_made z_deep z_lines z_open z_opened z_stack z_top z_word z_said z_force z_x z_absent z_isRaining z_wasSaid z_undone z_kept z_order z_bestOrder z_hasBy z_wealthThen z_isFit z_tillThen z_drawX z_images z_imageForce z_imageX z_isMade) (wM K ad z_tape z_taped z_rules z_sign z_length z_clause z_clauses z_read z_next z_wrong z_number z_text z_made z_deep z_lines z_open z_opened q.2.1 q.2.2 z_word z_said z_force z_x z_absent z_isRaining z_wasSaid z_undone z_kept z_order z_bestOrder z_hasBy z_wealthThen z_isFit z_tillThen z_drawX z_images z_imageForce z_imageX z_isMade) (some (.long q.1)) := by
  refine rMet.of (by decide) rfl (Nat.le_of_ble_eq_true rfl) ?_
  refine r_sub (lv' := [(0, .ref (ad 0)), (1, .int x1)]) [0, 1] rfl ?_
  unfold m_summedBy at h
  refine r_iconst (x := (0 : Int32)) dX12_summedBy_0 (by decide) ?_
  refine r_istore_n (lv' := [(2, .int (0 : Int32)), (0, .ref (ad 0)), (1, .int x1)]) dX12_summedBy_1 (by decide) rfl ?_
  refine r_sub (lv' := [(0, .ref (ad 0)), (1, .int x1), (2, .int (0 : Int32))]) [1, 2, 0] rfl ?_
  exact cm_summedBy_l2  FU _ _ _ h
theorem dX12_sumOf_0 : decode cX12_sumOf 0 = .ok (.aload_n 0, 1) := by decide +kernel
theorem dX12_sumOf_1 : decode cX12_sumOf 1 = .ok (.getfield 39, 3) := by decide +kernel
theorem dX12_sumOf_4 : decode cX12_sumOf 4 = .ok (.bipush 95, 2) := by decide +kernel
theorem dX12_sumOf_6 : decode cX12_sumOf 6 = .ok (.iload_n 1, 1) := by decide +kernel
theorem dX12_sumOf_7 : decode cX12_sumOf 7 = .ok (.iadd, 1) := by decide +kernel
theorem dX12_sumOf_8 : decode cX12_sumOf 8 = .ok (.iaload, 1) := by decide +kernel
theorem dX12_sumOf_9 : decode cX12_sumOf 9 = .ok (.iload_n 2, 1) := by decide +kernel
theorem dX12_sumOf_10 : decode cX12_sumOf 10 = .ok (.if_icmp .ne 7, 3) := by decide +kernel
theorem dX12_sumOf_13 : decode cX12_sumOf 13 = .ok (.lconst 1, 1) := by decide +kernel
theorem dX12_sumOf_14 : decode cX12_sumOf 14 = .ok (.goto 4, 3) := by decide +kernel
theorem dX12_sumOf_17 : decode cX12_sumOf 17 = .ok (.lconst 0, 1) := by decide +kernel
theorem dX12_sumOf_18 : decode cX12_sumOf 18 = .ok (.lstore_n 3, 1) := by decide +kernel
theorem dX12_sumOf_19 : decode cX12_sumOf 19 = .ok (.aload_n 0, 1) := by decide +kernel
theorem dX12_sumOf_20 : decode cX12_sumOf 20 = .ok (.getfield 42, 3) := by decide +kernel
theorem dX12_sumOf_23 : decode cX12_sumOf 23 = .ok (.ifCond .ge 18, 3) := by decide +kernel
theorem dX12_sumOf_26 : decode cX12_sumOf 26 = .ok (.lconst 1, 1) := by decide +kernel
theorem dX12_sumOf_27 : decode cX12_sumOf 27 = .ok (.aload_n 0, 1) := by decide +kernel
theorem dX12_sumOf_28 : decode cX12_sumOf 28 = .ok (.iload_n 2, 1) := by decide +kernel
theorem dX12_sumOf_29 : decode cX12_sumOf 29 = .ok (.invokevirtual 314, 3) := by decide +kernel
theorem dX12_sumOf_32 : decode cX12_sumOf 32 = .ok (.i2l, 1) := by decide +kernel
theorem dX12_sumOf_33 : decode cX12_sumOf 33 = .ok (.ladd, 1) := by decide +kernel
theorem dX12_sumOf_34 : decode cX12_sumOf 34 = .ok (.ldc2_w 329, 3) := by decide +kernel
theorem dX12_sumOf_37 : decode cX12_sumOf 37 = .ok (.lload_n 3, 1) := by decide +kernel
theorem dX12_sumOf_38 : decode cX12_sumOf 38 = .ok (.lmul, 1) := by decide +kernel
theorem dX12_sumOf_39 : decode cX12_sumOf 39 = .ok (.ladd, 1) := by decide +kernel
theorem dX12_sumOf_40 : decode cX12_sumOf 40 = .ok (.lreturn, 1) := by decide +kernel
theorem dX12_sumOf_41 : decode cX12_sumOf 41 = .ok (.aload_n 0, 1) := by decide +kernel
theorem dX12_sumOf_42 : decode cX12_sumOf 42 = .ok (.getfield 36, 3) := by decide +kernel
theorem dX12_sumOf_45 : decode cX12_sumOf 45 = .ok (.iconst 0, 1) := by decide +kernel
theorem dX12_sumOf_46 : decode cX12_sumOf 46 = .ok (.iload_n 1, 1) := by decide +kernel
theorem dX12_sumOf_47 : decode cX12_sumOf 47 = .ok (.i2l, 1) := by decide +kernel
theorem dX12_sumOf_48 : decode cX12_sumOf 48 = .ok (.lastore, 1) := by decide +kernel
theorem dX12_sumOf_49 : decode cX12_sumOf 49 = .ok (.aload_n 0, 1) := by decide +kernel
theorem dX12_sumOf_50 : decode cX12_sumOf 50 = .ok (.getfield 36, 3) := by decide +kernel
theorem dX12_sumOf_53 : decode cX12_sumOf 53 = .ok (.iconst 1, 1) := by decide +kernel
theorem dX12_sumOf_54 : decode cX12_sumOf 54 = .ok (.iload_n 2, 1) := by decide +kernel
theorem dX12_sumOf_55 : decode cX12_sumOf 55 = .ok (.i2l, 1) := by decide +kernel
theorem dX12_sumOf_56 : decode cX12_sumOf 56 = .ok (.lastore, 1) := by decide +kernel
theorem dX12_sumOf_57 : decode cX12_sumOf 57 = .ok (.aload_n 0, 1) := by decide +kernel
theorem dX12_sumOf_58 : decode cX12_sumOf 58 = .ok (.getfield 36, 3) := by decide +kernel
theorem dX12_sumOf_61 : decode cX12_sumOf 61 = .ok (.iconst 2, 1) := by decide +kernel
theorem dX12_sumOf_62 : decode cX12_sumOf 62 = .ok (.aload_n 0, 1) := by decide +kernel
theorem dX12_sumOf_63 : decode cX12_sumOf 63 = .ok (.getfield 39, 3) := by decide +kernel
theorem dX12_sumOf_66 : decode cX12_sumOf 66 = .ok (.bipush 47, 2) := by decide +kernel
theorem dX12_sumOf_68 : decode cX12_sumOf 68 = .ok (.iload_n 1, 1) := by decide +kernel
theorem dX12_sumOf_69 : decode cX12_sumOf 69 = .ok (.iadd, 1) := by decide +kernel
theorem dX12_sumOf_70 : decode cX12_sumOf 70 = .ok (.iaload, 1) := by decide +kernel
theorem dX12_sumOf_71 : decode cX12_sumOf 71 = .ok (.i2l, 1) := by decide +kernel
theorem dX12_sumOf_72 : decode cX12_sumOf 72 = .ok (.lastore, 1) := by decide +kernel
theorem dX12_sumOf_73 : decode cX12_sumOf 73 = .ok (.aload_n 0, 1) := by decide +kernel
theorem dX12_sumOf_74 : decode cX12_sumOf 74 = .ok (.getfield 36, 3) := by decide +kernel
theorem dX12_sumOf_77 : decode cX12_sumOf 77 = .ok (.iconst 3, 1) := by decide +kernel
theorem dX12_sumOf_78 : decode cX12_sumOf 78 = .ok (.aload_n 0, 1) := by decide +kernel
theorem dX12_sumOf_79 : decode cX12_sumOf 79 = .ok (.iload_n 2, 1) := by decide +kernel
theorem dX12_sumOf_80 : decode cX12_sumOf 80 = .ok (.invokevirtual 305, 3) := by decide +kernel
theorem dX12_sumOf_83 : decode cX12_sumOf 83 = .ok (.i2l, 1) := by decide +kernel
theorem dX12_sumOf_84 : decode cX12_sumOf 84 = .ok (.lastore, 1) := by decide +kernel
theorem dX12_sumOf_85 : decode cX12_sumOf 85 = .ok (.aload_n 0, 1) := by decide +kernel
theorem dX12_sumOf_86 : decode cX12_sumOf 86 = .ok (.getfield 36, 3) := by decide +kernel
theorem dX12_sumOf_89 : decode cX12_sumOf 89 = .ok (.iconst 4, 1) := by decide +kernel
theorem dX12_sumOf_90 : decode cX12_sumOf 90 = .ok (.aload_n 0, 1) := by decide +kernel
theorem dX12_sumOf_91 : decode cX12_sumOf 91 = .ok (.iload_n 2, 1) := by decide +kernel
theorem dX12_sumOf_92 : decode cX12_sumOf 92 = .ok (.invokevirtual 314, 3) := by decide +kernel
theorem dX12_sumOf_95 : decode cX12_sumOf 95 = .ok (.i2l, 1) := by decide +kernel
theorem dX12_sumOf_96 : decode cX12_sumOf 96 = .ok (.lastore, 1) := by decide +kernel
theorem dX12_sumOf_97 : decode cX12_sumOf 97 = .ok (.aload_n 0, 1) := by decide +kernel
theorem dX12_sumOf_98 : decode cX12_sumOf 98 = .ok (.getfield 36, 3) := by decide +kernel
theorem dX12_sumOf_101 : decode cX12_sumOf 101 = .ok (.iconst 5, 1) := by decide +kernel
theorem dX12_sumOf_102 : decode cX12_sumOf 102 = .ok (.lload_n 3, 1) := by decide +kernel
theorem dX12_sumOf_103 : decode cX12_sumOf 103 = .ok (.lastore, 1) := by decide +kernel
theorem dX12_sumOf_104 : decode cX12_sumOf 104 = .ok (.aload_n 0, 1) := by decide +kernel
theorem dX12_sumOf_105 : decode cX12_sumOf 105 = .ok (.getfield 36, 3) := by decide +kernel
theorem dX12_sumOf_108 : decode cX12_sumOf 108 = .ok (.bipush 6, 2) := by decide +kernel
theorem dX12_sumOf_110 : decode cX12_sumOf 110 = .ok (.aload_n 0, 1) := by decide +kernel
theorem dX12_sumOf_111 : decode cX12_sumOf 111 = .ok (.iload_n 2, 1) := by decide +kernel
theorem dX12_sumOf_112 : decode cX12_sumOf 112 = .ok (.invokevirtual 302, 3) := by decide +kernel
theorem dX12_sumOf_115 : decode cX12_sumOf 115 = .ok (.i2l, 1) := by decide +kernel
theorem dX12_sumOf_116 : decode cX12_sumOf 116 = .ok (.lastore, 1) := by decide +kernel
theorem dX12_sumOf_117 : decode cX12_sumOf 117 = .ok (.aload_n 0, 1) := by decide +kernel
theorem dX12_sumOf_118 : decode cX12_sumOf 118 = .ok (.getfield 36, 3) := by decide +kernel
theorem dX12_sumOf_121 : decode cX12_sumOf 121 = .ok (.bipush 7, 2) := by decide +kernel
theorem dX12_sumOf_123 : decode cX12_sumOf 123 = .ok (.aload_n 0, 1) := by decide +kernel
theorem dX12_sumOf_124 : decode cX12_sumOf 124 = .ok (.getfield 39, 3) := by decide +kernel
theorem dX12_sumOf_127 : decode cX12_sumOf 127 = .ok (.bipush 101, 2) := by decide +kernel
theorem dX12_sumOf_129 : decode cX12_sumOf 129 = .ok (.iload_n 2, 1) := by decide +kernel
theorem dX12_sumOf_130 : decode cX12_sumOf 130 = .ok (.iadd, 1) := by decide +kernel
theorem dX12_sumOf_131 : decode cX12_sumOf 131 = .ok (.iaload, 1) := by decide +kernel
theorem dX12_sumOf_132 : decode cX12_sumOf 132 = .ok (.aload_n 0, 1) := by decide +kernel
theorem dX12_sumOf_133 : decode cX12_sumOf 133 = .ok (.iload_n 2, 1) := by decide +kernel
theorem dX12_sumOf_134 : decode cX12_sumOf 134 = .ok (.invokevirtual 302, 3) := by decide +kernel
theorem dX12_sumOf_137 : decode cX12_sumOf 137 = .ok (.isub, 1) := by decide +kernel
theorem dX12_sumOf_138 : decode cX12_sumOf 138 = .ok (.i2l, 1) := by decide +kernel
theorem dX12_sumOf_139 : decode cX12_sumOf 139 = .ok (.lastore, 1) := by decide +kernel
theorem dX12_sumOf_140 : decode cX12_sumOf 140 = .ok (.aload_n 0, 1) := by decide +kernel
theorem dX12_sumOf_141 : decode cX12_sumOf 141 = .ok (.getfield 36, 3) := by decide +kernel
theorem dX12_sumOf_144 : decode cX12_sumOf 144 = .ok (.bipush 8, 2) := by decide +kernel
theorem dX12_sumOf_146 : decode cX12_sumOf 146 = .ok (.aload_n 0, 1) := by decide +kernel
theorem dX12_sumOf_147 : decode cX12_sumOf 147 = .ok (.getfield 39, 3) := by decide +kernel
theorem dX12_sumOf_150 : decode cX12_sumOf 150 = .ok (.bipush 53, 2) := by decide +kernel
theorem dX12_sumOf_152 : decode cX12_sumOf 152 = .ok (.bipush 6, 2) := by decide +kernel
theorem dX12_sumOf_154 : decode cX12_sumOf 154 = .ok (.iload_n 1, 1) := by decide +kernel
theorem dX12_sumOf_155 : decode cX12_sumOf 155 = .ok (.imul, 1) := by decide +kernel
theorem dX12_sumOf_156 : decode cX12_sumOf 156 = .ok (.iadd, 1) := by decide +kernel
theorem dX12_sumOf_157 : decode cX12_sumOf 157 = .ok (.iload_n 2, 1) := by decide +kernel
theorem dX12_sumOf_158 : decode cX12_sumOf 158 = .ok (.iadd, 1) := by decide +kernel
theorem dX12_sumOf_159 : decode cX12_sumOf 159 = .ok (.iaload, 1) := by decide +kernel
theorem dX12_sumOf_160 : decode cX12_sumOf 160 = .ok (.i2l, 1) := by decide +kernel
theorem dX12_sumOf_161 : decode cX12_sumOf 161 = .ok (.lastore, 1) := by decide +kernel
theorem dX12_sumOf_162 : decode cX12_sumOf 162 = .ok (.aload_n 0, 1) := by decide +kernel
theorem dX12_sumOf_163 : decode cX12_sumOf 163 = .ok (.getfield 36, 3) := by decide +kernel
theorem dX12_sumOf_166 : decode cX12_sumOf 166 = .ok (.bipush 9, 2) := by decide +kernel
theorem dX12_sumOf_168 : decode cX12_sumOf 168 = .ok (.aload_n 0, 1) := by decide +kernel
theorem dX12_sumOf_169 : decode cX12_sumOf 169 = .ok (.aload_n 0, 1) := by decide +kernel
theorem dX12_sumOf_170 : decode cX12_sumOf 170 = .ok (.iload_n 2, 1) := by decide +kernel
theorem dX12_sumOf_171 : decode cX12_sumOf 171 = .ok (.invokevirtual 296, 3) := by decide +kernel
theorem dX12_sumOf_174 : decode cX12_sumOf 174 = .ok (.iload_n 2, 1) := by decide +kernel
theorem dX12_sumOf_175 : decode cX12_sumOf 175 = .ok (.invokevirtual 299, 3) := by decide +kernel
theorem dX12_sumOf_178 : decode cX12_sumOf 178 = .ok (.ifCond .eq 7, 3) := by decide +kernel
theorem dX12_sumOf_181 : decode cX12_sumOf 181 = .ok (.lconst 1, 1) := by decide +kernel
theorem dX12_sumOf_182 : decode cX12_sumOf 182 = .ok (.goto 4, 3) := by decide +kernel
theorem dX12_sumOf_185 : decode cX12_sumOf 185 = .ok (.lconst 0, 1) := by decide +kernel
theorem dX12_sumOf_186 : decode cX12_sumOf 186 = .ok (.lastore, 1) := by decide +kernel
theorem dX12_sumOf_187 : decode cX12_sumOf 187 = .ok (.aload_n 0, 1) := by decide +kernel
theorem dX12_sumOf_188 : decode cX12_sumOf 188 = .ok (.getfield 36, 3) := by decide +kernel
theorem dX12_sumOf_191 : decode cX12_sumOf 191 = .ok (.bipush 10, 2) := by decide +kernel
theorem dX12_sumOf_193 : decode cX12_sumOf 193 = .ok (.aload_n 0, 1) := by decide +kernel
theorem dX12_sumOf_194 : decode cX12_sumOf 194 = .ok (.getfield 39, 3) := by decide +kernel
theorem dX12_sumOf_197 : decode cX12_sumOf 197 = .ok (.bipush 10, 2) := by decide +kernel
theorem dX12_sumOf_199 : decode cX12_sumOf 199 = .ok (.iaload, 1) := by decide +kernel
theorem dX12_sumOf_200 : decode cX12_sumOf 200 = .ok (.aload_n 0, 1) := by decide +kernel
theorem dX12_sumOf_201 : decode cX12_sumOf 201 = .ok (.getfield 39, 3) := by decide +kernel
theorem dX12_sumOf_204 : decode cX12_sumOf 204 = .ok (.iconst 1, 1) := by decide +kernel
theorem dX12_sumOf_205 : decode cX12_sumOf 205 = .ok (.iaload, 1) := by decide +kernel
theorem dX12_sumOf_206 : decode cX12_sumOf 206 = .ok (.irem, 1) := by decide +kernel
theorem dX12_sumOf_207 : decode cX12_sumOf 207 = .ok (.i2l, 1) := by decide +kernel
theorem dX12_sumOf_208 : decode cX12_sumOf 208 = .ok (.lastore, 1) := by decide +kernel
theorem dX12_sumOf_209 : decode cX12_sumOf 209 = .ok (.aload_n 0, 1) := by decide +kernel
theorem dX12_sumOf_210 : decode cX12_sumOf 210 = .ok (.getfield 36, 3) := by decide +kernel
theorem dX12_sumOf_213 : decode cX12_sumOf 213 = .ok (.bipush 11, 2) := by decide +kernel
theorem dX12_sumOf_215 : decode cX12_sumOf 215 = .ok (.aload_n 0, 1) := by decide +kernel
theorem dX12_sumOf_216 : decode cX12_sumOf 216 = .ok (.getfield 39, 3) := by decide +kernel
theorem dX12_sumOf_219 : decode cX12_sumOf 219 = .ok (.bipush 10, 2) := by decide +kernel
theorem dX12_sumOf_221 : decode cX12_sumOf 221 = .ok (.iaload, 1) := by decide +kernel
theorem dX12_sumOf_222 : decode cX12_sumOf 222 = .ok (.aload_n 0, 1) := by decide +kernel
theorem dX12_sumOf_223 : decode cX12_sumOf 223 = .ok (.getfield 39, 3) := by decide +kernel
theorem dX12_sumOf_226 : decode cX12_sumOf 226 = .ok (.iconst 1, 1) := by decide +kernel
theorem dX12_sumOf_227 : decode cX12_sumOf 227 = .ok (.iaload, 1) := by decide +kernel
theorem dX12_sumOf_228 : decode cX12_sumOf 228 = .ok (.idiv, 1) := by decide +kernel
theorem dX12_sumOf_229 : decode cX12_sumOf 229 = .ok (.i2l, 1) := by decide +kernel
theorem dX12_sumOf_230 : decode cX12_sumOf 230 = .ok (.lastore, 1) := by decide +kernel
theorem dX12_sumOf_231 : decode cX12_sumOf 231 = .ok (.aload_n 0, 1) := by decide +kernel
theorem dX12_sumOf_232 : decode cX12_sumOf 232 = .ok (.aload_n 0, 1) := by decide +kernel
theorem dX12_sumOf_233 : decode cX12_sumOf 233 = .ok (.getfield 42, 3) := by decide +kernel
theorem dX12_sumOf_236 : decode cX12_sumOf 236 = .ok (.invokevirtual 331, 3) := by decide +kernel
theorem dX12_sumOf_239 : decode cX12_sumOf 239 = .ok (.lreturn, 1) := by decide +kernel
abbrev Mm_sumOf : rx_M := (RX12, yX12_sumOf, cX12_sumOf, 5, (some .long), 5)
theorem km_sumOf : rKv Mm_sumOf 2 := ⟨tb_in (i := 25) (j := 10) rfl rfl, tb_in (i := 25) (j := 11) rfl rfl, tb_in (i := 17) (j := 21) rfl rfl, tb_in (i := 25) (j := 7) rfl rfl, ⟨by decide, by decide, by decide +kernel⟩, by decide⟩
def m_sumOf_j186 (z_sign : Nat → Int32) (z_clause : Nat → Int32) (z_clauses : Nat → Int32) (z_stack : Nat → Int64) (z_top : Int32) (z_word : Nat → Int64) (z_said : Nat → Int32) (z_force : Int32) (s1 : Int32) (s2 : Int64) : Option (Int64 × (Nat → Int64) × Int32 × (Nat → Int64)) := rq (inb s1 12) (lt (vp_updL z_word s1.toNatClampNeg s2) (fun u23 => rq (inb (10 : Int32) 156) (rq (inb (1 : Int32) 156) (rq (decide (¬ (z_said (1 : Int32).toNatClampNeg) = 0)) (rq (inb (10 : Int32) 12) (lt (vp_updL u23 (10 : Int32).toNatClampNeg (((z_said (10 : Int32).toNatClampNeg) - (z_said (10 : Int32).toNatClampNeg) / (z_said (1 : Int32).toNatClampNeg) * (z_said (1 : Int32).toNatClampNeg)).toInt64)) (fun u27 => rq (inb (10 : Int32) 156) (rq (inb (1 : Int32) 156) (rq (decide (¬ (z_said (1 : Int32).toNatClampNeg) = 0)) (rq (inb (11 : Int32) 12) (lt (vp_updL u27 (11 : Int32).toNatClampNeg (((z_said (10 : Int32).toNatClampNeg) / (z_said (1 : Int32).toNatClampNeg)).toInt64)) (fun u31 => (m_summedBy z_force z_sign z_clause z_clauses z_stack z_top u31).bind (fun q32 => some (q32.1, q32.2.1, q32.2.2, u31))))))))))))))
set_option maxRecDepth 20000 in
theorem cm_sumOf_j186 {q : Int64 × (Nat → Int64) × Int32 × (Nat → Int64)} {s1 : Int32} {s2 : Int64}  (h : m_sumOf_j186 z_sign z_clause z_clauses z_stack z_top z_word z_said z_force s1 s2 = some q) : rW l D Z (ty7 K) Mm_sumOf 186 [(0, .ref (ad 0))] [.long s2, .int s1, .ref (ad 9)] (wM K ad z_tape z_taped z_rules z_sign z_length z_clause z_clauses z_read z_next z_wrong z_number z_text z_made z_deep z_lines z_open z_opened z_stack z_top z_word z_said z_force z_x z_absent z_isRaining z_wasSaid z_undone z_kept z_order z_bestOrder z_hasBy z_wealthThen z_isFit z_tillThen z_drawX z_images z_imageForce z_imageX z_isMade) (wM K ad z_tape z_taped z_rules z_sign z_length z_clause z_clauses z_read z_next z_wrong z_number z_text z_made z_deep z_lines z_open z_opened q.2.1 q.2.2.1 q.2.2.2 z_said z_force z_x z_absent z_isRaining z_wasSaid z_undone z_kept z_order z_bestOrder z_hasBy z_wealthThen z_isFit z_tillThen z_drawX z_images z_imageForce z_imageX z_isMade) (some (.long q.1)) := by
  unfold m_sumOf_j186 at h
  obtain ⟨h23, h⟩ := rq_some h
  obtain ⟨u23, e23, h⟩ := lt_some h
  refine sM_word e23 (inb_in h23) dX12_sumOf_186 ?_
  refine r_aload_n 0 dX12_sumOf_187 rfl ?_
  refine gM_word rfl dX12_sumOf_188 ?_
  refine r_bipush (x := (10 : Int32)) dX12_sumOf_191 (by decide) ?_
  refine r_aload_n 0 dX12_sumOf_193 rfl ?_
  refine gM_said rfl dX12_sumOf_194 ?_
  refine r_bipush (x := (10 : Int32)) dX12_sumOf_197 (by decide) ?_
  obtain ⟨h24, h⟩ := rq_some h
  refine lM_said (inb_in h24) dX12_sumOf_199 ?_
  refine r_aload_n 0 dX12_sumOf_200 rfl ?_
  refine gM_said rfl dX12_sumOf_201 ?_
  refine r_iconst (x := (1 : Int32)) dX12_sumOf_204 (by decide) ?_
  obtain ⟨h25, h⟩ := rq_some h
  refine lM_said (inb_in h25) dX12_sumOf_205 ?_
  obtain ⟨h26, h⟩ := rq_some h
  refine r_irem dX12_sumOf_206 (of_decide_eq_true h26) ?_
  refine r_i2l dX12_sumOf_207 ?_
  obtain ⟨h27, h⟩ := rq_some h
  obtain ⟨u27, e27, h⟩ := lt_some h
  refine sM_word e27 (inb_in h27) dX12_sumOf_208 ?_
  refine r_aload_n 0 dX12_sumOf_209 rfl ?_
  refine gM_word rfl dX12_sumOf_210 ?_
  refine r_bipush (x := (11 : Int32)) dX12_sumOf_213 (by decide) ?_
  refine r_aload_n 0 dX12_sumOf_215 rfl ?_
  refine gM_said rfl dX12_sumOf_216 ?_
  refine r_bipush (x := (10 : Int32)) dX12_sumOf_219 (by decide) ?_
  obtain ⟨h28, h⟩ := rq_some h
  refine lM_said (inb_in h28) dX12_sumOf_221 ?_
  refine r_aload_n 0 dX12_sumOf_222 rfl ?_
  refine gM_said rfl dX12_sumOf_223 ?_
  refine r_iconst (x := (1 : Int32)) dX12_sumOf_226 (by decide) ?_
  obtain ⟨h29, h⟩ := rq_some h
  refine lM_said (inb_in h29) dX12_sumOf_227 ?_
  obtain ⟨h30, h⟩ := rq_some h
  refine r_idiv dX12_sumOf_228 (of_decide_eq_true h30) ?_
  refine r_i2l dX12_sumOf_229 ?_
  obtain ⟨h31, h⟩ := rq_some h
  obtain ⟨u31, e31, h⟩ := lt_some h
  refine sM_word e31 (inb_in h31) dX12_sumOf_230 ?_
  refine r_aload_n 0 dX12_sumOf_231 rfl ?_
  refine r_aload_n 0 dX12_sumOf_232 rfl ?_
  refine gM_force rfl dX12_sumOf_233 ?_
  obtain ⟨q32, h32, h⟩ := bd_some h
  refine cvM (st := []) (cm_summedBy h32) rfl rfl (Nat.le_of_ble_eq_true rfl) km_summedBy (tb_in (i := 25) (j := 4) rfl rfl) (by decide) rfl dX12_sumOf_236 ?_
  have hq := Option.some.inj h
  subst hq
  exact r_lret rfl dX12_sumOf_239
def m_sumOf_j18 (x1 : Int32) (x2 : Int32) (z_sign : Nat → Int32) (z_clause : Nat → Int32) (z_clauses : Nat → Int32) (z_stack : Nat → Int64) (z_top : Int32) (z_word : Nat → Int64) (z_said : Nat → Int32) (z_force : Int32) (s0 : Int64) : Option (Int64 × (Nat → Int64) × Int32 × (Nat → Int64)) := (if 0 ≤ z_force then rq (inb (0 : Int32) 12) (lt (vp_updL z_word (0 : Int32).toNatClampNeg (x1.toInt64)) (fun u4 => rq (inb (1 : Int32) 12) (lt (vp_updL u4 (1 : Int32).toNatClampNeg (x2.toInt64)) (fun u5 => rq (inb ((47 : Int32) + x1) 156) (rq (inb (2 : Int32) 12) (lt (vp_updL u5 (2 : Int32).toNatClampNeg ((z_said ((47 : Int32) + x1).toNatClampNeg).toInt64)) (fun u7 => (m_priceOf x2 z_said).bind (fun q8 => rq (inb (3 : Int32) 12) (lt (vp_updL u7 (3 : Int32).toNatClampNeg (q8.toInt64)) (fun u9 => (m_praiseOf x2 z_said).bind (fun q10 => rq (inb (4 : Int32) 12) (lt (vp_updL u9 (4 : Int32).toNatClampNeg (q10.toInt64)) (fun u11 => rq (inb (5 : Int32) 12) (lt (vp_updL u11 (5 : Int32).toNatClampNeg s0) (fun u12 => (m_goodsOf x2 z_said).bind (fun q13 => rq (inb (6 : Int32) 12) (lt (vp_updL u12 (6 : Int32).toNatClampNeg (q13.toInt64)) (fun u14 => rq (inb ((101 : Int32) + x2) 156) ((m_goodsOf x2 z_said).bind (fun q16 => rq (inb (7 : Int32) 12) (lt (vp_updL u14 (7 : Int32).toNatClampNeg (((z_said ((101 : Int32) + x2).toNatClampNeg) - q16).toInt64)) (fun u17 => rq (inb (((53 : Int32) + ((6 : Int32) * x1)) + x2) 156) (rq (inb (8 : Int32) 12) (lt (vp_updL u17 (8 : Int32).toNatClampNeg ((z_said (((53 : Int32) + ((6 : Int32) * x1)) + x2).toNatClampNeg).toInt64)) (fun u19 => (m_sellerOf x2 z_said).bind (fun q20 => (m_bears q20 x2 z_said).bind (fun q21 => (if q21 = 0 then m_sumOf_j186 z_sign z_clause z_clauses z_stack z_top u19 z_said z_force (9 : Int32) (0 : Int64) else m_sumOf_j186 z_sign z_clause z_clauses z_stack z_top u19 z_said z_force (9 : Int32) (1 : Int64))))))))))))))))))))))))))))) else (m_praiseOf x2 z_said).bind (fun q33 => some ((((1 : Int64) + (q33.toInt64)) + ((3 : Int64) * s0)), z_stack, z_top, z_word)))
set_option maxRecDepth 20000 in
theorem cm_sumOf_j18 {q : Int64 × (Nat → Int64) × Int32 × (Nat → Int64)} {x1 : Int32} {x2 : Int32} {s0 : Int64}  (h : m_sumOf_j18 x1 x2 z_sign z_clause z_clauses z_stack z_top z_word z_said z_force s0 = some q) : rW l D Z (ty7 K) Mm_sumOf 18 [(0, .ref (ad 0)), (1, .int x1), (2, .int x2)] [.long s0] (wM K ad z_tape z_taped z_rules z_sign z_length z_clause z_clauses z_read z_next z_wrong z_number z_text z_made z_deep z_lines z_open z_opened z_stack z_top z_word z_said z_force z_x z_absent z_isRaining z_wasSaid z_undone z_kept z_order z_bestOrder z_hasBy z_wealthThen z_isFit z_tillThen z_drawX z_images z_imageForce z_imageX z_isMade) (wM K ad z_tape z_taped z_rules z_sign z_length z_clause z_clauses z_read z_next z_wrong z_number z_text z_made z_deep z_lines z_open z_opened q.2.1 q.2.2.1 q.2.2.2 z_said z_force z_x z_absent z_isRaining z_wasSaid z_undone z_kept z_order z_bestOrder z_hasBy z_wealthThen z_isFit z_tillThen z_drawX z_images z_imageForce z_imageX z_isMade) (some (.long q.1)) := by
  unfold m_sumOf_j18 at h
  refine r_lstore_n (lv' := [(3, .long s0), (0, .ref (ad 0)), (1, .int x1), (2, .int x2)]) dX12_sumOf_18 (by decide) rfl ?_
  refine r_aload_n 1 dX12_sumOf_19 rfl ?_
  refine gM_force rfl dX12_sumOf_20 ?_
  refine r_if_ge 41 dX12_sumOf_23 (by decide) (fun c3 => ?_) (fun c3 => ?_)
  · replace h := it_pos c3 h
    refine r_aload_n 1 dX12_sumOf_41 rfl ?_
    refine gM_word rfl dX12_sumOf_42 ?_
    refine r_iconst (x := (0 : Int32)) dX12_sumOf_45 (by decide) ?_
    refine r_iload_n 2 dX12_sumOf_46 rfl ?_
    refine r_i2l dX12_sumOf_47 ?_
    obtain ⟨h4, h⟩ := rq_some h
    obtain ⟨u4, e4, h⟩ := lt_some h
    refine sM_word e4 (inb_in h4) dX12_sumOf_48 ?_
    refine r_aload_n 1 dX12_sumOf_49 rfl ?_
    refine gM_word rfl dX12_sumOf_50 ?_
    refine r_iconst (x := (1 : Int32)) dX12_sumOf_53 (by decide) ?_
    refine r_iload_n 3 dX12_sumOf_54 rfl ?_
    refine r_i2l dX12_sumOf_55 ?_
    obtain ⟨h5, h⟩ := rq_some h
    obtain ⟨u5, e5, h⟩ := lt_some h
    refine sM_word e5 (inb_in h5) dX12_sumOf_56 ?_
    refine r_aload_n 1 dX12_sumOf_57 rfl ?_
    refine gM_word rfl dX12_sumOf_58 ?_
    refine r_iconst (x := (2 : Int32)) dX12_sumOf_61 (by decide) ?_
    refine r_aload_n 1 dX12_sumOf_62 rfl ?_
    refine gM_said rfl dX12_sumOf_63 ?_
    refine r_bipush (x := (47 : Int32)) dX12_sumOf_66 (by decide) ?_
    refine r_iload_n 2 dX12_sumOf_68 rfl ?_
    refine r_iadd dX12_sumOf_69 ?_
    obtain ⟨h6, h⟩ := rq_some h
    refine lM_said (inb_in h6) dX12_sumOf_70 ?_
    refine r_i2l dX12_sumOf_71 ?_
    obtain ⟨h7, h⟩ := rq_some h
    obtain ⟨u7, e7, h⟩ := lt_some h
    refine sM_word e7 (inb_in h7) dX12_sumOf_72 ?_
    refine r_aload_n 1 dX12_sumOf_73 rfl ?_
    refine gM_word rfl dX12_sumOf_74 ?_
    refine r_iconst (x := (3 : Int32)) dX12_sumOf_77 (by decide) ?_
    refine r_aload_n 1 dX12_sumOf_78 rfl ?_
    refine r_iload_n 3 dX12_sumOf_79 rfl ?_
    obtain ⟨q8, h8, h⟩ := bd_some h
    refine cvM (st := [.int (3 : Int32), .ref (ad 9)]) (cm_priceOf h8) rfl rfl (Nat.le_of_ble_eq_true rfl) km_priceOf (tb_in (i := 24) (j := 7) rfl rfl) (by decide) rfl dX12_sumOf_80 ?_
    refine r_i2l dX12_sumOf_83 ?_
    obtain ⟨h9, h⟩ := rq_some h
    obtain ⟨u9, e9, h⟩ := lt_some h
    refine sM_word e9 (inb_in h9) dX12_sumOf_84 ?_
    refine r_aload_n 1 dX12_sumOf_85 rfl ?_
    refine gM_word rfl dX12_sumOf_86 ?_
    refine r_iconst (x := (4 : Int32)) dX12_sumOf_89 (by decide) ?_
    refine r_aload_n 1 dX12_sumOf_90 rfl ?_
    refine r_iload_n 3 dX12_sumOf_91 rfl ?_
    obtain ⟨q10, h10, h⟩ := bd_some h
    refine cvM (st := [.int (4 : Int32), .ref (ad 9)]) (cm_praiseOf h10) rfl rfl (Nat.le_of_ble_eq_true rfl) km_praiseOf (tb_in (i := 24) (j := 18) rfl rfl) (by decide) rfl dX12_sumOf_92 ?_
    refine r_i2l dX12_sumOf_95 ?_
    obtain ⟨h11, h⟩ := rq_some h
    obtain ⟨u11, e11, h⟩ := lt_some h
    refine sM_word e11 (inb_in h11) dX12_sumOf_96 ?_
    refine r_aload_n 1 dX12_sumOf_97 rfl ?_
    refine gM_word rfl dX12_sumOf_98 ?_
    refine r_iconst (x := (5 : Int32)) dX12_sumOf_101 (by decide) ?_
    refine r_lload_n 0 dX12_sumOf_102 rfl ?_
    obtain ⟨h12, h⟩ := rq_some h
    obtain ⟨u12, e12, h⟩ := lt_some h
    refine sM_word e12 (inb_in h12) dX12_sumOf_103 ?_
    refine r_aload_n 1 dX12_sumOf_104 rfl ?_
    refine gM_word rfl dX12_sumOf_105 ?_
    refine r_bipush (x := (6 : Int32)) dX12_sumOf_108 (by decide) ?_
    refine r_aload_n 1 dX12_sumOf_110 rfl ?_
    refine r_iload_n 3 dX12_sumOf_111 rfl ?_
    obtain ⟨q13, h13, h⟩ := bd_some h
    refine cvM (st := [.int (6 : Int32), .ref (ad 9)]) (cm_goodsOf h13) rfl rfl (Nat.le_of_ble_eq_true rfl) km_goodsOf (tb_in (i := 24) (j := 4) rfl rfl) (by decide) rfl dX12_sumOf_112 ?_
    refine r_i2l dX12_sumOf_115 ?_
    obtain ⟨h14, h⟩ := rq_some h
    obtain ⟨u14, e14, h⟩ := lt_some h
    refine sM_word e14 (inb_in h14) dX12_sumOf_116 ?_
    refine r_aload_n 1 dX12_sumOf_117 rfl ?_
    refine gM_word rfl dX12_sumOf_118 ?_
    refine r_bipush (x := (7 : Int32)) dX12_sumOf_121 (by decide) ?_
    refine r_aload_n 1 dX12_sumOf_123 rfl ?_
    refine gM_said rfl dX12_sumOf_124 ?_
    refine r_bipush (x := (101 : Int32)) dX12_sumOf_127 (by decide) ?_
    refine r_iload_n 3 dX12_sumOf_129 rfl ?_
    refine r_iadd dX12_sumOf_130 ?_
    obtain ⟨h15, h⟩ := rq_some h
    refine lM_said (inb_in h15) dX12_sumOf_131 ?_
    refine r_aload_n 1 dX12_sumOf_132 rfl ?_
    refine r_iload_n 3 dX12_sumOf_133 rfl ?_
    obtain ⟨q16, h16, h⟩ := bd_some h
    refine cvM (st := [.int (z_said ((101 : Int32) + x2).toNatClampNeg), .int (7 : Int32), .ref (ad 9)]) (cm_goodsOf h16) rfl rfl (Nat.le_of_ble_eq_true rfl) km_goodsOf (tb_in (i := 24) (j := 4) rfl rfl) (by decide) rfl dX12_sumOf_134 ?_
    refine r_isub dX12_sumOf_137 ?_
    refine r_i2l dX12_sumOf_138 ?_
    obtain ⟨h17, h⟩ := rq_some h
    obtain ⟨u17, e17, h⟩ := lt_some h
    refine sM_word e17 (inb_in h17) dX12_sumOf_139 ?_
    refine r_aload_n 1 dX12_sumOf_140 rfl ?_
    refine gM_word rfl dX12_sumOf_141 ?_
    refine r_bipush (x := (8 : Int32)) dX12_sumOf_144 (by decide) ?_
    refine r_aload_n 1 dX12_sumOf_146 rfl ?_
    refine gM_said rfl dX12_sumOf_147 ?_
    refine r_bipush (x := (53 : Int32)) dX12_sumOf_150 (by decide) ?_
    refine r_bipush (x := (6 : Int32)) dX12_sumOf_152 (by decide) ?_
    refine r_iload_n 2 dX12_sumOf_154 rfl ?_
    refine r_imul dX12_sumOf_155 ?_
    refine r_iadd dX12_sumOf_156 ?_
    refine r_iload_n 3 dX12_sumOf_157 rfl ?_
    refine r_iadd dX12_sumOf_158 ?_
    obtain ⟨h18, h⟩ := rq_some h
    refine lM_said (inb_in h18) dX12_sumOf_159 ?_
    refine r_i2l dX12_sumOf_160 ?_
    obtain ⟨h19, h⟩ := rq_some h
    obtain ⟨u19, e19, h⟩ := lt_some h
    refine sM_word e19 (inb_in h19) dX12_sumOf_161 ?_
    refine r_aload_n 1 dX12_sumOf_162 rfl ?_
    refine gM_word rfl dX12_sumOf_163 ?_
    refine r_bipush (x := (9 : Int32)) dX12_sumOf_166 (by decide) ?_
    refine r_aload_n 1 dX12_sumOf_168 rfl ?_
    refine r_aload_n 1 dX12_sumOf_169 rfl ?_
    refine r_iload_n 3 dX12_sumOf_170 rfl ?_
    obtain ⟨q20, h20, h⟩ := bd_some h
    refine cvM (st := [.ref (ad 0), .int (9 : Int32), .ref (ad 9)]) (cm_sellerOf h20) rfl rfl (Nat.le_of_ble_eq_true rfl) km_sellerOf (tb_in (i := 23) (j := 29) rfl rfl) (by decide) rfl dX12_sumOf_171 ?_
    refine r_iload_n 3 dX12_sumOf_174 rfl ?_
    obtain ⟨q21, h21, h⟩ := bd_some h
    refine cvM (st := [.int (9 : Int32), .ref (ad 9)]) (cm_bears h21) rfl rfl (Nat.le_of_ble_eq_true rfl) km_bears (tb_in (i := 24) (j := 0) rfl rfl) (by decide) rfl dX12_sumOf_175 ?_
    refine r_if_eq 185 dX12_sumOf_178 (by decide) (fun c22 => ?_) (fun c22 => ?_)
    · replace h := it_pos c22 h
      refine r_lconst (x := (0 : Int64)) dX12_sumOf_185 (by decide) ?_
      refine r_sub (lv' := [(0, .ref (ad 0))]) [1] rfl ?_
      exact cm_sumOf_j186  h
    · replace h := it_neg c22 h
      refine r_lconst (x := (1 : Int64)) dX12_sumOf_181 (by decide) ?_
      refine r_goto 186 dX12_sumOf_182 (by decide) ?_
      refine r_sub (lv' := [(0, .ref (ad 0))]) [1] rfl ?_
      exact cm_sumOf_j186  h
  · replace h := it_neg c3 h
    refine r_lconst (x := (1 : Int64)) dX12_sumOf_26 (by decide) ?_
    refine r_aload_n 1 dX12_sumOf_27 rfl ?_
    refine r_iload_n 3 dX12_sumOf_28 rfl ?_
    obtain ⟨q33, h33, h⟩ := bd_some h
    refine cvM (st := [.long (1 : Int64)]) (cm_praiseOf h33) rfl rfl (Nat.le_of_ble_eq_true rfl) km_praiseOf (tb_in (i := 24) (j := 18) rfl rfl) (by decide) rfl dX12_sumOf_29 ?_
    refine r_i2l dX12_sumOf_32 ?_
    refine r_ladd dX12_sumOf_33 ?_
    refine r_ldc2 (x := (3 : Int64)) (tb_in (i := 25) (j := 3) rfl rfl) dX12_sumOf_34 ?_
    refine r_lload_n 0 dX12_sumOf_37 rfl ?_
    refine r_lmul dX12_sumOf_38 ?_
    refine r_ladd dX12_sumOf_39 ?_
    have hq := Option.some.inj h
    subst hq
    exact r_lret rfl dX12_sumOf_40
def m_sumOf (x1 : Int32) (x2 : Int32) (z_sign : Nat → Int32) (z_clause : Nat → Int32) (z_clauses : Nat → Int32) (z_stack : Nat → Int64) (z_top : Int32) (z_word : Nat → Int64) (z_said : Nat → Int32) (z_force : Int32) : Option (Int64 × (Nat → Int64) × Int32 × (Nat → Int64)) := rq (inb ((95 : Int32) + x1) 156) ((if (z_said ((95 : Int32) + x1).toNatClampNeg) = x2 then m_sumOf_j18 x1 x2 z_sign z_clause z_clauses z_stack z_top z_word z_said z_force (1 : Int64) else m_sumOf_j18 x1 x2 z_sign z_clause z_clauses z_stack z_top z_word z_said z_force (0 : Int64)))
set_option maxRecDepth 20000 in
theorem cm_sumOf {q : Int64 × (Nat → Int64) × Int32 × (Nat → Int64)} {x1 : Int32} {x2 : Int32} (h : m_sumOf x1 x2 z_sign z_clause z_clauses z_stack z_top z_word z_said z_force = some q) : rMet l D Z (ty7 K) Mm_sumOf [.ref (ad 0), .int x1, .int x2] (wM K ad z_tape z_taped z_rules z_sign z_length z_clause z_clauses z_read z_next z_wrong z_number z_text z_made z_deep z_lines z_open z_opened z_stack z_top z_word z_said z_force z_x z_absent z_isRaining z_wasSaid z_undone z_kept z_order z_bestOrder z_hasBy z_wealthThen z_isFit z_tillThen z_drawX z_images z_imageForce z_imageX z_isMade) (wM K ad z_tape z_taped z_rules z_sign z_length z_clause z_clauses z_read z_next z_wrong z_number z_text z_made z_deep z_lines z_open z_opened q.2.1 q.2.2.1 q.2.2.2 z_said z_force z_x z_absent z_isRaining z_wasSaid z_undone z_kept z_order z_bestOrder z_hasBy z_wealthThen z_isFit z_tillThen z_drawX z_images z_imageForce z_imageX z_isMade) (some (.long q.1)) := by
  refine rMet.of (by decide) rfl (Nat.le_of_ble_eq_true rfl) ?_
  refine r_sub (lv' := [(0, .ref (ad 0)), (1, .int x1), (2, .int x2)]) [0, 1, 2] rfl ?_
  unfold m_sumOf at h
  refine r_aload_n 0 dX12_sumOf_0 rfl ?_
  refine gM_said rfl dX12_sumOf_1 ?_
  refine r_bipush (x := (95 : Int32)) dX12_sumOf_4 (by decide) ?_
  refine r_iload_n 1 dX12_sumOf_6 rfl ?_
  refine r_iadd dX12_sumOf_7 ?_
  obtain ⟨h1, h⟩ := rq_some h
  refine lM_said (inb_in h1) dX12_sumOf_8 ?_
  refine r_iload_n 2 dX12_sumOf_9 rfl ?_
  refine r_icmp_ne 17 dX12_sumOf_10 (by decide) (fun c2 => ?_) (fun c2 => ?_)
  · replace h := it_neg c2 h
    refine r_lconst (x := (0 : Int64)) dX12_sumOf_17 (by decide) ?_
    exact cm_sumOf_j18  h
  · replace h := it_pos c2 h
    refine r_lconst (x := (1 : Int64)) dX12_sumOf_13 (by decide) ?_
    refine r_goto 18 dX12_sumOf_14 (by decide) ?_
    exact cm_sumOf_j18  h
end PM2
