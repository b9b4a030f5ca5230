section PM6
variable {l : Launch} {D : va_G} {Z : (Nat → Nat) × (Nat → Nat)} {K : Nat → ClassId} {ad : Nat → Nat} {tys : List (ClassId × FieldType)} {ws : va_W}
variable {z_tape : Nat → Int32} {z_taped : Int32} {z_rules : Int32} {z_sign : Nat → Int32} {z_length : Nat → Int32} {z_clause : Nat → Int32} {z_clauses : Nat → Int32} {z_read : Nat → Int32} {z_next : Int32} {z_wrong : Int32} {z_number : Int32} {z_text : Int32} {z_made : Int32} {z_deep : Int32} {z_lines : Int32} {z_open : Nat → Int32} {z_opened : Int32} {z_stack : Nat → Int64} {z_top : Int32} {z_word : Nat → Int64} {z_said : Nat → Int32} {z_force : Int32} {z_x : Int32} {z_absent : Int32} {z_isRaining : Int32} {z_wasSaid : Nat → Int32} {z_undone : Int32} {z_kept : Nat → Int32} {z_order : Nat → Int32} {z_bestOrder : Nat → Int32} {z_hasBy : Nat → Int32} {z_wealthThen : Nat → Int32} {z_isFit : Nat → Int32} {z_tillThen : Nat → Int32} {z_drawX : Int64} {z_images : Nat → Int32} {z_imageForce : Nat → Int32} {z_imageX : Nat → Int32} {z_isMade : Nat → Int32}
theorem dX12_count_0 : decode cX12_count 0 = .ok (.iload_n 1, 1) := by decide +kernel
theorem dX12_count_1 : decode cX12_count 1 = .ok (.tableswitch 140 0 13 #[71, 71, 71, 71, 80, 85, 90, 98, 104, 110, 116, 125, 130, 135], 71) := by decide +kernel
theorem dX12_count_72 : decode cX12_count 72 = .ok (.aload_n 0, 1) := by decide +kernel
theorem dX12_count_73 : decode cX12_count 73 = .ok (.getfield 39, 3) := by decide +kernel
theorem dX12_count_76 : decode cX12_count 76 = .ok (.iload_n 1, 1) := by decide +kernel
theorem dX12_count_77 : decode cX12_count 77 = .ok (.iconst 1, 1) := by decide +kernel
theorem dX12_count_78 : decode cX12_count 78 = .ok (.iadd, 1) := by decide +kernel
theorem dX12_count_79 : decode cX12_count 79 = .ok (.iaload, 1) := by decide +kernel
theorem dX12_count_80 : decode cX12_count 80 = .ok (.ireturn, 1) := by decide +kernel
theorem dX12_count_81 : decode cX12_count 81 = .ok (.aload_n 0, 1) := by decide +kernel
theorem dX12_count_82 : decode cX12_count 82 = .ok (.getfield 259, 3) := by decide +kernel
theorem dX12_count_85 : decode cX12_count 85 = .ok (.ireturn, 1) := by decide +kernel
theorem dX12_count_86 : decode cX12_count 86 = .ok (.aload_n 0, 1) := by decide +kernel
theorem dX12_count_87 : decode cX12_count 87 = .ok (.getfield 42, 3) := by decide +kernel
theorem dX12_count_90 : decode cX12_count 90 = .ok (.ireturn, 1) := by decide +kernel
theorem dX12_count_91 : decode cX12_count 91 = .ok (.aload_n 0, 1) := by decide +kernel
theorem dX12_count_92 : decode cX12_count 92 = .ok (.getfield 39, 3) := by decide +kernel
theorem dX12_count_95 : decode cX12_count 95 = .ok (.bipush 10, 2) := by decide +kernel
theorem dX12_count_97 : decode cX12_count 97 = .ok (.iaload, 1) := by decide +kernel
theorem dX12_count_98 : decode cX12_count 98 = .ok (.ireturn, 1) := by decide +kernel
theorem dX12_count_99 : decode cX12_count 99 = .ok (.aload_n 0, 1) := by decide +kernel
theorem dX12_count_100 : decode cX12_count 100 = .ok (.iconst 0, 1) := by decide +kernel
theorem dX12_count_101 : decode cX12_count 101 = .ok (.invokevirtual 428, 3) := by decide +kernel
theorem dX12_count_104 : decode cX12_count 104 = .ok (.ireturn, 1) := by decide +kernel
theorem dX12_count_105 : decode cX12_count 105 = .ok (.aload_n 0, 1) := by decide +kernel
theorem dX12_count_106 : decode cX12_count 106 = .ok (.iconst 3, 1) := by decide +kernel
theorem dX12_count_107 : decode cX12_count 107 = .ok (.invokevirtual 428, 3) := by decide +kernel
theorem dX12_count_110 : decode cX12_count 110 = .ok (.ireturn, 1) := by decide +kernel
theorem dX12_count_111 : decode cX12_count 111 = .ok (.aload_n 0, 1) := by decide +kernel
theorem dX12_count_112 : decode cX12_count 112 = .ok (.iconst 2, 1) := by decide +kernel
theorem dX12_count_113 : decode cX12_count 113 = .ok (.invokevirtual 428, 3) := by decide +kernel
theorem dX12_count_116 : decode cX12_count 116 = .ok (.ireturn, 1) := by decide +kernel
theorem dX12_count_117 : decode cX12_count 117 = .ok (.aload_n 0, 1) := by decide +kernel
theorem dX12_count_118 : decode cX12_count 118 = .ok (.getfield 39, 3) := by decide +kernel
theorem dX12_count_121 : decode cX12_count 121 = .ok (.sipush 155, 3) := by decide +kernel
theorem dX12_count_124 : decode cX12_count 124 = .ok (.iaload, 1) := by decide +kernel
theorem dX12_count_125 : decode cX12_count 125 = .ok (.ireturn, 1) := by decide +kernel
theorem dX12_count_126 : decode cX12_count 126 = .ok (.aload_n 0, 1) := by decide +kernel
theorem dX12_count_127 : decode cX12_count 127 = .ok (.getfield 268, 3) := by decide +kernel
theorem dX12_count_130 : decode cX12_count 130 = .ok (.ireturn, 1) := by decide +kernel
theorem dX12_count_131 : decode cX12_count 131 = .ok (.aload_n 0, 1) := by decide +kernel
theorem dX12_count_132 : decode cX12_count 132 = .ok (.getfield 443, 3) := by decide +kernel
theorem dX12_count_135 : decode cX12_count 135 = .ok (.ireturn, 1) := by decide +kernel
theorem dX12_count_136 : decode cX12_count 136 = .ok (.aload_n 0, 1) := by decide +kernel
theorem dX12_count_137 : decode cX12_count 137 = .ok (.getfield 86, 3) := by decide +kernel
theorem dX12_count_140 : decode cX12_count 140 = .ok (.ireturn, 1) := by decide +kernel
theorem dX12_count_141 : decode cX12_count 141 = .ok (.iconst (-1), 1) := by decide +kernel
theorem dX12_count_142 : decode cX12_count 142 = .ok (.ireturn, 1) := by decide +kernel
abbrev Mm_count : rx_M := (RX12, yX12_count, cX12_count, 2, (some .int), 2)
theorem km_count : rKv Mm_count 1 := ⟨tb_in (i := 36) (j := 20) rfl rfl, tb_in (i := 36) (j := 21) rfl rfl, tb_in (i := 17) (j := 21) rfl rfl, tb_in (i := 30) (j := 3) rfl rfl, ⟨by decide, by decide, by decide +kernel⟩, by decide⟩
def m_count (x1 : Int32) (z_taped : Int32) (z_rules : Int32) (z_said : Nat → Int32) (z_force : Int32) (z_x : Int32) (z_undone : Int32) : Option (Int32) := (if x1 = (0 : Int32) then rq (inb (x1 + (1 : Int32)) 156) (some ((z_said (x1 + (1 : Int32)).toNatClampNeg))) else if x1 = (1 : Int32) then rq (inb (x1 + (1 : Int32)) 156) (some ((z_said (x1 + (1 : Int32)).toNatClampNeg))) else if x1 = (2 : Int32) then rq (inb (x1 + (1 : Int32)) 156) (some ((z_said (x1 + (1 : Int32)).toNatClampNeg))) else if x1 = (3 : Int32) then rq (inb (x1 + (1 : Int32)) 156) (some ((z_said (x1 + (1 : Int32)).toNatClampNeg))) else if x1 = (4 : Int32) then some (z_rules) else if x1 = (5 : Int32) then some (z_force) else if x1 = (6 : Int32) then rq (inb (10 : Int32) 156) (some ((z_said (10 : Int32).toNatClampNeg))) else if x1 = (7 : Int32) then (m_sumOfAll (0 : Int32) z_said).bind (fun q14 => some (q14)) else if x1 = (8 : Int32) then (m_sumOfAll (3 : Int32) z_said).bind (fun q16 => some (q16)) else if x1 = (9 : Int32) then (m_sumOfAll (2 : Int32) z_said).bind (fun q18 => some (q18)) else if x1 = (10 : Int32) then rq (inb (155 : Int32) 156) (some ((z_said (155 : Int32).toNatClampNeg))) else if x1 = (11 : Int32) then some (z_undone) else if x1 = (12 : Int32) then some (z_x) else if x1 = (13 : Int32) then some (z_taped) else some ((-1 : Int32)))
set_option maxRecDepth 20000 in
theorem cm_count {q : Int32} {x1 : Int32} (h : m_count x1 z_taped z_rules z_said z_force z_x z_undone = some q) : rMet l D Z (ty7 K) Mm_count [.ref (ad 0), .int x1] (wM K ad z_tape z_taped z_rules z_sign z_length z_clause z_clauses z_read z_next z_wrong z_number z_text z_made z_deep z_lines z_open z_opened z_stack z_top z_word z_said z_force z_x z_absent z_isRaining z_wasSaid z_undone z_kept z_order z_bestOrder z_hasBy z_wealthThen z_isFit z_tillThen z_drawX z_images z_imageForce z_imageX z_isMade) (wM K ad z_tape z_taped z_rules z_sign z_length z_clause z_clauses z_read z_next z_wrong z_number z_text z_made z_deep z_lines z_open z_opened z_stack z_top z_word z_said z_force z_x z_absent z_isRaining z_wasSaid z_undone z_kept z_order z_bestOrder z_hasBy z_wealthThen z_isFit z_tillThen z_drawX z_images z_imageForce z_imageX z_isMade) (some (.int q)) := by
  refine rMet.of (by decide) rfl (Nat.le_of_ble_eq_true rfl) ?_
  refine r_sub (lv' := [(0, .ref (ad 0)), (1, .int x1)]) [0, 1] rfl ?_
  unfold m_count at h
  refine r_iload_n 1 dX12_count_0 rfl ?_
  by_cases c1 : x1 = (0 : Int32)
  · replace h := it_pos c1 h
    refine r_tableIn 72 dX12_count_1 (by rw [c1]; decide) (by rw [c1]; decide) (by rw [c1]; rfl) (by decide) ?_
    refine r_aload_n 0 dX12_count_72 rfl ?_
    refine gM_said rfl dX12_count_73 ?_
    refine r_iload_n 1 dX12_count_76 rfl ?_
    refine r_iconst (x := (1 : Int32)) dX12_count_77 (by decide) ?_
    refine r_iadd dX12_count_78 ?_
    obtain ⟨h2, h⟩ := rq_some h
    refine lM_said (inb_in h2) dX12_count_79 ?_
    have hq := Option.some.inj h
    subst hq
    exact r_iret rfl dX12_count_80
  replace h := it_neg c1 h
  by_cases c3 : x1 = (1 : Int32)
  · replace h := it_pos c3 h
    refine r_tableIn 72 dX12_count_1 (by rw [c3]; decide) (by rw [c3]; decide) (by rw [c3]; rfl) (by decide) ?_
    refine r_aload_n 0 dX12_count_72 rfl ?_
    refine gM_said rfl dX12_count_73 ?_
    refine r_iload_n 1 dX12_count_76 rfl ?_
    refine r_iconst (x := (1 : Int32)) dX12_count_77 (by decide) ?_
    refine r_iadd dX12_count_78 ?_
    obtain ⟨h4, h⟩ := rq_some h
    refine lM_said (inb_in h4) dX12_count_79 ?_
    have hq := Option.some.inj h
    subst hq
    exact r_iret rfl dX12_count_80
  replace h := it_neg c3 h
  by_cases c5 : x1 = (2 : Int32)
  · replace h := it_pos c5 h
    refine r_tableIn 72 dX12_count_1 (by rw [c5]; decide) (by rw [c5]; decide) (by rw [c5]; rfl) (by decide) ?_
    refine r_aload_n 0 dX12_count_72 rfl ?_
    refine gM_said rfl dX12_count_73 ?_
    refine r_iload_n 1 dX12_count_76 rfl ?_
    refine r_iconst (x := (1 : Int32)) dX12_count_77 (by decide) ?_
    refine r_iadd dX12_count_78 ?_
    obtain ⟨h6, h⟩ := rq_some h
    refine lM_said (inb_in h6) dX12_count_79 ?_
    have hq := Option.some.inj h
    subst hq
    exact r_iret rfl dX12_count_80
  replace h := it_neg c5 h
  by_cases c7 : x1 = (3 : Int32)
  · replace h := it_pos c7 h
    refine r_tableIn 72 dX12_count_1 (by rw [c7]; decide) (by rw [c7]; decide) (by rw [c7]; rfl) (by decide) ?_
    refine r_aload_n 0 dX12_count_72 rfl ?_
    refine gM_said rfl dX12_count_73 ?_
    refine r_iload_n 1 dX12_count_76 rfl ?_
    refine r_iconst (x := (1 : Int32)) dX12_count_77 (by decide) ?_
    refine r_iadd dX12_count_78 ?_
    obtain ⟨h8, h⟩ := rq_some h
    refine lM_said (inb_in h8) dX12_count_79 ?_
    have hq := Option.some.inj h
    subst hq
    exact r_iret rfl dX12_count_80
  replace h := it_neg c7 h
  by_cases c9 : x1 = (4 : Int32)
  · replace h := it_pos c9 h
    refine r_tableIn 81 dX12_count_1 (by rw [c9]; decide) (by rw [c9]; decide) (by rw [c9]; rfl) (by decide) ?_
    refine r_aload_n 0 dX12_count_81 rfl ?_
    refine gM_rules rfl dX12_count_82 ?_
    have hq := Option.some.inj h
    subst hq
    exact r_iret rfl dX12_count_85
  replace h := it_neg c9 h
  by_cases c10 : x1 = (5 : Int32)
  · replace h := it_pos c10 h
    refine r_tableIn 86 dX12_count_1 (by rw [c10]; decide) (by rw [c10]; decide) (by rw [c10]; rfl) (by decide) ?_
    refine r_aload_n 0 dX12_count_86 rfl ?_
    refine gM_force rfl dX12_count_87 ?_
    have hq := Option.some.inj h
    subst hq
    exact r_iret rfl dX12_count_90
  replace h := it_neg c10 h
  by_cases c11 : x1 = (6 : Int32)
  · replace h := it_pos c11 h
    refine r_tableIn 91 dX12_count_1 (by rw [c11]; decide) (by rw [c11]; decide) (by rw [c11]; rfl) (by decide) ?_
    refine r_aload_n 0 dX12_count_91 rfl ?_
    refine gM_said rfl dX12_count_92 ?_
    refine r_bipush (x := (10 : Int32)) dX12_count_95 (by decide) ?_
    obtain ⟨h12, h⟩ := rq_some h
    refine lM_said (inb_in h12) dX12_count_97 ?_
    have hq := Option.some.inj h
    subst hq
    exact r_iret rfl dX12_count_98
  replace h := it_neg c11 h
  by_cases c13 : x1 = (7 : Int32)
  · replace h := it_pos c13 h
    refine r_tableIn 99 dX12_count_1 (by rw [c13]; decide) (by rw [c13]; decide) (by rw [c13]; rfl) (by decide) ?_
    refine r_aload_n 0 dX12_count_99 rfl ?_
    refine r_iconst (x := (0 : Int32)) dX12_count_100 (by decide) ?_
    obtain ⟨q14, h14, h⟩ := bd_some h
    refine cvM (st := []) (cm_sumOfAll h14) rfl rfl (Nat.le_of_ble_eq_true rfl) km_sumOfAll (tb_in (i := 28) (j := 31) rfl rfl) (by decide) rfl dX12_count_101 ?_
    have hq := Option.some.inj h
    subst hq
    exact r_iret rfl dX12_count_104
  replace h := it_neg c13 h
  by_cases c15 : x1 = (8 : Int32)
  · replace h := it_pos c15 h
    refine r_tableIn 105 dX12_count_1 (by rw [c15]; decide) (by rw [c15]; decide) (by rw [c15]; rfl) (by decide) ?_
    refine r_aload_n 0 dX12_count_105 rfl ?_
    refine r_iconst (x := (3 : Int32)) dX12_count_106 (by decide) ?_
    obtain ⟨q16, h16, h⟩ := bd_some h
    refine cvM (st := []) (cm_sumOfAll h16) rfl rfl (Nat.le_of_ble_eq_true rfl) km_sumOfAll (tb_in (i := 28) (j := 31) rfl rfl) (by decide) rfl dX12_count_107 ?_
    have hq := Option.some.inj h
    subst hq
    exact r_iret rfl dX12_count_110
  replace h := it_neg c15 h
  by_cases c17 : x1 = (9 : Int32)
  · replace h := it_pos c17 h
    refine r_tableIn 111 dX12_count_1 (by rw [c17]; decide) (by rw [c17]; decide) (by rw [c17]; rfl) (by decide) ?_
    refine r_aload_n 0 dX12_count_111 rfl ?_
    refine r_iconst (x := (2 : Int32)) dX12_count_112 (by decide) ?_
    obtain ⟨q18, h18, h⟩ := bd_some h
    refine cvM (st := []) (cm_sumOfAll h18) rfl rfl (Nat.le_of_ble_eq_true rfl) km_sumOfAll (tb_in (i := 28) (j := 31) rfl rfl) (by decide) rfl dX12_count_113 ?_
    have hq := Option.some.inj h
    subst hq
    exact r_iret rfl dX12_count_116
  replace h := it_neg c17 h
  by_cases c19 : x1 = (10 : Int32)
  · replace h := it_pos c19 h
    refine r_tableIn 117 dX12_count_1 (by rw [c19]; decide) (by rw [c19]; decide) (by rw [c19]; rfl) (by decide) ?_
    refine r_aload_n 0 dX12_count_117 rfl ?_
    refine gM_said rfl dX12_count_118 ?_
    refine r_sipush (x := (155 : Int32)) dX12_count_121 (by decide) ?_
    obtain ⟨h20, h⟩ := rq_some h
    refine lM_said (inb_in h20) dX12_count_124 ?_
    have hq := Option.some.inj h
    subst hq
    exact r_iret rfl dX12_count_125
  replace h := it_neg c19 h
  by_cases c21 : x1 = (11 : Int32)
  · replace h := it_pos c21 h
    refine r_tableIn 126 dX12_count_1 (by rw [c21]; decide) (by rw [c21]; decide) (by rw [c21]; rfl) (by decide) ?_
    refine r_aload_n 0 dX12_count_126 rfl ?_
    refine gM_undone rfl dX12_count_127 ?_
    have hq := Option.some.inj h
    subst hq
    exact r_iret rfl dX12_count_130
  replace h := it_neg c21 h
  by_cases c22 : x1 = (12 : Int32)
  · replace h := it_pos c22 h
    refine r_tableIn 131 dX12_count_1 (by rw [c22]; decide) (by rw [c22]; decide) (by rw [c22]; rfl) (by decide) ?_
    refine r_aload_n 0 dX12_count_131 rfl ?_
    refine gM_x rfl dX12_count_132 ?_
    have hq := Option.some.inj h
    subst hq
    exact r_iret rfl dX12_count_135
  replace h := it_neg c22 h
  by_cases c23 : x1 = (13 : Int32)
  · replace h := it_pos c23 h
    refine r_tableIn 136 dX12_count_1 (by rw [c23]; decide) (by rw [c23]; decide) (by rw [c23]; rfl) (by decide) ?_
    refine r_aload_n 0 dX12_count_136 rfl ?_
    refine gM_taped rfl dX12_count_137 ?_
    have hq := Option.some.inj h
    subst hq
    exact r_iret rfl dX12_count_140
  replace h := it_neg c23 h
  refine r_tableOut 141 dX12_count_1 (tbl_out (by decide) (by decide) (fun k h1 h2 => by
    rcases (show k = 0 ∨ k = 1 ∨ k = 2 ∨ k = 3 ∨ k = 4 ∨ k = 5 ∨ k = 6 ∨ k = 7 ∨ k = 8 ∨ k = 9 ∨ k = 10 ∨ k = 11 ∨ k = 12 ∨ k = 13 by omega) with rfl | rfl | rfl | rfl | rfl | rfl | rfl | rfl | rfl | rfl | rfl | rfl | rfl | rfl
    · exact c1
    · exact c3
    · exact c5
    · exact c7
    · exact c9
    · exact c10
    · exact c11
    · exact c13
    · exact c15
    · exact c17
    · exact c19
    · exact c21
    · exact c22
    · exact c23
    )) (by decide) ?_
  refine r_iconst (x := (-1 : Int32)) dX12_count_141 (by decide) ?_
  have hq := Option.some.inj h
  subst hq
  exact r_iret rfl dX12_count_142
theorem dX12_image_0 : decode cX12_image 0 = .ok (.iload_n 1, 1) := by decide +kernel
theorem dX12_image_1 : decode cX12_image 1 = .ok (.i2l, 1) := by decide +kernel
theorem dX12_image_2 : decode cX12_image 2 = .ok (.lconst 0, 1) := by decide +kernel
theorem dX12_image_3 : decode cX12_image 3 = .ok (.ldc2_w 329, 3) := by decide +kernel
theorem dX12_image_6 : decode cX12_image 6 = .ok (.invokestatic 124, 3) := by decide +kernel
theorem dX12_image_9 : decode cX12_image 9 = .ok (.ifCond .ne 5, 3) := by decide +kernel
theorem dX12_image_12 : decode cX12_image 12 = .ok (.iconst (-1), 1) := by decide +kernel
theorem dX12_image_13 : decode cX12_image 13 = .ok (.ireturn, 1) := by decide +kernel
theorem dX12_image_14 : decode cX12_image 14 = .ok (.aload_n 0, 1) := by decide +kernel
theorem dX12_image_15 : decode cX12_image 15 = .ok (.getfield 83, 3) := by decide +kernel
theorem dX12_image_18 : decode cX12_image 18 = .ok (.iload_n 1, 1) := by decide +kernel
theorem dX12_image_19 : decode cX12_image 19 = .ok (.iconst 1, 1) := by decide +kernel
theorem dX12_image_20 : decode cX12_image 20 = .ok (.bastore, 1) := by decide +kernel
theorem dX12_image_21 : decode cX12_image 21 = .ok (.aload_n 0, 1) := by decide +kernel
theorem dX12_image_22 : decode cX12_image 22 = .ok (.getfield 77, 3) := by decide +kernel
theorem dX12_image_25 : decode cX12_image 25 = .ok (.iload_n 1, 1) := by decide +kernel
theorem dX12_image_26 : decode cX12_image 26 = .ok (.aload_n 0, 1) := by decide +kernel
theorem dX12_image_27 : decode cX12_image 27 = .ok (.getfield 42, 3) := by decide +kernel
theorem dX12_image_30 : decode cX12_image 30 = .ok (.iastore, 1) := by decide +kernel
theorem dX12_image_31 : decode cX12_image 31 = .ok (.aload_n 0, 1) := by decide +kernel
theorem dX12_image_32 : decode cX12_image 32 = .ok (.getfield 80, 3) := by decide +kernel
theorem dX12_image_35 : decode cX12_image 35 = .ok (.iload_n 1, 1) := by decide +kernel
theorem dX12_image_36 : decode cX12_image 36 = .ok (.aload_n 0, 1) := by decide +kernel
theorem dX12_image_37 : decode cX12_image 37 = .ok (.getfield 443, 3) := by decide +kernel
theorem dX12_image_40 : decode cX12_image 40 = .ok (.iastore, 1) := by decide +kernel
theorem dX12_image_41 : decode cX12_image 41 = .ok (.iconst 0, 1) := by decide +kernel
theorem dX12_image_42 : decode cX12_image 42 = .ok (.istore_n 2, 1) := by decide +kernel
theorem dX12_image_43 : decode cX12_image 43 = .ok (.iload_n 2, 1) := by decide +kernel
theorem dX12_image_44 : decode cX12_image 44 = .ok (.sipush 156, 3) := by decide +kernel
theorem dX12_image_47 : decode cX12_image 47 = .ok (.if_icmp .ge 27, 3) := by decide +kernel
theorem dX12_image_50 : decode cX12_image 50 = .ok (.aload_n 0, 1) := by decide +kernel
theorem dX12_image_51 : decode cX12_image 51 = .ok (.getfield 74, 3) := by decide +kernel
theorem dX12_image_54 : decode cX12_image 54 = .ok (.sipush 156, 3) := by decide +kernel
theorem dX12_image_57 : decode cX12_image 57 = .ok (.iload_n 1, 1) := by decide +kernel
theorem dX12_image_58 : decode cX12_image 58 = .ok (.imul, 1) := by decide +kernel
theorem dX12_image_59 : decode cX12_image 59 = .ok (.iload_n 2, 1) := by decide +kernel
theorem dX12_image_60 : decode cX12_image 60 = .ok (.iadd, 1) := by decide +kernel
theorem dX12_image_61 : decode cX12_image 61 = .ok (.aload_n 0, 1) := by decide +kernel
theorem dX12_image_62 : decode cX12_image 62 = .ok (.getfield 39, 3) := by decide +kernel
theorem dX12_image_65 : decode cX12_image 65 = .ok (.iload_n 2, 1) := by decide +kernel
theorem dX12_image_66 : decode cX12_image 66 = .ok (.iaload, 1) := by decide +kernel
theorem dX12_image_67 : decode cX12_image 67 = .ok (.iastore, 1) := by decide +kernel
theorem dX12_image_68 : decode cX12_image 68 = .ok (.iinc 2 1, 3) := by decide +kernel
theorem dX12_image_71 : decode cX12_image 71 = .ok (.goto (-28), 3) := by decide +kernel
theorem dX12_image_74 : decode cX12_image 74 = .ok (.aload_n 0, 1) := by decide +kernel
theorem dX12_image_75 : decode cX12_image 75 = .ok (.getfield 39, 3) := by decide +kernel
theorem dX12_image_78 : decode cX12_image 78 = .ok (.bipush 10, 2) := by decide +kernel
theorem dX12_image_80 : decode cX12_image 80 = .ok (.iaload, 1) := by decide +kernel
theorem dX12_image_81 : decode cX12_image 81 = .ok (.ireturn, 1) := by decide +kernel
abbrev Mm_image : rx_M := (RX12, yX12_image, cX12_image, 3, (some .int), 2)
theorem km_image : rKv Mm_image 1 := ⟨tb_in (i := 36) (j := 26) rfl rfl, tb_in (i := 36) (j := 27) rfl rfl, tb_in (i := 17) (j := 21) rfl rfl, tb_in (i := 30) (j := 4) rfl rfl, ⟨by decide, by decide, by decide +kernel⟩, by decide⟩
def m_image_l43 (z_said : Nat → Int32) (z_force : Int32) (z_x : Int32) (z_imageForce : Nat → Int32) (z_imageX : Nat → Int32) (z_isMade : Nat → Int32) (x1 : Int32) : Nat → Int32 → (Nat → Int32) → Option (Int32 × (Nat → Int32) × (Nat → Int32) × (Nat → Int32) × (Nat → Int32))
  | 0, _, _ => none
  | n + 1, x2, z_images => (if (156 : Int32) ≤ x2 then rq (inb (10 : Int32) 156) (some ((z_said (10 : Int32).toNatClampNeg), z_images, z_imageForce, z_imageX, z_isMade)) else rq (inb x2 156) (rq (inb (((156 : Int32) * x1) + x2) 624) (lt (upd z_images (((156 : Int32) * x1) + x2).toNatClampNeg (z_said x2.toNatClampNeg)) (fun u9 => m_image_l43 z_said z_force z_x z_imageForce z_imageX z_isMade x1 n (x2 + (1 : Int32)) u9))))
set_option maxRecDepth 20000 in
theorem cm_image_l43 {q : Int32 × (Nat → Int32) × (Nat → Int32) × (Nat → Int32) × (Nat → Int32)} {x1 : Int32}  : ∀ (n : Nat) (x2 : Int32) (z_images : Nat → Int32), m_image_l43 z_said z_force z_x z_imageForce z_imageX z_isMade x1 n x2 z_images = some q → rW l D Z (ty7 K) Mm_image 43 [(0, .ref (ad 0)), (1, .int x1), (2, .int x2)] [] (wM K ad z_tape z_taped z_rules z_sign z_length z_clause z_clauses z_read z_next z_wrong z_number z_text z_made z_deep z_lines z_open z_opened z_stack z_top z_word z_said z_force z_x z_absent z_isRaining z_wasSaid z_undone z_kept z_order z_bestOrder z_hasBy z_wealthThen z_isFit z_tillThen z_drawX z_images z_imageForce z_imageX z_isMade) (wM K ad z_tape z_taped z_rules z_sign z_length z_clause z_clauses z_read z_next z_wrong z_number z_text z_made z_deep z_lines z_open z_opened z_stack z_top z_word z_said z_force z_x z_absent z_isRaining z_wasSaid z_undone z_kept z_order z_bestOrder z_hasBy z_wealthThen z_isFit z_tillThen z_drawX q.2.1 q.2.2.1 q.2.2.2.1 q.2.2.2.2) (some (.int q.1)) := by
  intro n
  induction n with
  | zero => intro x2 z_images h; unfold m_image_l43 at h; cases h
  | succ n ih =>
    intro x2 z_images h
    unfold m_image_l43 at h
    refine r_iload_n 2 dX12_image_43 rfl ?_
    refine r_sipush (x := (156 : Int32)) dX12_image_44 (by decide) ?_
    refine r_icmp_ge 74 dX12_image_47 (by decide) (fun c6 => ?_) (fun c6 => ?_)
    · replace h := it_pos c6 h
      refine r_aload_n 0 dX12_image_74 rfl ?_
      refine gM_said rfl dX12_image_75 ?_
      refine r_bipush (x := (10 : Int32)) dX12_image_78 (by decide) ?_
      obtain ⟨h7, h⟩ := rq_some h
      refine lM_said (inb_in h7) dX12_image_80 ?_
      have hq := Option.some.inj h
      subst hq
      exact r_iret rfl dX12_image_81
    · replace h := it_neg c6 h
      refine r_aload_n 0 dX12_image_50 rfl ?_
      refine gM_images rfl dX12_image_51 ?_
      refine r_sipush (x := (156 : Int32)) dX12_image_54 (by decide) ?_
      refine r_iload_n 1 dX12_image_57 rfl ?_
      refine r_imul dX12_image_58 ?_
      refine r_iload_n 2 dX12_image_59 rfl ?_
      refine r_iadd dX12_image_60 ?_
      refine r_aload_n 0 dX12_image_61 rfl ?_
      refine gM_said rfl dX12_image_62 ?_
      refine r_iload_n 2 dX12_image_65 rfl ?_
      obtain ⟨h8, h⟩ := rq_some h
      refine lM_said (inb_in h8) dX12_image_66 ?_
      obtain ⟨h9, h⟩ := rq_some h
      obtain ⟨u9, e9, h⟩ := lt_some h
      refine sM_images e9 (inb_in h9) dX12_image_67 ?_
      refine r_iinc (y := (x2 + (1 : Int32))) (lv' := [(2, .int (x2 + (1 : Int32))), (0, .ref (ad 0)), (1, .int x1)]) 2 dX12_image_68 rfl rfl (by decide) rfl ?_
      refine r_goto 43 dX12_image_71 (by decide) ?_
      refine r_sub (lv' := [(0, .ref (ad 0)), (1, .int x1), (2, .int (x2 + (1 : Int32)))]) [1, 2, 0] rfl ?_
      exact ih _ _ h
def m_image (x1 : Int32) (z_said : Nat → Int32) (z_force : Int32) (z_x : Int32) (z_images : Nat → Int32) (z_imageForce : Nat → Int32) (z_imageX : Nat → Int32) (z_isMade : Nat → Int32) : Option (Int32 × (Nat → Int32) × (Nat → Int32) × (Nat → Int32) × (Nat → Int32)) := (m_in (x1.toInt64) (0 : Int64) (3 : Int64)).bind (fun q1 => (if q1 = 0 then some ((-1 : Int32), z_images, z_imageForce, z_imageX, z_isMade) else rq (inb x1 4) (lt (upd z_isMade x1.toNatClampNeg (vp_nar .boolean (1 : Int32))) (fun u3 => rq (inb x1 4) (lt (upd z_imageForce x1.toNatClampNeg z_force) (fun u4 => rq (inb x1 4) (lt (upd z_imageX x1.toNatClampNeg z_x) (fun u5 => m_image_l43 z_said z_force z_x u4 u5 u3 x1 FU (0 : Int32) z_images))))))))
set_option maxRecDepth 20000 in
theorem cm_image {q : Int32 × (Nat → Int32) × (Nat → Int32) × (Nat → Int32) × (Nat → Int32)} {x1 : Int32} (h : m_image x1 z_said z_force z_x z_images z_imageForce z_imageX z_isMade = some q) : rMet l D Z (ty7 K) Mm_image [.ref (ad 0), .int x1] (wM K ad z_tape z_taped z_rules z_sign z_length z_clause z_clauses z_read z_next z_wrong z_number z_text z_made z_deep z_lines z_open z_opened z_stack z_top z_word z_said z_force z_x z_absent z_isRaining z_wasSaid z_undone z_kept z_order z_bestOrder z_hasBy z_wealthThen z_isFit z_tillThen z_drawX z_images z_imageForce z_imageX z_isMade) (wM K ad z_tape z_taped z_rules z_sign z_length z_clause z_clauses z_read z_next z_wrong z_number z_text z_made z_deep z_lines z_open z_opened z_stack z_top z_word z_said z_force z_x z_absent z_isRaining z_wasSaid z_undone z_kept z_order z_bestOrder z_hasBy z_wealthThen z_isFit z_tillThen z_drawX q.2.1 q.2.2.1 q.2.2.2.1 q.2.2.2.2) (some (.int q.1)) := by
  refine rMet.of (by decide) rfl (Nat.le_of_ble_eq_true rfl) ?_
  refine r_sub (lv' := [(0, .ref (ad 0)), (1, .int x1)]) [0, 1] rfl ?_
  unfold m_image at h
  refine r_iload_n 1 dX12_image_0 rfl ?_
  refine r_i2l dX12_image_1 ?_
  refine r_lconst (x := (0 : Int64)) dX12_image_2 (by decide) ?_
  refine r_ldc2 (x := (3 : Int64)) (tb_in (i := 25) (j := 3) rfl rfl) dX12_image_3 ?_
  obtain ⟨q1, h1, h⟩ := bd_some h
  refine r_callS (st := []) (cm_in h1) rfl rfl (Nat.le_of_ble_eq_true rfl) km_in (tb_in (i := 18) (j := 20) rfl rfl) (by decide) dX12_image_6 ?_
  refine r_if_ne 14 dX12_image_9 (by decide) (fun c2 => ?_) (fun c2 => ?_)
  · replace h := it_neg c2 h
    refine r_aload_n 0 dX12_image_14 rfl ?_
    refine gM_isMade rfl dX12_image_15 ?_
    refine r_iload_n 1 dX12_image_18 rfl ?_
    refine r_iconst (x := (1 : Int32)) dX12_image_19 (by decide) ?_
    obtain ⟨h3, h⟩ := rq_some h
    obtain ⟨u3, e3, h⟩ := lt_some h
    refine sM_isMade e3 (inb_in h3) dX12_image_20 ?_
    refine r_aload_n 0 dX12_image_21 rfl ?_
    refine gM_imageForce rfl dX12_image_22 ?_
    refine r_iload_n 1 dX12_image_25 rfl ?_
    refine r_aload_n 0 dX12_image_26 rfl ?_
    refine gM_force rfl dX12_image_27 ?_
    obtain ⟨h4, h⟩ := rq_some h
    obtain ⟨u4, e4, h⟩ := lt_some h
    refine sM_imageForce e4 (inb_in h4) dX12_image_30 ?_
    refine r_aload_n 0 dX12_image_31 rfl ?_
    refine gM_imageX rfl dX12_image_32 ?_
    refine r_iload_n 1 dX12_image_35 rfl ?_
    refine r_aload_n 0 dX12_image_36 rfl ?_
    refine gM_x rfl dX12_image_37 ?_
    obtain ⟨h5, h⟩ := rq_some h
    obtain ⟨u5, e5, h⟩ := lt_some h
    refine sM_imageX e5 (inb_in h5) dX12_image_40 ?_
    refine r_iconst (x := (0 : Int32)) dX12_image_41 (by decide) ?_
    refine r_istore_n (lv' := [(2, .int (0 : Int32)), (0, .ref (ad 0)), (1, .int x1)]) dX12_image_42 (by decide) rfl ?_
    refine r_sub (lv' := [(0, .ref (ad 0)), (1, .int x1), (2, .int (0 : Int32))]) [1, 2, 0] rfl ?_
    exact cm_image_l43  FU _ _ h
  · replace h := it_pos c2 h
    refine r_iconst (x := (-1 : Int32)) dX12_image_12 (by decide) ?_
    have hq := Option.some.inj h
    subst hq
    exact r_iret rfl dX12_image_13
theorem dX12_back_0 : decode cX12_back 0 = .ok (.iload_n 1, 1) := by decide +kernel
theorem dX12_back_1 : decode cX12_back 1 = .ok (.i2l, 1) := by decide +kernel
theorem dX12_back_2 : decode cX12_back 2 = .ok (.lconst 0, 1) := by decide +kernel
theorem dX12_back_3 : decode cX12_back 3 = .ok (.ldc2_w 329, 3) := by decide +kernel
theorem dX12_back_6 : decode cX12_back 6 = .ok (.invokestatic 124, 3) := by decide +kernel
theorem dX12_back_9 : decode cX12_back 9 = .ok (.ifCond .eq 12, 3) := by decide +kernel
theorem dX12_back_12 : decode cX12_back 12 = .ok (.aload_n 0, 1) := by decide +kernel
theorem dX12_back_13 : decode cX12_back 13 = .ok (.getfield 83, 3) := by decide +kernel
theorem dX12_back_16 : decode cX12_back 16 = .ok (.iload_n 1, 1) := by decide +kernel
theorem dX12_back_17 : decode cX12_back 17 = .ok (.baload, 1) := by decide +kernel
theorem dX12_back_18 : decode cX12_back 18 = .ok (.ifCond .ne 5, 3) := by decide +kernel
theorem dX12_back_21 : decode cX12_back 21 = .ok (.iconst (-1), 1) := by decide +kernel
theorem dX12_back_22 : decode cX12_back 22 = .ok (.ireturn, 1) := by decide +kernel
theorem dX12_back_23 : decode cX12_back 23 = .ok (.aload_n 0, 1) := by decide +kernel
theorem dX12_back_24 : decode cX12_back 24 = .ok (.aload_n 0, 1) := by decide +kernel
theorem dX12_back_25 : decode cX12_back 25 = .ok (.getfield 77, 3) := by decide +kernel
theorem dX12_back_28 : decode cX12_back 28 = .ok (.iload_n 1, 1) := by decide +kernel
theorem dX12_back_29 : decode cX12_back 29 = .ok (.iaload, 1) := by decide +kernel
theorem dX12_back_30 : decode cX12_back 30 = .ok (.putfield 42, 3) := by decide +kernel
theorem dX12_back_33 : decode cX12_back 33 = .ok (.aload_n 0, 1) := by decide +kernel
theorem dX12_back_34 : decode cX12_back 34 = .ok (.aload_n 0, 1) := by decide +kernel
theorem dX12_back_35 : decode cX12_back 35 = .ok (.getfield 80, 3) := by decide +kernel
theorem dX12_back_38 : decode cX12_back 38 = .ok (.iload_n 1, 1) := by decide +kernel
theorem dX12_back_39 : decode cX12_back 39 = .ok (.iaload, 1) := by decide +kernel
theorem dX12_back_40 : decode cX12_back 40 = .ok (.putfield 443, 3) := by decide +kernel
theorem dX12_back_43 : decode cX12_back 43 = .ok (.aload_n 0, 1) := by decide +kernel
theorem dX12_back_44 : decode cX12_back 44 = .ok (.iconst 0, 1) := by decide +kernel
theorem dX12_back_45 : decode cX12_back 45 = .ok (.putfield 268, 3) := by decide +kernel
theorem dX12_back_48 : decode cX12_back 48 = .ok (.iconst 0, 1) := by decide +kernel
theorem dX12_back_49 : decode cX12_back 49 = .ok (.istore_n 2, 1) := by decide +kernel
theorem dX12_back_50 : decode cX12_back 50 = .ok (.iload_n 2, 1) := by decide +kernel
theorem dX12_back_51 : decode cX12_back 51 = .ok (.sipush 156, 3) := by decide +kernel
theorem dX12_back_54 : decode cX12_back 54 = .ok (.if_icmp .ge 27, 3) := by decide +kernel
theorem dX12_back_57 : decode cX12_back 57 = .ok (.aload_n 0, 1) := by decide +kernel
theorem dX12_back_58 : decode cX12_back 58 = .ok (.getfield 39, 3) := by decide +kernel
theorem dX12_back_61 : decode cX12_back 61 = .ok (.iload_n 2, 1) := by decide +kernel
theorem dX12_back_62 : decode cX12_back 62 = .ok (.aload_n 0, 1) := by decide +kernel
theorem dX12_back_63 : decode cX12_back 63 = .ok (.getfield 74, 3) := by decide +kernel
theorem dX12_back_66 : decode cX12_back 66 = .ok (.sipush 156, 3) := by decide +kernel
theorem dX12_back_69 : decode cX12_back 69 = .ok (.iload_n 1, 1) := by decide +kernel
theorem dX12_back_70 : decode cX12_back 70 = .ok (.imul, 1) := by decide +kernel
theorem dX12_back_71 : decode cX12_back 71 = .ok (.iload_n 2, 1) := by decide +kernel
theorem dX12_back_72 : decode cX12_back 72 = .ok (.iadd, 1) := by decide +kernel
theorem dX12_back_73 : decode cX12_back 73 = .ok (.iaload, 1) := by decide +kernel
theorem dX12_back_74 : decode cX12_back 74 = .ok (.iastore, 1) := by decide +kernel
theorem dX12_back_75 : decode cX12_back 75 = .ok (.iinc 2 1, 3) := by decide +kernel
theorem dX12_back_78 : decode cX12_back 78 = .ok (.goto (-28), 3) := by decide +kernel
theorem dX12_back_81 : decode cX12_back 81 = .ok (.aload_n 0, 1) := by decide +kernel
theorem dX12_back_82 : decode cX12_back 82 = .ok (.getfield 39, 3) := by decide +kernel
theorem dX12_back_85 : decode cX12_back 85 = .ok (.bipush 10, 2) := by decide +kernel
theorem dX12_back_87 : decode cX12_back 87 = .ok (.iaload, 1) := by decide +kernel
theorem dX12_back_88 : decode cX12_back 88 = .ok (.ireturn, 1) := by decide +kernel
abbrev Mm_back : rx_M := (RX12, yX12_back, cX12_back, 3, (some .int), 2)
theorem km_back : rKv Mm_back 1 := ⟨tb_in (i := 37) (j := 0) rfl rfl, tb_in (i := 37) (j := 1) rfl rfl, tb_in (i := 17) (j := 21) rfl rfl, tb_in (i := 30) (j := 5) rfl rfl, ⟨by decide, by decide, by decide +kernel⟩, by decide⟩
def m_back_l50 (z_force : Int32) (z_x : Int32) (z_undone : Int32) (z_images : Nat → Int32) (z_imageForce : Nat → Int32) (z_imageX : Nat → Int32) (z_isMade : Nat → Int32) (x1 : Int32) : Nat → Int32 → (Nat → Int32) → Option (Int32 × (Nat → Int32) × Int32 × Int32 × Int32)
  | 0, _, _ => none
  | n + 1, x2, z_said => (if (156 : Int32) ≤ x2 then rq (inb (10 : Int32) 156) (some ((z_said (10 : Int32).toNatClampNeg), z_said, z_force, z_x, z_undone)) else rq (inb (((156 : Int32) * x1) + x2) 624) (rq (inb x2 156) (lt (upd z_said x2.toNatClampNeg (z_images (((156 : Int32) * x1) + x2).toNatClampNeg)) (fun u12 => m_back_l50 z_force z_x z_undone z_images z_imageForce z_imageX z_isMade x1 n (x2 + (1 : Int32)) u12))))
set_option maxRecDepth 20000 in
theorem cm_back_l50 {q : Int32 × (Nat → Int32) × Int32 × Int32 × Int32} {x1 : Int32}  : ∀ (n : Nat) (x2 : Int32) (z_said : Nat → Int32), m_back_l50 z_force z_x z_undone z_images z_imageForce z_imageX z_isMade x1 n x2 z_said = some q → rW l D Z (ty7 K) Mm_back 50 [(0, .ref (ad 0)), (1, .int x1), (2, .int x2)] [] (wM K ad z_tape z_taped z_rules z_sign z_length z_clause z_clauses z_read z_next z_wrong z_number z_text z_made z_deep z_lines z_open z_opened z_stack z_top z_word z_said z_force z_x z_absent z_isRaining z_wasSaid z_undone z_kept z_order z_bestOrder z_hasBy z_wealthThen z_isFit z_tillThen z_drawX z_images z_imageForce z_imageX z_isMade) (wM K ad z_tape z_taped z_rules z_sign z_length z_clause z_clauses z_read z_next z_wrong z_number z_text z_made z_deep z_lines z_open z_opened z_stack z_top z_word q.2.1 q.2.2.1 q.2.2.2.1 z_absent z_isRaining z_wasSaid q.2.2.2.2 z_kept z_order z_bestOrder z_hasBy z_wealthThen z_isFit z_tillThen z_drawX z_images z_imageForce z_imageX z_isMade) (some (.int q.1)) := by
  intro n
  induction n with
  | zero => intro x2 z_said h; unfold m_back_l50 at h; cases h
  | succ n ih =>
    intro x2 z_said h
    unfold m_back_l50 at h
    refine r_iload_n 2 dX12_back_50 rfl ?_
    refine r_sipush (x := (156 : Int32)) dX12_back_51 (by decide) ?_
    refine r_icmp_ge 81 dX12_back_54 (by decide) (fun c9 => ?_) (fun c9 => ?_)
    · replace h := it_pos c9 h
      refine r_aload_n 0 dX12_back_81 rfl ?_
      refine gM_said rfl dX12_back_82 ?_
      refine r_bipush (x := (10 : Int32)) dX12_back_85 (by decide) ?_
      obtain ⟨h10, h⟩ := rq_some h
      refine lM_said (inb_in h10) dX12_back_87 ?_
      have hq := Option.some.inj h
      subst hq
      exact r_iret rfl dX12_back_88
    · replace h := it_neg c9 h
      refine r_aload_n 0 dX12_back_57 rfl ?_
      refine gM_said rfl dX12_back_58 ?_
      refine r_iload_n 2 dX12_back_61 rfl ?_
      refine r_aload_n 0 dX12_back_62 rfl ?_
      refine gM_images rfl dX12_back_63 ?_
      refine r_sipush (x := (156 : Int32)) dX12_back_66 (by decide) ?_
      refine r_iload_n 1 dX12_back_69 rfl ?_
      refine r_imul dX12_back_70 ?_
      refine r_iload_n 2 dX12_back_71 rfl ?_
      refine r_iadd dX12_back_72 ?_
      obtain ⟨h11, h⟩ := rq_some h
      refine lM_images (inb_in h11) dX12_back_73 ?_
      obtain ⟨h12, h⟩ := rq_some h
      obtain ⟨u12, e12, h⟩ := lt_some h
      refine sM_said e12 (inb_in h12) dX12_back_74 ?_
      refine r_iinc (y := (x2 + (1 : Int32))) (lv' := [(2, .int (x2 + (1 : Int32))), (0, .ref (ad 0)), (1, .int x1)]) 2 dX12_back_75 rfl rfl (by decide) rfl ?_
      refine r_goto 50 dX12_back_78 (by decide) ?_
      refine r_sub (lv' := [(0, .ref (ad 0)), (1, .int x1), (2, .int (x2 + (1 : Int32)))]) [1, 2, 0] rfl ?_
      exact ih _ _ h
def m_back (x1 : Int32) (z_said : Nat → Int32) (z_force : Int32) (z_x : Int32) (z_undone : Int32) (z_images : Nat → Int32) (z_imageForce : Nat → Int32) (z_imageX : Nat → Int32) (z_isMade : Nat → Int32) : Option (Int32 × (Nat → Int32) × Int32 × Int32 × Int32) := (m_in (x1.toInt64) (0 : Int64) (3 : Int64)).bind (fun q1 => (if q1 = 0 then some ((-1 : Int32), z_said, z_force, z_x, z_undone) else rq (inb x1 4) ((if (z_isMade x1.toNatClampNeg) = 0 then some ((-1 : Int32), z_said, z_force, z_x, z_undone) else rq (inb x1 4) (lt (z_imageForce x1.toNatClampNeg) (fun y6 => rq (inb x1 4) (lt (z_imageX x1.toNatClampNeg) (fun y8 => m_back_l50 y6 y8 (0 : Int32) z_images z_imageForce z_imageX z_isMade x1 FU (0 : Int32) z_said))))))))
set_option maxRecDepth 20000 in
theorem cm_back {q : Int32 × (Nat → Int32) × Int32 × Int32 × Int32} {x1 : Int32} (h : m_back x1 z_said z_force z_x z_undone z_images z_imageForce z_imageX z_isMade = some q) : rMet l D Z (ty7 K) Mm_back [.ref (ad 0), .int x1] (wM K ad z_tape z_taped z_rules z_sign z_length z_clause z_clauses z_read z_next z_wrong z_number z_text z_made z_deep z_lines z_open z_opened z_stack z_top z_word z_said z_force z_x z_absent z_isRaining z_wasSaid z_undone z_kept z_order z_bestOrder z_hasBy z_wealthThen z_isFit z_tillThen z_drawX z_images z_imageForce z_imageX z_isMade) (wM K ad z_tape z_taped z_rules z_sign z_length z_clause z_clauses z_read z_next z_wrong z_number z_text z_made z_deep z_lines z_open z_opened z_stack z_top z_word q.2.1 q.2.2.1 q.2.2.2.1 z_absent z_isRaining z_wasSaid q.2.2.2.2 z_kept z_order z_bestOrder z_hasBy z_wealthThen z_isFit z_tillThen z_drawX z_images z_imageForce z_imageX z_isMade) (some (.int q.1)) := by
  refine rMet.of (by decide) rfl (Nat.le_of_ble_eq_true rfl) ?_
  refine r_sub (lv' := [(0, .ref (ad 0)), (1, .int x1)]) [0, 1] rfl ?_
  unfold m_back at h
  refine r_iload_n 1 dX12_back_0 rfl ?_
  refine r_i2l dX12_back_1 ?_
  refine r_lconst (x := (0 : Int64)) dX12_back_2 (by decide) ?_
  refine r_ldc2 (x := (3 : Int64)) (tb_in (i := 25) (j := 3) rfl rfl) dX12_back_3 ?_
  obtain ⟨q1, h1, h⟩ := bd_some h
  refine r_callS (st := []) (cm_in h1) rfl rfl (Nat.le_of_ble_eq_true rfl) km_in (tb_in (i := 18) (j := 20) rfl rfl) (by decide) dX12_back_6 ?_
  refine r_if_eq 21 dX12_back_9 (by decide) (fun c2 => ?_) (fun c2 => ?_)
  · replace h := it_pos c2 h
    refine r_iconst (x := (-1 : Int32)) dX12_back_21 (by decide) ?_
    have hq := Option.some.inj h
    subst hq
    exact r_iret rfl dX12_back_22
  · replace h := it_neg c2 h
    refine r_aload_n 0 dX12_back_12 rfl ?_
    refine gM_isMade rfl dX12_back_13 ?_
    refine r_iload_n 1 dX12_back_16 rfl ?_
    obtain ⟨h3, h⟩ := rq_some h
    refine lM_isMade (inb_in h3) dX12_back_17 ?_
    refine r_if_ne 23 dX12_back_18 (by decide) (fun c4 => ?_) (fun c4 => ?_)
    · replace h := it_neg c4 h
      refine r_aload_n 0 dX12_back_23 rfl ?_
      refine r_aload_n 0 dX12_back_24 rfl ?_
      refine gM_imageForce rfl dX12_back_25 ?_
      refine r_iload_n 1 dX12_back_28 rfl ?_
      obtain ⟨h5, h⟩ := rq_some h
      refine lM_imageForce (inb_in h5) dX12_back_29 ?_
      obtain ⟨y6, e6, h⟩ := lt_some h
      refine r_top e6 ?_
      refine pM_force rfl dX12_back_30 ?_
      refine r_aload_n 0 dX12_back_33 rfl ?_
      refine r_aload_n 0 dX12_back_34 rfl ?_
      refine gM_imageX rfl dX12_back_35 ?_
      refine r_iload_n 1 dX12_back_38 rfl ?_
      obtain ⟨h7, h⟩ := rq_some h
      refine lM_imageX (inb_in h7) dX12_back_39 ?_
      obtain ⟨y8, e8, h⟩ := lt_some h
      refine r_top e8 ?_
      refine pM_x rfl dX12_back_40 ?_
      refine r_aload_n 0 dX12_back_43 rfl ?_
      refine r_iconst (x := (0 : Int32)) dX12_back_44 (by decide) ?_
      refine pM_undone rfl dX12_back_45 ?_
      refine r_iconst (x := (0 : Int32)) dX12_back_48 (by decide) ?_
      refine r_istore_n (lv' := [(2, .int (0 : Int32)), (0, .ref (ad 0)), (1, .int x1)]) dX12_back_49 (by decide) rfl ?_
      refine r_sub (lv' := [(0, .ref (ad 0)), (1, .int x1), (2, .int (0 : Int32))]) [1, 2, 0] rfl ?_
      exact cm_back_l50  FU _ _ h
    · replace h := it_pos c4 h
      refine r_iconst (x := (-1 : Int32)) dX12_back_21 (by decide) ?_
      have hq := Option.some.inj h
      subst hq
      exact r_iret rfl dX12_back_22
end PM6
