section PM5
variable {l : Launch} {D : va_G} {Z : (Nat → Nat) × (Nat → Nat)} {K : Nat → ClassId} {ad : Nat → Nat} {tys : List (ClassId × FieldType)} {ws : va_W}
variable {z_tape : Nat → Int32} {z_taped : Int32} {z_rules : Int32} {z_sign : Nat → Int32} {z_length : Nat → Int32} {z_clause : Nat → Int32} {z_clauses : Nat → Int32} {z_read : Nat → Int32} {z_next : Int32} {z_wrong : Int32} {z_number : Int32} {z_text : Int32} {z_made : Int32} {z_deep : Int32} {z_lines : Int32} {z_open : Nat → Int32} {z_opened : Int32} {z_stack : Nat → Int64} {z_top : Int32} {z_word : Nat → Int64} {z_said : Nat → Int32} {z_force : Int32} {z_x : Int32} {z_absent : Int32} {z_isRaining : Int32} {z_wasSaid : Nat → Int32} {z_undone : Int32} {z_kept : Nat → Int32} {z_order : Nat → Int32} {z_bestOrder : Nat → Int32} {z_hasBy : Nat → Int32} {z_wealthThen : Nat → Int32} {z_isFit : Nat → Int32} {z_tillThen : Nat → Int32} {z_drawX : Int64} {z_images : Nat → Int32} {z_imageForce : Nat → Int32} {z_imageX : Nat → Int32} {z_isMade : Nat → Int32}
theorem dX12_swaps_0 : decode cX12_swaps 0 = .ok (.aload_n 0, 1) := by decide +kernel
theorem dX12_swaps_1 : decode cX12_swaps 1 = .ok (.invokevirtual 358, 3) := by decide +kernel
theorem dX12_swaps_4 : decode cX12_swaps 4 = .ok (.ifCond .eq 27, 3) := by decide +kernel
theorem dX12_swaps_7 : decode cX12_swaps 7 = .ok (.iload_n 1, 1) := by decide +kernel
theorem dX12_swaps_8 : decode cX12_swaps 8 = .ok (.i2l, 1) := by decide +kernel
theorem dX12_swaps_9 : decode cX12_swaps 9 = .ok (.lconst 1, 1) := by decide +kernel
theorem dX12_swaps_10 : decode cX12_swaps 10 = .ok (.ldc2_w 370, 3) := by decide +kernel
theorem dX12_swaps_13 : decode cX12_swaps 13 = .ok (.invokestatic 124, 3) := by decide +kernel
theorem dX12_swaps_16 : decode cX12_swaps 16 = .ok (.ifCond .eq 15, 3) := by decide +kernel
theorem dX12_swaps_19 : decode cX12_swaps 19 = .ok (.iload_n 2, 1) := by decide +kernel
theorem dX12_swaps_20 : decode cX12_swaps 20 = .ok (.i2l, 1) := by decide +kernel
theorem dX12_swaps_21 : decode cX12_swaps 21 = .ok (.lconst 0, 1) := by decide +kernel
theorem dX12_swaps_22 : decode cX12_swaps 22 = .ok (.ldc2_w 320, 3) := by decide +kernel
theorem dX12_swaps_25 : decode cX12_swaps 25 = .ok (.invokestatic 124, 3) := by decide +kernel
theorem dX12_swaps_28 : decode cX12_swaps 28 = .ok (.ifCond .ne 5, 3) := by decide +kernel
theorem dX12_swaps_31 : decode cX12_swaps 31 = .ok (.iconst (-1), 1) := by decide +kernel
theorem dX12_swaps_32 : decode cX12_swaps 32 = .ok (.ireturn, 1) := by decide +kernel
theorem dX12_swaps_33 : decode cX12_swaps 33 = .ok (.iconst 0, 1) := by decide +kernel
theorem dX12_swaps_34 : decode cX12_swaps 34 = .ok (.istore_n 3, 1) := by decide +kernel
theorem dX12_swaps_35 : decode cX12_swaps 35 = .ok (.bipush (-2), 2) := by decide +kernel
theorem dX12_swaps_37 : decode cX12_swaps 37 = .ok (.istore 4, 2) := by decide +kernel
theorem dX12_swaps_39 : decode cX12_swaps 39 = .ok (.bipush (-2), 2) := by decide +kernel
theorem dX12_swaps_41 : decode cX12_swaps 41 = .ok (.istore 5, 2) := by decide +kernel
theorem dX12_swaps_43 : decode cX12_swaps 43 = .ok (.aload_n 0, 1) := by decide +kernel
theorem dX12_swaps_44 : decode cX12_swaps 44 = .ok (.invokevirtual 376, 3) := by decide +kernel
theorem dX12_swaps_47 : decode cX12_swaps 47 = .ok (.aload_n 0, 1) := by decide +kernel
theorem dX12_swaps_48 : decode cX12_swaps 48 = .ok (.iload_n 1, 1) := by decide +kernel
theorem dX12_swaps_49 : decode cX12_swaps 49 = .ok (.invokevirtual 379, 3) := by decide +kernel
theorem dX12_swaps_52 : decode cX12_swaps 52 = .ok (.pop, 1) := by decide +kernel
theorem dX12_swaps_53 : decode cX12_swaps 53 = .ok (.iconst 0, 1) := by decide +kernel
theorem dX12_swaps_54 : decode cX12_swaps 54 = .ok (.istore 6, 2) := by decide +kernel
theorem dX12_swaps_56 : decode cX12_swaps 56 = .ok (.iload 6, 2) := by decide +kernel
theorem dX12_swaps_58 : decode cX12_swaps 58 = .ok (.aload_n 0, 1) := by decide +kernel
theorem dX12_swaps_59 : decode cX12_swaps 59 = .ok (.getfield 39, 3) := by decide +kernel
theorem dX12_swaps_62 : decode cX12_swaps 62 = .ok (.iconst 3, 1) := by decide +kernel
theorem dX12_swaps_63 : decode cX12_swaps 63 = .ok (.iaload, 1) := by decide +kernel
theorem dX12_swaps_64 : decode cX12_swaps 64 = .ok (.if_icmp .ge 22, 3) := by decide +kernel
theorem dX12_swaps_67 : decode cX12_swaps 67 = .ok (.aload_n 0, 1) := by decide +kernel
theorem dX12_swaps_68 : decode cX12_swaps 68 = .ok (.getfield 64, 3) := by decide +kernel
theorem dX12_swaps_71 : decode cX12_swaps 71 = .ok (.iload 6, 2) := by decide +kernel
theorem dX12_swaps_73 : decode cX12_swaps 73 = .ok (.aload_n 0, 1) := by decide +kernel
theorem dX12_swaps_74 : decode cX12_swaps 74 = .ok (.iload 6, 2) := by decide +kernel
theorem dX12_swaps_76 : decode cX12_swaps 76 = .ok (.invokevirtual 382, 3) := by decide +kernel
theorem dX12_swaps_79 : decode cX12_swaps 79 = .ok (.iastore, 1) := by decide +kernel
theorem dX12_swaps_80 : decode cX12_swaps 80 = .ok (.iinc 6 1, 3) := by decide +kernel
theorem dX12_swaps_83 : decode cX12_swaps 83 = .ok (.goto (-27), 3) := by decide +kernel
theorem dX12_swaps_86 : decode cX12_swaps 86 = .ok (.aload_n 0, 1) := by decide +kernel
theorem dX12_swaps_87 : decode cX12_swaps 87 = .ok (.invokevirtual 385, 3) := by decide +kernel
theorem dX12_swaps_90 : decode cX12_swaps 90 = .ok (.iconst 0, 1) := by decide +kernel
theorem dX12_swaps_91 : decode cX12_swaps 91 = .ok (.istore 6, 2) := by decide +kernel
theorem dX12_swaps_93 : decode cX12_swaps 93 = .ok (.iload 6, 2) := by decide +kernel
theorem dX12_swaps_95 : decode cX12_swaps 95 = .ok (.aload_n 0, 1) := by decide +kernel
theorem dX12_swaps_96 : decode cX12_swaps 96 = .ok (.getfield 39, 3) := by decide +kernel
theorem dX12_swaps_99 : decode cX12_swaps 99 = .ok (.iconst 3, 1) := by decide +kernel
theorem dX12_swaps_100 : decode cX12_swaps 100 = .ok (.iaload, 1) := by decide +kernel
theorem dX12_swaps_101 : decode cX12_swaps 101 = .ok (.if_icmp .ge 62, 3) := by decide +kernel
theorem dX12_swaps_104 : decode cX12_swaps 104 = .ok (.iload 6, 2) := by decide +kernel
theorem dX12_swaps_106 : decode cX12_swaps 106 = .ok (.iconst 1, 1) := by decide +kernel
theorem dX12_swaps_107 : decode cX12_swaps 107 = .ok (.iadd, 1) := by decide +kernel
theorem dX12_swaps_108 : decode cX12_swaps 108 = .ok (.istore 7, 2) := by decide +kernel
theorem dX12_swaps_110 : decode cX12_swaps 110 = .ok (.iload 7, 2) := by decide +kernel
theorem dX12_swaps_112 : decode cX12_swaps 112 = .ok (.aload_n 0, 1) := by decide +kernel
theorem dX12_swaps_113 : decode cX12_swaps 113 = .ok (.getfield 39, 3) := by decide +kernel
theorem dX12_swaps_116 : decode cX12_swaps 116 = .ok (.iconst 3, 1) := by decide +kernel
theorem dX12_swaps_117 : decode cX12_swaps 117 = .ok (.iaload, 1) := by decide +kernel
theorem dX12_swaps_118 : decode cX12_swaps 118 = .ok (.if_icmp .ge 39, 3) := by decide +kernel
theorem dX12_swaps_121 : decode cX12_swaps 121 = .ok (.aload_n 0, 1) := by decide +kernel
theorem dX12_swaps_122 : decode cX12_swaps 122 = .ok (.iload 6, 2) := by decide +kernel
theorem dX12_swaps_124 : decode cX12_swaps 124 = .ok (.iload 7, 2) := by decide +kernel
theorem dX12_swaps_126 : decode cX12_swaps 126 = .ok (.iload_n 1, 1) := by decide +kernel
theorem dX12_swaps_127 : decode cX12_swaps 127 = .ok (.invokevirtual 423, 3) := by decide +kernel
theorem dX12_swaps_130 : decode cX12_swaps 130 = .ok (.ifCond .ne 6, 3) := by decide +kernel
theorem dX12_swaps_133 : decode cX12_swaps 133 = .ok (.goto 18, 3) := by decide +kernel
theorem dX12_swaps_136 : decode cX12_swaps 136 = .ok (.iload_n 3, 1) := by decide +kernel
theorem dX12_swaps_137 : decode cX12_swaps 137 = .ok (.ifCond .ne 11, 3) := by decide +kernel
theorem dX12_swaps_140 : decode cX12_swaps 140 = .ok (.iload 6, 2) := by decide +kernel
theorem dX12_swaps_142 : decode cX12_swaps 142 = .ok (.istore 4, 2) := by decide +kernel
theorem dX12_swaps_144 : decode cX12_swaps 144 = .ok (.iload 7, 2) := by decide +kernel
theorem dX12_swaps_146 : decode cX12_swaps 146 = .ok (.istore 5, 2) := by decide +kernel
theorem dX12_swaps_148 : decode cX12_swaps 148 = .ok (.iinc 3 1, 3) := by decide +kernel
theorem dX12_swaps_151 : decode cX12_swaps 151 = .ok (.iinc 7 1, 3) := by decide +kernel
theorem dX12_swaps_154 : decode cX12_swaps 154 = .ok (.goto (-44), 3) := by decide +kernel
theorem dX12_swaps_157 : decode cX12_swaps 157 = .ok (.iinc 6 1, 3) := by decide +kernel
theorem dX12_swaps_160 : decode cX12_swaps 160 = .ok (.goto (-67), 3) := by decide +kernel
theorem dX12_swaps_163 : decode cX12_swaps 163 = .ok (.iload_n 2, 1) := by decide +kernel
theorem dX12_swaps_164 : decode cX12_swaps 164 = .ok (.ifCond .ne 7, 3) := by decide +kernel
theorem dX12_swaps_167 : decode cX12_swaps 167 = .ok (.iload_n 3, 1) := by decide +kernel
theorem dX12_swaps_168 : decode cX12_swaps 168 = .ok (.goto 15, 3) := by decide +kernel
theorem dX12_swaps_171 : decode cX12_swaps 171 = .ok (.iload_n 2, 1) := by decide +kernel
theorem dX12_swaps_172 : decode cX12_swaps 172 = .ok (.iconst 1, 1) := by decide +kernel
theorem dX12_swaps_173 : decode cX12_swaps 173 = .ok (.if_icmp .ne 8, 3) := by decide +kernel
theorem dX12_swaps_176 : decode cX12_swaps 176 = .ok (.iload 4, 2) := by decide +kernel
theorem dX12_swaps_178 : decode cX12_swaps 178 = .ok (.goto 5, 3) := by decide +kernel
theorem dX12_swaps_181 : decode cX12_swaps 181 = .ok (.iload 5, 2) := by decide +kernel
theorem dX12_swaps_183 : decode cX12_swaps 183 = .ok (.ireturn, 1) := by decide +kernel
abbrev Mm_swaps : rx_M := (RX12, yX12_swaps, cX12_swaps, 8, (some .int), 10)
theorem km_swaps : rKv Mm_swaps 2 := ⟨tb_in (i := 35) (j := 4) rfl rfl, tb_in (i := 35) (j := 5) rfl rfl, tb_in (i := 17) (j := 21) rfl rfl, tb_in (i := 28) (j := 28) rfl rfl, ⟨by decide, by decide, by decide +kernel⟩, by decide⟩
def m_swaps_l110 (z_sign : Nat → Int32) (z_clause : Nat → Int32) (z_clauses : Nat → Int32) (z_force : Int32) (z_absent : Int32) (z_kept : Nat → Int32) (z_wealthThen : Nat → Int32) (x1 : Int32) (x2 : Int32) (x6 : Int32) (k93 : Int32 → Int32 → Int32 → Int32 → (Nat → Int64) → Int32 → (Nat → Int64) → (Nat → Int32) → Int32 → Option (Int32 × (Nat → Int64) × Int32 × (Nat → Int64) × (Nat → Int32) × Int32 × (Nat → Int32) × (Nat → Int32))) : Nat → Int32 → Int32 → Int32 → Int32 → (Nat → Int64) → Int32 → (Nat → Int64) → (Nat → Int32) → Int32 → Option (Int32 × (Nat → Int64) × Int32 × (Nat → Int64) × (Nat → Int32) × Int32 × (Nat → Int32) × (Nat → Int32))
  | 0, _, _, _, _, _, _, _, _, _ => none
  | n + 1, x3, x4, x5, x7, z_stack, z_top, z_word, z_said, z_isRaining => rq (inb (3 : Int32) 156) ((if (z_said (3 : Int32).toNatClampNeg) ≤ x7 then k93 x3 x4 x5 (x6 + (1 : Int32)) z_stack z_top z_word z_said z_isRaining else (m_isSwap x6 x7 x1 z_sign z_clause z_clauses z_stack z_top z_word z_said z_force z_absent z_isRaining z_kept z_wealthThen).bind (fun q19 => (if q19.1 = 0 then m_swaps_l110 z_sign z_clause z_clauses z_force z_absent z_kept z_wealthThen x1 x2 x6 k93 n x3 x4 x5 (x7 + (1 : Int32)) q19.2.1 q19.2.2.1 q19.2.2.2.1 q19.2.2.2.2.1 q19.2.2.2.2.2 else (if x3 = 0 then m_swaps_l110 z_sign z_clause z_clauses z_force z_absent z_kept z_wealthThen x1 x2 x6 k93 n (x3 + (1 : Int32)) x6 x7 (x7 + (1 : Int32)) q19.2.1 q19.2.2.1 q19.2.2.2.1 q19.2.2.2.2.1 q19.2.2.2.2.2 else m_swaps_l110 z_sign z_clause z_clauses z_force z_absent z_kept z_wealthThen x1 x2 x6 k93 n (x3 + (1 : Int32)) x4 x5 (x7 + (1 : Int32)) q19.2.1 q19.2.2.1 q19.2.2.2.1 q19.2.2.2.2.1 q19.2.2.2.2.2)))))
set_option maxRecDepth 20000 in
theorem cm_swaps_l110 {q : Int32 × (Nat → Int64) × Int32 × (Nat → Int64) × (Nat → Int32) × Int32 × (Nat → Int32) × (Nat → Int32)} {x1 : Int32} {x2 : Int32} {x6 : Int32} {k93 : Int32 → Int32 → Int32 → Int32 → (Nat → Int64) → Int32 → (Nat → Int64) → (Nat → Int32) → Int32 → Option (Int32 × (Nat → Int64) × Int32 × (Nat → Int64) × (Nat → Int32) × Int32 × (Nat → Int32) × (Nat → Int32))} (hk93 : ∀ (x3 : Int32) (x4 : Int32) (x5 : Int32) (x6 : Int32) (z_stack : Nat → Int64) (z_top : Int32) (z_word : Nat → Int64) (z_said : Nat → Int32) (z_isRaining : Int32), k93 x3 x4 x5 x6 z_stack z_top z_word z_said z_isRaining = some q → rW l D Z (ty7 K) Mm_swaps 93 [(0, .ref (ad 0)), (1, .int x1), (2, .int x2), (3, .int x3), (4, .int x4), (5, .int x5), (6, .int x6)] [] (wM K ad z_tape z_taped z_rules z_sign z_length z_clause z_clauses z_read z_next z_wrong z_number z_text z_made z_deep z_lines z_open z_opened z_stack z_top z_word z_said z_force z_x z_absent z_isRaining z_wasSaid z_undone z_kept z_order z_bestOrder z_hasBy z_wealthThen z_isFit z_tillThen z_drawX z_images z_imageForce z_imageX z_isMade) (wM K ad z_tape z_taped z_rules z_sign z_length z_clause z_clauses z_read z_next z_wrong z_number z_text z_made z_deep z_lines z_open z_opened q.2.1 q.2.2.1 q.2.2.2.1 q.2.2.2.2.1 z_force z_x z_absent q.2.2.2.2.2.1 z_wasSaid z_undone q.2.2.2.2.2.2.1 z_order z_bestOrder z_hasBy q.2.2.2.2.2.2.2 z_isFit z_tillThen z_drawX z_images z_imageForce z_imageX z_isMade) (some (.int q.1))) : ∀ (n : Nat) (x3 : Int32) (x4 : Int32) (x5 : Int32) (x7 : Int32) (z_stack : Nat → Int64) (z_top : Int32) (z_word : Nat → Int64) (z_said : Nat → Int32) (z_isRaining : Int32), m_swaps_l110 z_sign z_clause z_clauses z_force z_absent z_kept z_wealthThen x1 x2 x6 k93 n x3 x4 x5 x7 z_stack z_top z_word z_said z_isRaining = some q → rW l D Z (ty7 K) Mm_swaps 110 [(0, .ref (ad 0)), (1, .int x1), (2, .int x2), (3, .int x3), (4, .int x4), (5, .int x5), (6, .int x6), (7, .int x7)] [] (wM K ad z_tape z_taped z_rules z_sign z_length z_clause z_clauses z_read z_next z_wrong z_number z_text z_made z_deep z_lines z_open z_opened z_stack z_top z_word z_said z_force z_x z_absent z_isRaining z_wasSaid z_undone z_kept z_order z_bestOrder z_hasBy z_wealthThen z_isFit z_tillThen z_drawX z_images z_imageForce z_imageX z_isMade) (wM K ad z_tape z_taped z_rules z_sign z_length z_clause z_clauses z_read z_next z_wrong z_number z_text z_made z_deep z_lines z_open z_opened q.2.1 q.2.2.1 q.2.2.2.1 q.2.2.2.2.1 z_force z_x z_absent q.2.2.2.2.2.1 z_wasSaid z_undone q.2.2.2.2.2.2.1 z_order z_bestOrder z_hasBy q.2.2.2.2.2.2.2 z_isFit z_tillThen z_drawX z_images z_imageForce z_imageX z_isMade) (some (.int q.1)) := by
  intro n
  induction n with
  | zero => intro x3 x4 x5 x7 z_stack z_top z_word z_said z_isRaining h; unfold m_swaps_l110 at h; cases h
  | succ n ih =>
    intro x3 x4 x5 x7 z_stack z_top z_word z_said z_isRaining h
    unfold m_swaps_l110 at h
    refine r_iload 7 dX12_swaps_110 rfl ?_
    refine r_aload_n 0 dX12_swaps_112 rfl ?_
    refine gM_said rfl dX12_swaps_113 ?_
    refine r_iconst (x := (3 : Int32)) dX12_swaps_116 (by decide) ?_
    obtain ⟨h17, h⟩ := rq_some h
    refine lM_said (inb_in h17) dX12_swaps_117 ?_
    refine r_icmp_ge 157 dX12_swaps_118 (by decide) (fun c18 => ?_) (fun c18 => ?_)
    · replace h := it_pos c18 h
      refine r_iinc (y := (x6 + (1 : Int32))) (lv' := [(6, .int (x6 + (1 : Int32))), (0, .ref (ad 0)), (1, .int x1), (2, .int x2), (3, .int x3), (4, .int x4), (5, .int x5), (7, .int x7)]) 6 dX12_swaps_157 rfl rfl (by decide) rfl ?_
      refine r_goto 93 dX12_swaps_160 (by decide) ?_
      refine r_sub (lv' := [(0, .ref (ad 0)), (1, .int x1), (2, .int x2), (3, .int x3), (4, .int x4), (5, .int x5), (6, .int (x6 + (1 : Int32)))]) [1, 2, 3, 4, 5, 6, 0] rfl ?_
      exact hk93 _ _ _ _ _ _ _ _ _ h
    · replace h := it_neg c18 h
      refine r_aload_n 0 dX12_swaps_121 rfl ?_
      refine r_iload 6 dX12_swaps_122 rfl ?_
      refine r_iload 7 dX12_swaps_124 rfl ?_
      refine r_iload_n 1 dX12_swaps_126 rfl ?_
      obtain ⟨q19, h19, h⟩ := bd_some h
      refine cvM (st := []) (cm_isSwap h19) rfl rfl (Nat.le_of_ble_eq_true rfl) km_isSwap (tb_in (i := 28) (j := 25) rfl rfl) (by decide) rfl dX12_swaps_127 ?_
      refine r_if_ne 136 dX12_swaps_130 (by decide) (fun c20 => ?_) (fun c20 => ?_)
      · replace h := it_neg c20 h
        refine r_iload_n 3 dX12_swaps_136 rfl ?_
        refine r_if_ne 148 dX12_swaps_137 (by decide) (fun c21 => ?_) (fun c21 => ?_)
        · replace h := it_neg c21 h
          refine r_iinc (y := (x3 + (1 : Int32))) (lv' := [(3, .int (x3 + (1 : Int32))), (0, .ref (ad 0)), (1, .int x1), (2, .int x2), (4, .int x4), (5, .int x5), (6, .int x6), (7, .int x7)]) 3 dX12_swaps_148 rfl rfl (by decide) rfl ?_
          refine r_iinc (y := (x7 + (1 : Int32))) (lv' := [(7, .int (x7 + (1 : Int32))), (3, .int (x3 + (1 : Int32))), (0, .ref (ad 0)), (1, .int x1), (2, .int x2), (4, .int x4), (5, .int x5), (6, .int x6)]) 7 dX12_swaps_151 rfl rfl (by decide) rfl ?_
          refine r_goto 110 dX12_swaps_154 (by decide) ?_
          refine r_sub (lv' := [(0, .ref (ad 0)), (1, .int x1), (2, .int x2), (3, .int (x3 + (1 : Int32))), (4, .int x4), (5, .int x5), (6, .int x6), (7, .int (x7 + (1 : Int32)))]) [2, 3, 4, 1, 5, 6, 7, 0] rfl ?_
          exact ih _ _ _ _ _ _ _ _ _ h
        · replace h := it_pos c21 h
          refine r_iload 6 dX12_swaps_140 rfl ?_
          refine r_istore (lv' := [(4, .int x6), (0, .ref (ad 0)), (1, .int x1), (2, .int x2), (3, .int x3), (5, .int x5), (6, .int x6), (7, .int x7)]) dX12_swaps_142 (by decide) rfl ?_
          refine r_iload 7 dX12_swaps_144 rfl ?_
          refine r_istore (lv' := [(5, .int x7), (4, .int x6), (0, .ref (ad 0)), (1, .int x1), (2, .int x2), (3, .int x3), (6, .int x6), (7, .int x7)]) dX12_swaps_146 (by decide) rfl ?_
          refine r_iinc (y := (x3 + (1 : Int32))) (lv' := [(3, .int (x3 + (1 : Int32))), (5, .int x7), (4, .int x6), (0, .ref (ad 0)), (1, .int x1), (2, .int x2), (6, .int x6), (7, .int x7)]) 5 dX12_swaps_148 rfl rfl (by decide) rfl ?_
          refine r_iinc (y := (x7 + (1 : Int32))) (lv' := [(7, .int (x7 + (1 : Int32))), (3, .int (x3 + (1 : Int32))), (5, .int x7), (4, .int x6), (0, .ref (ad 0)), (1, .int x1), (2, .int x2), (6, .int x6)]) 7 dX12_swaps_151 rfl rfl (by decide) rfl ?_
          refine r_goto 110 dX12_swaps_154 (by decide) ?_
          refine r_sub (lv' := [(0, .ref (ad 0)), (1, .int x1), (2, .int x2), (3, .int (x3 + (1 : Int32))), (4, .int x6), (5, .int x7), (6, .int x6), (7, .int (x7 + (1 : Int32)))]) [4, 5, 6, 1, 3, 2, 7, 0] rfl ?_
          exact ih _ _ _ _ _ _ _ _ _ h
      · replace h := it_pos c20 h
        refine r_goto 151 dX12_swaps_133 (by decide) ?_
        refine r_iinc (y := (x7 + (1 : Int32))) (lv' := [(7, .int (x7 + (1 : Int32))), (0, .ref (ad 0)), (1, .int x1), (2, .int x2), (3, .int x3), (4, .int x4), (5, .int x5), (6, .int x6)]) 7 dX12_swaps_151 rfl rfl (by decide) rfl ?_
        refine r_goto 110 dX12_swaps_154 (by decide) ?_
        refine r_sub (lv' := [(0, .ref (ad 0)), (1, .int x1), (2, .int x2), (3, .int x3), (4, .int x4), (5, .int x5), (6, .int x6), (7, .int (x7 + (1 : Int32)))]) [1, 2, 3, 4, 5, 6, 7, 0] rfl ?_
        exact ih _ _ _ _ _ _ _ _ _ h
def m_swaps_l93 (z_sign : Nat → Int32) (z_clause : Nat → Int32) (z_clauses : Nat → Int32) (z_force : Int32) (z_absent : Int32) (z_kept : Nat → Int32) (z_wealthThen : Nat → Int32) (x1 : Int32) (x2 : Int32) : Nat → Int32 → Int32 → Int32 → Int32 → (Nat → Int64) → Int32 → (Nat → Int64) → (Nat → Int32) → Int32 → Option (Int32 × (Nat → Int64) × Int32 × (Nat → Int64) × (Nat → Int32) × Int32 × (Nat → Int32) × (Nat → Int32))
  | 0, _, _, _, _, _, _, _, _, _ => none
  | n + 1, x3, x4, x5, x6, z_stack, z_top, z_word, z_said, z_isRaining => rq (inb (3 : Int32) 156) ((if (z_said (3 : Int32).toNatClampNeg) ≤ x6 then (if x2 = 0 then some (x3, z_stack, z_top, z_word, z_said, z_isRaining, z_kept, z_wealthThen) else (if x2 = (1 : Int32) then some (x4, z_stack, z_top, z_word, z_said, z_isRaining, z_kept, z_wealthThen) else some (x5, z_stack, z_top, z_word, z_said, z_isRaining, z_kept, z_wealthThen))) else lt (x6 + (1 : Int32)) (fun y16 => m_swaps_l110 z_sign z_clause z_clauses z_force z_absent z_kept z_wealthThen x1 x2 x6 (m_swaps_l93 z_sign z_clause z_clauses z_force z_absent z_kept z_wealthThen x1 x2 n) FU x3 x4 x5 y16 z_stack z_top z_word z_said z_isRaining)))
set_option maxRecDepth 20000 in
theorem cm_swaps_l93 {q : Int32 × (Nat → Int64) × Int32 × (Nat → Int64) × (Nat → Int32) × Int32 × (Nat → Int32) × (Nat → Int32)} {x1 : Int32} {x2 : Int32}  : ∀ (n : Nat) (x3 : Int32) (x4 : Int32) (x5 : Int32) (x6 : Int32) (z_stack : Nat → Int64) (z_top : Int32) (z_word : Nat → Int64) (z_said : Nat → Int32) (z_isRaining : Int32), m_swaps_l93 z_sign z_clause z_clauses z_force z_absent z_kept z_wealthThen x1 x2 n x3 x4 x5 x6 z_stack z_top z_word z_said z_isRaining = some q → rW l D Z (ty7 K) Mm_swaps 93 [(0, .ref (ad 0)), (1, .int x1), (2, .int x2), (3, .int x3), (4, .int x4), (5, .int x5), (6, .int x6)] [] (wM K ad z_tape z_taped z_rules z_sign z_length z_clause z_clauses z_read z_next z_wrong z_number z_text z_made z_deep z_lines z_open z_opened z_stack z_top z_word z_said z_force z_x z_absent z_isRaining z_wasSaid z_undone z_kept z_order z_bestOrder z_hasBy z_wealthThen z_isFit z_tillThen z_drawX z_images z_imageForce z_imageX z_isMade) (wM K ad z_tape z_taped z_rules z_sign z_length z_clause z_clauses z_read z_next z_wrong z_number z_text z_made z_deep z_lines z_open z_opened q.2.1 q.2.2.1 q.2.2.2.1 q.2.2.2.2.1 z_force z_x z_absent q.2.2.2.2.2.1 z_wasSaid z_undone q.2.2.2.2.2.2.1 z_order z_bestOrder z_hasBy q.2.2.2.2.2.2.2 z_isFit z_tillThen z_drawX z_images z_imageForce z_imageX z_isMade) (some (.int q.1)) := by
  intro n
  induction n with
  | zero => intro x3 x4 x5 x6 z_stack z_top z_word z_said z_isRaining h; unfold m_swaps_l93 at h; cases h
  | succ n ih =>
    intro x3 x4 x5 x6 z_stack z_top z_word z_said z_isRaining h
    unfold m_swaps_l93 at h
    refine r_iload 6 dX12_swaps_93 rfl ?_
    refine r_aload_n 0 dX12_swaps_95 rfl ?_
    refine gM_said rfl dX12_swaps_96 ?_
    refine r_iconst (x := (3 : Int32)) dX12_swaps_99 (by decide) ?_
    obtain ⟨h12, h⟩ := rq_some h
    refine lM_said (inb_in h12) dX12_swaps_100 ?_
    refine r_icmp_ge 163 dX12_swaps_101 (by decide) (fun c13 => ?_) (fun c13 => ?_)
    · replace h := it_pos c13 h
      refine r_iload_n 2 dX12_swaps_163 rfl ?_
      refine r_if_ne 171 dX12_swaps_164 (by decide) (fun c14 => ?_) (fun c14 => ?_)
      · replace h := it_neg c14 h
        refine r_iload_n 2 dX12_swaps_171 rfl ?_
        refine r_iconst (x := (1 : Int32)) dX12_swaps_172 (by decide) ?_
        refine r_icmp_ne 181 dX12_swaps_173 (by decide) (fun c15 => ?_) (fun c15 => ?_)
        · replace h := it_neg c15 h
          refine r_iload 5 dX12_swaps_181 rfl ?_
          have hq := Option.some.inj h
          subst hq
          exact r_iret rfl dX12_swaps_183
        · replace h := it_pos c15 h
          refine r_iload 4 dX12_swaps_176 rfl ?_
          refine r_goto 183 dX12_swaps_178 (by decide) ?_
          have hq := Option.some.inj h
          subst hq
          exact r_iret rfl dX12_swaps_183
      · replace h := it_pos c14 h
        refine r_iload_n 3 dX12_swaps_167 rfl ?_
        refine r_goto 183 dX12_swaps_168 (by decide) ?_
        have hq := Option.some.inj h
        subst hq
        exact r_iret rfl dX12_swaps_183
    · replace h := it_neg c13 h
      refine r_iload 6 dX12_swaps_104 rfl ?_
      refine r_iconst (x := (1 : Int32)) dX12_swaps_106 (by decide) ?_
      refine r_iadd dX12_swaps_107 ?_
      obtain ⟨y16, e16, h⟩ := lt_some h
      refine r_top e16 ?_
      refine r_istore (lv' := [(7, .int y16), (0, .ref (ad 0)), (1, .int x1), (2, .int x2), (3, .int x3), (4, .int x4), (5, .int x5), (6, .int x6)]) dX12_swaps_108 (by decide) rfl ?_
      refine r_sub (lv' := [(0, .ref (ad 0)), (1, .int x1), (2, .int x2), (3, .int x3), (4, .int x4), (5, .int x5), (6, .int x6), (7, .int y16)]) [1, 2, 3, 4, 5, 6, 7, 0] rfl ?_
      exact cm_swaps_l110 (ih) FU _ _ _ _ _ _ _ _ _ h
def m_swaps_l56 (z_sign : Nat → Int32) (z_clause : Nat → Int32) (z_clauses : Nat → Int32) (z_stack : Nat → Int64) (z_top : Int32) (z_word : Nat → Int64) (z_said : Nat → Int32) (z_force : Int32) (z_absent : Int32) (z_isRaining : Int32) (z_kept : Nat → Int32) (x1 : Int32) (x2 : Int32) (x3 : Int32) (x4 : Int32) (x5 : Int32) : Nat → Int32 → (Nat → Int32) → Option (Int32 × (Nat → Int64) × Int32 × (Nat → Int64) × (Nat → Int32) × Int32 × (Nat → Int32) × (Nat → Int32))
  | 0, _, _ => none
  | n + 1, x6, z_wealthThen => rq (inb (3 : Int32) 156) ((if (z_said (3 : Int32).toNatClampNeg) ≤ x6 then (m_laysBack z_said z_kept).bind (fun q11 => m_swaps_l93 z_sign z_clause z_clauses z_force z_absent z_kept z_wealthThen x1 x2 FU x3 x4 x5 (0 : Int32) z_stack z_top z_word q11 z_isRaining) else (m_wealthOf x6 z_said).bind (fun q22 => rq (inb x6 6) (lt (upd z_wealthThen x6.toNatClampNeg q22) (fun u23 => m_swaps_l56 z_sign z_clause z_clauses z_stack z_top z_word z_said z_force z_absent z_isRaining z_kept x1 x2 x3 x4 x5 n (x6 + (1 : Int32)) u23)))))
set_option maxRecDepth 20000 in
theorem cm_swaps_l56 {q : Int32 × (Nat → Int64) × Int32 × (Nat → Int64) × (Nat → Int32) × Int32 × (Nat → Int32) × (Nat → Int32)} {x1 : Int32} {x2 : Int32} {x3 : Int32} {x4 : Int32} {x5 : Int32}  : ∀ (n : Nat) (x6 : Int32) (z_wealthThen : Nat → Int32), m_swaps_l56 z_sign z_clause z_clauses z_stack z_top z_word z_said z_force z_absent z_isRaining z_kept x1 x2 x3 x4 x5 n x6 z_wealthThen = some q → rW l D Z (ty7 K) Mm_swaps 56 [(0, .ref (ad 0)), (1, .int x1), (2, .int x2), (3, .int x3), (4, .int x4), (5, .int x5), (6, .int x6)] [] (wM K ad z_tape z_taped z_rules z_sign z_length z_clause z_clauses z_read z_next z_wrong z_number z_text z_made z_deep z_lines z_open z_opened z_stack z_top z_word z_said z_force z_x z_absent z_isRaining z_wasSaid z_undone z_kept z_order z_bestOrder z_hasBy z_wealthThen z_isFit z_tillThen z_drawX z_images z_imageForce z_imageX z_isMade) (wM K ad z_tape z_taped z_rules z_sign z_length z_clause z_clauses z_read z_next z_wrong z_number z_text z_made z_deep z_lines z_open z_opened q.2.1 q.2.2.1 q.2.2.2.1 q.2.2.2.2.1 z_force z_x z_absent q.2.2.2.2.2.1 z_wasSaid z_undone q.2.2.2.2.2.2.1 z_order z_bestOrder z_hasBy q.2.2.2.2.2.2.2 z_isFit z_tillThen z_drawX z_images z_imageForce z_imageX z_isMade) (some (.int q.1)) := by
  intro n
  induction n with
  | zero => intro x6 z_wealthThen h; unfold m_swaps_l56 at h; cases h
  | succ n ih =>
    intro x6 z_wealthThen h
    unfold m_swaps_l56 at h
    refine r_iload 6 dX12_swaps_56 rfl ?_
    refine r_aload_n 0 dX12_swaps_58 rfl ?_
    refine gM_said rfl dX12_swaps_59 ?_
    refine r_iconst (x := (3 : Int32)) dX12_swaps_62 (by decide) ?_
    obtain ⟨h9, h⟩ := rq_some h
    refine lM_said (inb_in h9) dX12_swaps_63 ?_
    refine r_icmp_ge 86 dX12_swaps_64 (by decide) (fun c10 => ?_) (fun c10 => ?_)
    · replace h := it_pos c10 h
      refine r_aload_n 0 dX12_swaps_86 rfl ?_
      obtain ⟨q11, h11, h⟩ := bd_some h
      refine cvM (st := []) (cm_laysBack h11) rfl rfl (Nat.le_of_ble_eq_true rfl) km_laysBack (tb_in (i := 27) (j := 3) rfl rfl) (by decide) rfl dX12_swaps_87 ?_
      refine r_iconst (x := (0 : Int32)) dX12_swaps_90 (by decide) ?_
      refine r_istore (lv' := [(6, .int (0 : Int32)), (0, .ref (ad 0)), (1, .int x1), (2, .int x2), (3, .int x3), (4, .int x4), (5, .int x5)]) dX12_swaps_91 (by decide) rfl ?_
      refine r_sub (lv' := [(0, .ref (ad 0)), (1, .int x1), (2, .int x2), (3, .int x3), (4, .int x4), (5, .int x5), (6, .int (0 : Int32))]) [1, 2, 3, 4, 5, 6, 0] rfl ?_
      exact cm_swaps_l93  FU _ _ _ _ _ _ _ _ _ h
    · replace h := it_neg c10 h
      refine r_aload_n 0 dX12_swaps_67 rfl ?_
      refine gM_wealthThen rfl dX12_swaps_68 ?_
      refine r_iload 6 dX12_swaps_71 rfl ?_
      refine r_aload_n 0 dX12_swaps_73 rfl ?_
      refine r_iload 6 dX12_swaps_74 rfl ?_
      obtain ⟨q22, h22, h⟩ := bd_some h
      refine cvM (st := [.int x6, .ref (ad 16)]) (cm_wealthOf h22) rfl rfl (Nat.le_of_ble_eq_true rfl) km_wealthOf (tb_in (i := 27) (j := 0) rfl rfl) (by decide) rfl dX12_swaps_76 ?_
      obtain ⟨h23, h⟩ := rq_some h
      obtain ⟨u23, e23, h⟩ := lt_some h
      refine sM_wealthThen e23 (inb_in h23) dX12_swaps_79 ?_
      refine r_iinc (y := (x6 + (1 : Int32))) (lv' := [(6, .int (x6 + (1 : Int32))), (0, .ref (ad 0)), (1, .int x1), (2, .int x2), (3, .int x3), (4, .int x4), (5, .int x5)]) 6 dX12_swaps_80 rfl rfl (by decide) rfl ?_
      refine r_goto 56 dX12_swaps_83 (by decide) ?_
      refine r_sub (lv' := [(0, .ref (ad 0)), (1, .int x1), (2, .int x2), (3, .int x3), (4, .int x4), (5, .int x5), (6, .int (x6 + (1 : Int32)))]) [1, 2, 3, 4, 5, 6, 0] rfl ?_
      exact ih _ _ h
def m_swaps (x1 : Int32) (x2 : Int32) (z_sign : Nat → Int32) (z_clause : Nat → Int32) (z_clauses : Nat → Int32) (z_stack : Nat → Int64) (z_top : Int32) (z_word : Nat → Int64) (z_said : Nat → Int32) (z_force : Int32) (z_absent : Int32) (z_isRaining : Int32) (z_kept : Nat → Int32) (z_wealthThen : Nat → Int32) : Option (Int32 × (Nat → Int64) × Int32 × (Nat → Int64) × (Nat → Int32) × Int32 × (Nat → Int32) × (Nat → Int32)) := (m_isFair z_said).bind (fun q1 => (if q1 = 0 then some ((-1 : Int32), z_stack, z_top, z_word, z_said, z_isRaining, z_kept, z_wealthThen) else (m_in (x1.toInt64) (1 : Int64) (40 : Int64)).bind (fun q3 => (if q3 = 0 then some ((-1 : Int32), z_stack, z_top, z_word, z_said, z_isRaining, z_kept, z_wealthThen) else (m_in (x2.toInt64) (0 : Int64) (2 : Int64)).bind (fun q5 => (if q5 = 0 then some ((-1 : Int32), z_stack, z_top, z_word, z_said, z_isRaining, z_kept, z_wealthThen) else (m_keeps z_said z_kept).bind (fun q7 => (m_passesAll x1 z_sign z_clause z_clauses z_stack z_top z_word z_said z_force z_absent z_isRaining).bind (fun q8 => m_swaps_l56 z_sign z_clause z_clauses q8.2.1 q8.2.2.1 q8.2.2.2.1 q8.2.2.2.2.1 z_force z_absent q8.2.2.2.2.2 q7 x1 x2 (0 : Int32) (-2 : Int32) (-2 : Int32) FU (0 : Int32) z_wealthThen))))))))
set_option maxRecDepth 20000 in
theorem cm_swaps {q : Int32 × (Nat → Int64) × Int32 × (Nat → Int64) × (Nat → Int32) × Int32 × (Nat → Int32) × (Nat → Int32)} {x1 : Int32} {x2 : Int32} (h : m_swaps x1 x2 z_sign z_clause z_clauses z_stack z_top z_word z_said z_force z_absent z_isRaining z_kept z_wealthThen = some q) : rMet l D Z (ty7 K) Mm_swaps [.ref (ad 0), .int x1, .int x2] (wM K ad z_tape z_taped z_rules z_sign z_length z_clause z_clauses z_read z_next z_wrong z_number z_text z_made z_deep z_lines z_open z_opened z_stack z_top z_word z_said z_force z_x z_absent z_isRaining z_wasSaid z_undone z_kept z_order z_bestOrder z_hasBy z_wealthThen z_isFit z_tillThen z_drawX z_images z_imageForce z_imageX z_isMade) (wM K ad z_tape z_taped z_rules z_sign z_length z_clause z_clauses z_read z_next z_wrong z_number z_text z_made z_deep z_lines z_open z_opened q.2.1 q.2.2.1 q.2.2.2.1 q.2.2.2.2.1 z_force z_x z_absent q.2.2.2.2.2.1 z_wasSaid z_undone q.2.2.2.2.2.2.1 z_order z_bestOrder z_hasBy q.2.2.2.2.2.2.2 z_isFit z_tillThen z_drawX z_images z_imageForce z_imageX z_isMade) (some (.int q.1)) := by
  refine rMet.of (by decide) rfl (Nat.le_of_ble_eq_true rfl) ?_
  refine r_sub (lv' := [(0, .ref (ad 0)), (1, .int x1), (2, .int x2)]) [0, 1, 2] rfl ?_
  unfold m_swaps at h
  refine r_aload_n 0 dX12_swaps_0 rfl ?_
  obtain ⟨q1, h1, h⟩ := bd_some h
  refine cvM (st := []) (cm_isFair h1) rfl rfl (Nat.le_of_ble_eq_true rfl) km_isFair (tb_in (i := 26) (j := 2) rfl rfl) (by decide) rfl dX12_swaps_1 ?_
  refine r_if_eq 31 dX12_swaps_4 (by decide) (fun c2 => ?_) (fun c2 => ?_)
  · replace h := it_pos c2 h
    refine r_iconst (x := (-1 : Int32)) dX12_swaps_31 (by decide) ?_
    have hq := Option.some.inj h
    subst hq
    exact r_iret rfl dX12_swaps_32
  · replace h := it_neg c2 h
    refine r_iload_n 1 dX12_swaps_7 rfl ?_
    refine r_i2l dX12_swaps_8 ?_
    refine r_lconst (x := (1 : Int64)) dX12_swaps_9 (by decide) ?_
    refine r_ldc2 (x := (40 : Int64)) (tb_in (i := 26) (j := 19) rfl rfl) dX12_swaps_10 ?_
    obtain ⟨q3, h3, h⟩ := bd_some h
    refine r_callS (st := []) (cm_in h3) rfl rfl (Nat.le_of_ble_eq_true rfl) km_in (tb_in (i := 18) (j := 20) rfl rfl) (by decide) dX12_swaps_13 ?_
    refine r_if_eq 31 dX12_swaps_16 (by decide) (fun c4 => ?_) (fun c4 => ?_)
    · replace h := it_pos c4 h
      refine r_iconst (x := (-1 : Int32)) dX12_swaps_31 (by decide) ?_
      have hq := Option.some.inj h
      subst hq
      exact r_iret rfl dX12_swaps_32
    · replace h := it_neg c4 h
      refine r_iload_n 2 dX12_swaps_19 rfl ?_
      refine r_i2l dX12_swaps_20 ?_
      refine r_lconst (x := (0 : Int64)) dX12_swaps_21 (by decide) ?_
      refine r_ldc2 (x := (2 : Int64)) (tb_in (i := 24) (j := 23) rfl rfl) dX12_swaps_22 ?_
      obtain ⟨q5, h5, h⟩ := bd_some h
      refine r_callS (st := []) (cm_in h5) rfl rfl (Nat.le_of_ble_eq_true rfl) km_in (tb_in (i := 18) (j := 20) rfl rfl) (by decide) dX12_swaps_25 ?_
      refine r_if_ne 33 dX12_swaps_28 (by decide) (fun c6 => ?_) (fun c6 => ?_)
      · replace h := it_neg c6 h
        refine r_iconst (x := (0 : Int32)) dX12_swaps_33 (by decide) ?_
        refine r_istore_n (lv' := [(3, .int (0 : Int32)), (0, .ref (ad 0)), (1, .int x1), (2, .int x2)]) dX12_swaps_34 (by decide) rfl ?_
        refine r_bipush (x := (-2 : Int32)) dX12_swaps_35 (by decide) ?_
        refine r_istore (lv' := [(4, .int (-2 : Int32)), (3, .int (0 : Int32)), (0, .ref (ad 0)), (1, .int x1), (2, .int x2)]) dX12_swaps_37 (by decide) rfl ?_
        refine r_bipush (x := (-2 : Int32)) dX12_swaps_39 (by decide) ?_
        refine r_istore (lv' := [(5, .int (-2 : Int32)), (4, .int (-2 : Int32)), (3, .int (0 : Int32)), (0, .ref (ad 0)), (1, .int x1), (2, .int x2)]) dX12_swaps_41 (by decide) rfl ?_
        refine r_aload_n 3 dX12_swaps_43 rfl ?_
        obtain ⟨q7, h7, h⟩ := bd_some h
        refine cvM (st := []) (cm_keeps h7) rfl rfl (Nat.le_of_ble_eq_true rfl) km_keeps (tb_in (i := 26) (j := 26) rfl rfl) (by decide) rfl dX12_swaps_44 ?_
        refine r_aload_n 3 dX12_swaps_47 rfl ?_
        refine r_iload_n 4 dX12_swaps_48 rfl ?_
        obtain ⟨q8, h8, h⟩ := bd_some h
        refine cvM (st := []) (cm_passesAll h8) rfl rfl (Nat.le_of_ble_eq_true rfl) km_passesAll (tb_in (i := 26) (j := 29) rfl rfl) (by decide) rfl dX12_swaps_49 ?_
        refine r_pop dX12_swaps_52 rfl ?_
        refine r_iconst (x := (0 : Int32)) dX12_swaps_53 (by decide) ?_
        refine r_istore (lv' := [(6, .int (0 : Int32)), (5, .int (-2 : Int32)), (4, .int (-2 : Int32)), (3, .int (0 : Int32)), (0, .ref (ad 0)), (1, .int x1), (2, .int x2)]) dX12_swaps_54 (by decide) rfl ?_
        refine r_sub (lv' := [(0, .ref (ad 0)), (1, .int x1), (2, .int x2), (3, .int (0 : Int32)), (4, .int (-2 : Int32)), (5, .int (-2 : Int32)), (6, .int (0 : Int32))]) [4, 5, 6, 3, 2, 1, 0] rfl ?_
        exact cm_swaps_l56  FU _ _ h
      · replace h := it_pos c6 h
        refine r_iconst (x := (-1 : Int32)) dX12_swaps_31 (by decide) ?_
        have hq := Option.some.inj h
        subst hq
        exact r_iret rfl dX12_swaps_32
theorem dX12_pence_0 : decode cX12_pence 0 = .ok (.aload_n 0, 1) := by decide +kernel
theorem dX12_pence_1 : decode cX12_pence 1 = .ok (.iload_n 2, 1) := by decide +kernel
theorem dX12_pence_2 : decode cX12_pence 2 = .ok (.invokevirtual 311, 3) := by decide +kernel
theorem dX12_pence_5 : decode cX12_pence 5 = .ok (.ifCond .eq 15, 3) := by decide +kernel
theorem dX12_pence_8 : decode cX12_pence 8 = .ok (.iload_n 1, 1) := by decide +kernel
theorem dX12_pence_9 : decode cX12_pence 9 = .ok (.i2l, 1) := by decide +kernel
theorem dX12_pence_10 : decode cX12_pence 10 = .ok (.lconst 0, 1) := by decide +kernel
theorem dX12_pence_11 : decode cX12_pence 11 = .ok (.ldc2_w 426, 3) := by decide +kernel
theorem dX12_pence_14 : decode cX12_pence 14 = .ok (.invokestatic 124, 3) := by decide +kernel
theorem dX12_pence_17 : decode cX12_pence 17 = .ok (.ifCond .ne 5, 3) := by decide +kernel
theorem dX12_pence_20 : decode cX12_pence 20 = .ok (.iconst (-1), 1) := by decide +kernel
theorem dX12_pence_21 : decode cX12_pence 21 = .ok (.ireturn, 1) := by decide +kernel
theorem dX12_pence_22 : decode cX12_pence 22 = .ok (.aload_n 0, 1) := by decide +kernel
theorem dX12_pence_23 : decode cX12_pence 23 = .ok (.iconst 3, 1) := by decide +kernel
theorem dX12_pence_24 : decode cX12_pence 24 = .ok (.invokevirtual 428, 3) := by decide +kernel
theorem dX12_pence_27 : decode cX12_pence 27 = .ok (.istore_n 3, 1) := by decide +kernel
theorem dX12_pence_28 : decode cX12_pence 28 = .ok (.iload_n 3, 1) := by decide +kernel
theorem dX12_pence_29 : decode cX12_pence 29 = .ok (.ifCond .ne 5, 3) := by decide +kernel
theorem dX12_pence_32 : decode cX12_pence 32 = .ok (.iconst 0, 1) := by decide +kernel
theorem dX12_pence_33 : decode cX12_pence 33 = .ok (.ireturn, 1) := by decide +kernel
theorem dX12_pence_34 : decode cX12_pence 34 = .ok (.iload_n 1, 1) := by decide +kernel
theorem dX12_pence_35 : decode cX12_pence 35 = .ok (.aload_n 0, 1) := by decide +kernel
theorem dX12_pence_36 : decode cX12_pence 36 = .ok (.iload_n 2, 1) := by decide +kernel
theorem dX12_pence_37 : decode cX12_pence 37 = .ok (.invokevirtual 382, 3) := by decide +kernel
theorem dX12_pence_40 : decode cX12_pence 40 = .ok (.imul, 1) := by decide +kernel
theorem dX12_pence_41 : decode cX12_pence 41 = .ok (.istore 4, 2) := by decide +kernel
theorem dX12_pence_43 : decode cX12_pence 43 = .ok (.iload_n 1, 1) := by decide +kernel
theorem dX12_pence_44 : decode cX12_pence 44 = .ok (.istore 5, 2) := by decide +kernel
theorem dX12_pence_46 : decode cX12_pence 46 = .ok (.iconst 0, 1) := by decide +kernel
theorem dX12_pence_47 : decode cX12_pence 47 = .ok (.istore 6, 2) := by decide +kernel
theorem dX12_pence_49 : decode cX12_pence 49 = .ok (.iconst 0, 1) := by decide +kernel
theorem dX12_pence_50 : decode cX12_pence 50 = .ok (.istore 7, 2) := by decide +kernel
theorem dX12_pence_52 : decode cX12_pence 52 = .ok (.iload 7, 2) := by decide +kernel
theorem dX12_pence_54 : decode cX12_pence 54 = .ok (.aload_n 0, 1) := by decide +kernel
theorem dX12_pence_55 : decode cX12_pence 55 = .ok (.getfield 39, 3) := by decide +kernel
theorem dX12_pence_58 : decode cX12_pence 58 = .ok (.iconst 3, 1) := by decide +kernel
theorem dX12_pence_59 : decode cX12_pence 59 = .ok (.iaload, 1) := by decide +kernel
theorem dX12_pence_60 : decode cX12_pence 60 = .ok (.if_icmp .ge 66, 3) := by decide +kernel
theorem dX12_pence_63 : decode cX12_pence 63 = .ok (.iload_n 1, 1) := by decide +kernel
theorem dX12_pence_64 : decode cX12_pence 64 = .ok (.aload_n 0, 1) := by decide +kernel
theorem dX12_pence_65 : decode cX12_pence 65 = .ok (.iload 7, 2) := by decide +kernel
theorem dX12_pence_67 : decode cX12_pence 67 = .ok (.invokevirtual 382, 3) := by decide +kernel
theorem dX12_pence_70 : decode cX12_pence 70 = .ok (.imul, 1) := by decide +kernel
theorem dX12_pence_71 : decode cX12_pence 71 = .ok (.istore 8, 2) := by decide +kernel
theorem dX12_pence_73 : decode cX12_pence 73 = .ok (.iload 5, 2) := by decide +kernel
theorem dX12_pence_75 : decode cX12_pence 75 = .ok (.iload 8, 2) := by decide +kernel
theorem dX12_pence_77 : decode cX12_pence 77 = .ok (.iload_n 3, 1) := by decide +kernel
theorem dX12_pence_78 : decode cX12_pence 78 = .ok (.idiv, 1) := by decide +kernel
theorem dX12_pence_79 : decode cX12_pence 79 = .ok (.isub, 1) := by decide +kernel
theorem dX12_pence_80 : decode cX12_pence 80 = .ok (.istore 5, 2) := by decide +kernel
theorem dX12_pence_82 : decode cX12_pence 82 = .ok (.iload 6, 2) := by decide +kernel
theorem dX12_pence_84 : decode cX12_pence 84 = .ok (.iload 8, 2) := by decide +kernel
theorem dX12_pence_86 : decode cX12_pence 86 = .ok (.iload_n 3, 1) := by decide +kernel
theorem dX12_pence_87 : decode cX12_pence 87 = .ok (.irem, 1) := by decide +kernel
theorem dX12_pence_88 : decode cX12_pence 88 = .ok (.iload 4, 2) := by decide +kernel
theorem dX12_pence_90 : decode cX12_pence 90 = .ok (.iload_n 3, 1) := by decide +kernel
theorem dX12_pence_91 : decode cX12_pence 91 = .ok (.irem, 1) := by decide +kernel
theorem dX12_pence_92 : decode cX12_pence 92 = .ok (.if_icmp .gt 20, 3) := by decide +kernel
theorem dX12_pence_95 : decode cX12_pence 95 = .ok (.iload 8, 2) := by decide +kernel
theorem dX12_pence_97 : decode cX12_pence 97 = .ok (.iload_n 3, 1) := by decide +kernel
theorem dX12_pence_98 : decode cX12_pence 98 = .ok (.irem, 1) := by decide +kernel
theorem dX12_pence_99 : decode cX12_pence 99 = .ok (.iload 4, 2) := by decide +kernel
theorem dX12_pence_101 : decode cX12_pence 101 = .ok (.iload_n 3, 1) := by decide +kernel
theorem dX12_pence_102 : decode cX12_pence 102 = .ok (.irem, 1) := by decide +kernel
theorem dX12_pence_103 : decode cX12_pence 103 = .ok (.if_icmp .ne 13, 3) := by decide +kernel
theorem dX12_pence_106 : decode cX12_pence 106 = .ok (.iload 7, 2) := by decide +kernel
theorem dX12_pence_108 : decode cX12_pence 108 = .ok (.iload_n 2, 1) := by decide +kernel
theorem dX12_pence_109 : decode cX12_pence 109 = .ok (.if_icmp .ge 7, 3) := by decide +kernel
theorem dX12_pence_112 : decode cX12_pence 112 = .ok (.iconst 1, 1) := by decide +kernel
theorem dX12_pence_113 : decode cX12_pence 113 = .ok (.goto 4, 3) := by decide +kernel
theorem dX12_pence_116 : decode cX12_pence 116 = .ok (.iconst 0, 1) := by decide +kernel
theorem dX12_pence_117 : decode cX12_pence 117 = .ok (.iadd, 1) := by decide +kernel
theorem dX12_pence_118 : decode cX12_pence 118 = .ok (.istore 6, 2) := by decide +kernel
theorem dX12_pence_120 : decode cX12_pence 120 = .ok (.iinc 7 1, 3) := by decide +kernel
theorem dX12_pence_123 : decode cX12_pence 123 = .ok (.goto (-71), 3) := by decide +kernel
theorem dX12_pence_126 : decode cX12_pence 126 = .ok (.iload 4, 2) := by decide +kernel
theorem dX12_pence_128 : decode cX12_pence 128 = .ok (.iload_n 3, 1) := by decide +kernel
theorem dX12_pence_129 : decode cX12_pence 129 = .ok (.idiv, 1) := by decide +kernel
theorem dX12_pence_130 : decode cX12_pence 130 = .ok (.iload 6, 2) := by decide +kernel
theorem dX12_pence_132 : decode cX12_pence 132 = .ok (.iload 5, 2) := by decide +kernel
theorem dX12_pence_134 : decode cX12_pence 134 = .ok (.if_icmp .ge 7, 3) := by decide +kernel
theorem dX12_pence_137 : decode cX12_pence 137 = .ok (.iconst 1, 1) := by decide +kernel
theorem dX12_pence_138 : decode cX12_pence 138 = .ok (.goto 4, 3) := by decide +kernel
theorem dX12_pence_141 : decode cX12_pence 141 = .ok (.iconst 0, 1) := by decide +kernel
theorem dX12_pence_142 : decode cX12_pence 142 = .ok (.iadd, 1) := by decide +kernel
theorem dX12_pence_143 : decode cX12_pence 143 = .ok (.ireturn, 1) := by decide +kernel
abbrev Mm_pence : rx_M := (RX12, yX12_pence, cX12_pence, 9, (some .int), 2)
theorem km_pence : rKv Mm_pence 2 := ⟨tb_in (i := 35) (j := 10) rfl rfl, tb_in (i := 35) (j := 11) rfl rfl, tb_in (i := 17) (j := 21) rfl rfl, tb_in (i := 28) (j := 29) rfl rfl, ⟨by decide, by decide, by decide +kernel⟩, by decide⟩
def m_pence_l52 (z_said : Nat → Int32) (x1 : Int32) (x2 : Int32) (x3 : Int32) (x4 : Int32) : Nat → Int32 → Int32 → Int32 → Option (Int32)
  | 0, _, _, _ => none
  | n + 1, x5, x6, x7 => rq (inb (3 : Int32) 156) ((if (z_said (3 : Int32).toNatClampNeg) ≤ x7 then rq (decide (¬ x3 = 0)) ((if x5 ≤ x6 then some (((x4 / x3) + (0 : Int32))) else some (((x4 / x3) + (1 : Int32))))) else (m_wealthOf x7 z_said).bind (fun q13 => lt (x1 * q13) (fun y14 => rq (decide (¬ x3 = 0)) (lt (x5 - (y14 / x3)) (fun y16 => rq (decide (¬ x3 = 0)) (rq (decide (¬ x3 = 0)) ((if (x4 - x4 / x3 * x3) < (y14 - y14 / x3 * x3) then lt (x6 + (1 : Int32)) (fun y20 => m_pence_l52 z_said x1 x2 x3 x4 n y16 y20 (x7 + (1 : Int32))) else rq (decide (¬ x3 = 0)) (rq (decide (¬ x3 = 0)) ((if (y14 - y14 / x3 * x3) = (x4 - x4 / x3 * x3) then (if x2 ≤ x7 then lt (x6 + (0 : Int32)) (fun y26 => m_pence_l52 z_said x1 x2 x3 x4 n y16 y26 (x7 + (1 : Int32))) else lt (x6 + (1 : Int32)) (fun y27 => m_pence_l52 z_said x1 x2 x3 x4 n y16 y27 (x7 + (1 : Int32)))) else lt (x6 + (0 : Int32)) (fun y24 => m_pence_l52 z_said x1 x2 x3 x4 n y16 y24 (x7 + (1 : Int32)))))))))))))))
set_option maxRecDepth 20000 in
theorem cm_pence_l52 {q : Int32} {x1 : Int32} {x2 : Int32} {x3 : Int32} {x4 : Int32}  : ∀ (n : Nat) (x5 : Int32) (x6 : Int32) (x7 : Int32), m_pence_l52 z_said x1 x2 x3 x4 n x5 x6 x7 = some q → rW l D Z (ty7 K) Mm_pence 52 [(0, .ref (ad 0)), (1, .int x1), (2, .int x2), (3, .int x3), (4, .int x4), (5, .int x5), (6, .int x6), (7, .int x7)] [] (wM K ad z_tape z_taped z_rules z_sign z_length z_clause z_clauses z_read z_next z_wrong z_number z_text z_made z_deep z_lines z_open z_opened z_stack z_top z_word z_said z_force z_x z_absent z_isRaining z_wasSaid z_undone z_kept z_order z_bestOrder z_hasBy z_wealthThen z_isFit z_tillThen z_drawX z_images z_imageForce z_imageX z_isMade) (wM K ad z_tape z_taped z_rules z_sign z_length z_clause z_clauses z_read z_next z_wrong z_number z_text z_made z_deep z_lines z_open z_opened z_stack z_top z_word z_said z_force z_x z_absent z_isRaining z_wasSaid z_undone z_kept z_order z_bestOrder z_hasBy z_wealthThen z_isFit z_tillThen z_drawX z_images z_imageForce z_imageX z_isMade) (some (.int q)) := by
  intro n
  induction n with
  | zero => intro x5 x6 x7 h; unfold m_pence_l52 at h; cases h
  | succ n ih =>
    intro x5 x6 x7 h
    unfold m_pence_l52 at h
    refine r_iload 7 dX12_pence_52 rfl ?_
    refine r_aload_n 0 dX12_pence_54 rfl ?_
    refine gM_said rfl dX12_pence_55 ?_
    refine r_iconst (x := (3 : Int32)) dX12_pence_58 (by decide) ?_
    obtain ⟨h9, h⟩ := rq_some h
    refine lM_said (inb_in h9) dX12_pence_59 ?_
    refine r_icmp_ge 126 dX12_pence_60 (by decide) (fun c10 => ?_) (fun c10 => ?_)
    · replace h := it_pos c10 h
      refine r_iload 4 dX12_pence_126 rfl ?_
      refine r_iload_n 3 dX12_pence_128 rfl ?_
      obtain ⟨h11, h⟩ := rq_some h
      refine r_idiv dX12_pence_129 (of_decide_eq_true h11) ?_
      refine r_iload 6 dX12_pence_130 rfl ?_
      refine r_iload 5 dX12_pence_132 rfl ?_
      refine r_icmp_ge 141 dX12_pence_134 (by decide) (fun c12 => ?_) (fun c12 => ?_)
      · replace h := it_pos c12 h
        refine r_iconst (x := (0 : Int32)) dX12_pence_141 (by decide) ?_
        refine r_iadd dX12_pence_142 ?_
        have hq := Option.some.inj h
        subst hq
        exact r_iret rfl dX12_pence_143
      · replace h := it_neg c12 h
        refine r_iconst (x := (1 : Int32)) dX12_pence_137 (by decide) ?_
        refine r_goto 142 dX12_pence_138 (by decide) ?_
        refine r_iadd dX12_pence_142 ?_
        have hq := Option.some.inj h
        subst hq
        exact r_iret rfl dX12_pence_143
    · replace h := it_neg c10 h
      refine r_iload_n 1 dX12_pence_63 rfl ?_
      refine r_aload_n 0 dX12_pence_64 rfl ?_
      refine r_iload 7 dX12_pence_65 rfl ?_
      obtain ⟨q13, h13, h⟩ := bd_some h
      refine cvM (st := [.int x1]) (cm_wealthOf h13) rfl rfl (Nat.le_of_ble_eq_true rfl) km_wealthOf (tb_in (i := 27) (j := 0) rfl rfl) (by decide) rfl dX12_pence_67 ?_
      refine r_imul dX12_pence_70 ?_
      obtain ⟨y14, e14, h⟩ := lt_some h
      refine r_top e14 ?_
      refine r_istore (lv' := [(8, .int y14), (0, .ref (ad 0)), (1, .int x1), (2, .int x2), (3, .int x3), (4, .int x4), (5, .int x5), (6, .int x6), (7, .int x7)]) dX12_pence_71 (by decide) rfl ?_
      refine r_iload 6 dX12_pence_73 rfl ?_
      refine r_iload 0 dX12_pence_75 rfl ?_
      refine r_iload_n 4 dX12_pence_77 rfl ?_
      obtain ⟨h15, h⟩ := rq_some h
      refine r_idiv dX12_pence_78 (of_decide_eq_true h15) ?_
      refine r_isub dX12_pence_79 ?_
      obtain ⟨y16, e16, h⟩ := lt_some h
      refine r_top e16 ?_
      refine r_istore (lv' := [(5, .int y16), (8, .int y14), (0, .ref (ad 0)), (1, .int x1), (2, .int x2), (3, .int x3), (4, .int x4), (6, .int x6), (7, .int x7)]) dX12_pence_80 (by decide) rfl ?_
      refine r_iload 7 dX12_pence_82 rfl ?_
      refine r_iload 1 dX12_pence_84 rfl ?_
      refine r_iload_n 5 dX12_pence_86 rfl ?_
      obtain ⟨h17, h⟩ := rq_some h
      refine r_irem dX12_pence_87 (of_decide_eq_true h17) ?_
      refine r_iload 6 dX12_pence_88 rfl ?_
      refine r_iload_n 5 dX12_pence_90 rfl ?_
      obtain ⟨h18, h⟩ := rq_some h
      refine r_irem dX12_pence_91 (of_decide_eq_true h18) ?_
      refine r_icmp_gt 112 dX12_pence_92 (by decide) (fun c19 => ?_) (fun c19 => ?_)
      · replace h := it_pos c19 h
        refine r_iconst (x := (1 : Int32)) dX12_pence_112 (by decide) ?_
        refine r_goto 117 dX12_pence_113 (by decide) ?_
        refine r_iadd dX12_pence_117 ?_
        obtain ⟨y20, e20, h⟩ := lt_some h
        refine r_top e20 ?_
        refine r_istore (lv' := [(6, .int y20), (5, .int y16), (8, .int y14), (0, .ref (ad 0)), (1, .int x1), (2, .int x2), (3, .int x3), (4, .int x4), (7, .int x7)]) dX12_pence_118 (by decide) rfl ?_
        refine r_iinc (y := (x7 + (1 : Int32))) (lv' := [(7, .int (x7 + (1 : Int32))), (6, .int y20), (5, .int y16), (8, .int y14), (0, .ref (ad 0)), (1, .int x1), (2, .int x2), (3, .int x3), (4, .int x4)]) 8 dX12_pence_120 rfl rfl (by decide) rfl ?_
        refine r_goto 52 dX12_pence_123 (by decide) ?_
        refine r_sub (lv' := [(0, .ref (ad 0)), (1, .int x1), (2, .int x2), (3, .int x3), (4, .int x4), (5, .int y16), (6, .int y20), (7, .int (x7 + (1 : Int32)))]) [4, 5, 6, 7, 8, 2, 1, 0] rfl ?_
        exact ih _ _ _ h
      · replace h := it_neg c19 h
        refine r_iload 1 dX12_pence_95 rfl ?_
        refine r_iload_n 5 dX12_pence_97 rfl ?_
        obtain ⟨h21, h⟩ := rq_some h
        refine r_irem dX12_pence_98 (of_decide_eq_true h21) ?_
        refine r_iload 6 dX12_pence_99 rfl ?_
        refine r_iload_n 5 dX12_pence_101 rfl ?_
        obtain ⟨h22, h⟩ := rq_some h
        refine r_irem dX12_pence_102 (of_decide_eq_true h22) ?_
        refine r_icmp_ne 116 dX12_pence_103 (by decide) (fun c23 => ?_) (fun c23 => ?_)
        · replace h := it_neg c23 h
          refine r_iconst (x := (0 : Int32)) dX12_pence_116 (by decide) ?_
          refine r_iadd dX12_pence_117 ?_
          obtain ⟨y24, e24, h⟩ := lt_some h
          refine r_top e24 ?_
          refine r_istore (lv' := [(6, .int y24), (5, .int y16), (8, .int y14), (0, .ref (ad 0)), (1, .int x1), (2, .int x2), (3, .int x3), (4, .int x4), (7, .int x7)]) dX12_pence_118 (by decide) rfl ?_
          refine r_iinc (y := (x7 + (1 : Int32))) (lv' := [(7, .int (x7 + (1 : Int32))), (6, .int y24), (5, .int y16), (8, .int y14), (0, .ref (ad 0)), (1, .int x1), (2, .int x2), (3, .int x3), (4, .int x4)]) 8 dX12_pence_120 rfl rfl (by decide) rfl ?_
          refine r_goto 52 dX12_pence_123 (by decide) ?_
          refine r_sub (lv' := [(0, .ref (ad 0)), (1, .int x1), (2, .int x2), (3, .int x3), (4, .int x4), (5, .int y16), (6, .int y24), (7, .int (x7 + (1 : Int32)))]) [4, 5, 6, 7, 8, 2, 1, 0] rfl ?_
          exact ih _ _ _ h
        · replace h := it_pos c23 h
          refine r_iload 8 dX12_pence_106 rfl ?_
          refine r_iload_n 4 dX12_pence_108 rfl ?_
          refine r_icmp_ge 116 dX12_pence_109 (by decide) (fun c25 => ?_) (fun c25 => ?_)
          · replace h := it_pos c25 h
            refine r_iconst (x := (0 : Int32)) dX12_pence_116 (by decide) ?_
            refine r_iadd dX12_pence_117 ?_
            obtain ⟨y26, e26, h⟩ := lt_some h
            refine r_top e26 ?_
            refine r_istore (lv' := [(6, .int y26), (5, .int y16), (8, .int y14), (0, .ref (ad 0)), (1, .int x1), (2, .int x2), (3, .int x3), (4, .int x4), (7, .int x7)]) dX12_pence_118 (by decide) rfl ?_
            refine r_iinc (y := (x7 + (1 : Int32))) (lv' := [(7, .int (x7 + (1 : Int32))), (6, .int y26), (5, .int y16), (8, .int y14), (0, .ref (ad 0)), (1, .int x1), (2, .int x2), (3, .int x3), (4, .int x4)]) 8 dX12_pence_120 rfl rfl (by decide) rfl ?_
            refine r_goto 52 dX12_pence_123 (by decide) ?_
            refine r_sub (lv' := [(0, .ref (ad 0)), (1, .int x1), (2, .int x2), (3, .int x3), (4, .int x4), (5, .int y16), (6, .int y26), (7, .int (x7 + (1 : Int32)))]) [4, 5, 6, 7, 8, 2, 1, 0] rfl ?_
            exact ih _ _ _ h
          · replace h := it_neg c25 h
            refine r_iconst (x := (1 : Int32)) dX12_pence_112 (by decide) ?_
            refine r_goto 117 dX12_pence_113 (by decide) ?_
            refine r_iadd dX12_pence_117 ?_
            obtain ⟨y27, e27, h⟩ := lt_some h
            refine r_top e27 ?_
            refine r_istore (lv' := [(6, .int y27), (5, .int y16), (8, .int y14), (0, .ref (ad 0)), (1, .int x1), (2, .int x2), (3, .int x3), (4, .int x4), (7, .int x7)]) dX12_pence_118 (by decide) rfl ?_
            refine r_iinc (y := (x7 + (1 : Int32))) (lv' := [(7, .int (x7 + (1 : Int32))), (6, .int y27), (5, .int y16), (8, .int y14), (0, .ref (ad 0)), (1, .int x1), (2, .int x2), (3, .int x3), (4, .int x4)]) 8 dX12_pence_120 rfl rfl (by decide) rfl ?_
            refine r_goto 52 dX12_pence_123 (by decide) ?_
            refine r_sub (lv' := [(0, .ref (ad 0)), (1, .int x1), (2, .int x2), (3, .int x3), (4, .int x4), (5, .int y16), (6, .int y27), (7, .int (x7 + (1 : Int32)))]) [4, 5, 6, 7, 8, 2, 1, 0] rfl ?_
            exact ih _ _ _ h
def m_pence (x1 : Int32) (x2 : Int32) (z_said : Nat → Int32) : Option (Int32) := (m_isStall x2 z_said).bind (fun q1 => (if q1 = 0 then some ((-1 : Int32)) else (m_in (x1.toInt64) (0 : Int64) (9999 : Int64)).bind (fun q3 => (if q3 = 0 then some ((-1 : Int32)) else (m_sumOfAll (3 : Int32) z_said).bind (fun q5 => (if q5 = 0 then some ((0 : Int32)) else (m_wealthOf x2 z_said).bind (fun q7 => lt (x1 * q7) (fun y8 => m_pence_l52 z_said x1 x2 q5 y8 FU x1 (0 : Int32) (0 : Int32)))))))))
set_option maxRecDepth 20000 in
theorem cm_pence {q : Int32} {x1 : Int32} {x2 : Int32} (h : m_pence x1 x2 z_said = some q) : rMet l D Z (ty7 K) Mm_pence [.ref (ad 0), .int x1, .int x2] (wM K ad z_tape z_taped z_rules z_sign z_length z_clause z_clauses z_read z_next z_wrong z_number z_text z_made z_deep z_lines z_open z_opened z_stack z_top z_word z_said z_force z_x z_absent z_isRaining z_wasSaid z_undone z_kept z_order z_bestOrder z_hasBy z_wealthThen z_isFit z_tillThen z_drawX z_images z_imageForce z_imageX z_isMade) (wM K ad z_tape z_taped z_rules z_sign z_length z_clause z_clauses z_read z_next z_wrong z_number z_text z_made z_deep z_lines z_open z_opened z_stack z_top z_word z_said z_force z_x z_absent z_isRaining z_wasSaid z_undone z_kept z_order z_bestOrder z_hasBy z_wealthThen z_isFit z_tillThen z_drawX z_images z_imageForce z_imageX z_isMade) (some (.int q)) := by
  refine rMet.of (by decide) rfl (Nat.le_of_ble_eq_true rfl) ?_
  refine r_sub (lv' := [(0, .ref (ad 0)), (1, .int x1), (2, .int x2)]) [0, 1, 2] rfl ?_
  unfold m_pence at h
  refine r_aload_n 0 dX12_pence_0 rfl ?_
  refine r_iload_n 2 dX12_pence_1 rfl ?_
  obtain ⟨q1, h1, h⟩ := bd_some h
  refine cvM (st := []) (cm_isStall h1) rfl rfl (Nat.le_of_ble_eq_true rfl) km_isStall (tb_in (i := 24) (j := 15) rfl rfl) (by decide) rfl dX12_pence_2 ?_
  refine r_if_eq 20 dX12_pence_5 (by decide) (fun c2 => ?_) (fun c2 => ?_)
  · replace h := it_pos c2 h
    refine r_iconst (x := (-1 : Int32)) dX12_pence_20 (by decide) ?_
    have hq := Option.some.inj h
    subst hq
    exact r_iret rfl dX12_pence_21
  · replace h := it_neg c2 h
    refine r_iload_n 1 dX12_pence_8 rfl ?_
    refine r_i2l dX12_pence_9 ?_
    refine r_lconst (x := (0 : Int64)) dX12_pence_10 (by decide) ?_
    refine r_ldc2 (x := (9999 : Int64)) (tb_in (i := 28) (j := 30) rfl rfl) dX12_pence_11 ?_
    obtain ⟨q3, h3, h⟩ := bd_some h
    refine r_callS (st := []) (cm_in h3) rfl rfl (Nat.le_of_ble_eq_true rfl) km_in (tb_in (i := 18) (j := 20) rfl rfl) (by decide) dX12_pence_14 ?_
    refine r_if_ne 22 dX12_pence_17 (by decide) (fun c4 => ?_) (fun c4 => ?_)
    · replace h := it_neg c4 h
      refine r_aload_n 0 dX12_pence_22 rfl ?_
      refine r_iconst (x := (3 : Int32)) dX12_pence_23 (by decide) ?_
      obtain ⟨q5, h5, h⟩ := bd_some h
      refine cvM (st := []) (cm_sumOfAll h5) rfl rfl (Nat.le_of_ble_eq_true rfl) km_sumOfAll (tb_in (i := 28) (j := 31) rfl rfl) (by decide) rfl dX12_pence_24 ?_
      refine r_istore_n (lv' := [(3, .int q5), (0, .ref (ad 0)), (1, .int x1), (2, .int x2)]) dX12_pence_27 (by decide) rfl ?_
      refine r_iload_n 0 dX12_pence_28 rfl ?_
      refine r_if_ne 34 dX12_pence_29 (by decide) (fun c6 => ?_) (fun c6 => ?_)
      · replace h := it_neg c6 h
        refine r_iload_n 2 dX12_pence_34 rfl ?_
        refine r_aload_n 1 dX12_pence_35 rfl ?_
        refine r_iload_n 3 dX12_pence_36 rfl ?_
        obtain ⟨q7, h7, h⟩ := bd_some h
        refine cvM (st := [.int x1]) (cm_wealthOf h7) rfl rfl (Nat.le_of_ble_eq_true rfl) km_wealthOf (tb_in (i := 27) (j := 0) rfl rfl) (by decide) rfl dX12_pence_37 ?_
        refine r_imul dX12_pence_40 ?_
        obtain ⟨y8, e8, h⟩ := lt_some h
        refine r_top e8 ?_
        refine r_istore (lv' := [(4, .int y8), (3, .int q5), (0, .ref (ad 0)), (1, .int x1), (2, .int x2)]) dX12_pence_41 (by decide) rfl ?_
        refine r_iload_n 3 dX12_pence_43 rfl ?_
        refine r_istore (lv' := [(5, .int x1), (4, .int y8), (3, .int q5), (0, .ref (ad 0)), (1, .int x1), (2, .int x2)]) dX12_pence_44 (by decide) rfl ?_
        refine r_iconst (x := (0 : Int32)) dX12_pence_46 (by decide) ?_
        refine r_istore (lv' := [(6, .int (0 : Int32)), (5, .int x1), (4, .int y8), (3, .int q5), (0, .ref (ad 0)), (1, .int x1), (2, .int x2)]) dX12_pence_47 (by decide) rfl ?_
        refine r_iconst (x := (0 : Int32)) dX12_pence_49 (by decide) ?_
        refine r_istore (lv' := [(7, .int (0 : Int32)), (6, .int (0 : Int32)), (5, .int x1), (4, .int y8), (3, .int q5), (0, .ref (ad 0)), (1, .int x1), (2, .int x2)]) dX12_pence_50 (by decide) rfl ?_
        refine r_sub (lv' := [(0, .ref (ad 0)), (1, .int x1), (2, .int x2), (3, .int q5), (4, .int y8), (5, .int x1), (6, .int (0 : Int32)), (7, .int (0 : Int32))]) [5, 6, 7, 4, 3, 2, 1, 0] rfl ?_
        exact cm_pence_l52  FU _ _ _ h
      · replace h := it_pos c6 h
        refine r_iconst (x := (0 : Int32)) dX12_pence_32 (by decide) ?_
        have hq := Option.some.inj h
        subst hq
        exact r_iret rfl dX12_pence_33
    · replace h := it_pos c4 h
      refine r_iconst (x := (-1 : Int32)) dX12_pence_20 (by decide) ?_
      have hq := Option.some.inj h
      subst hq
      exact r_iret rfl dX12_pence_21
theorem dX12_note_0 : decode cX12_note 0 = .ok (.iload_n 1, 1) := by decide +kernel
theorem dX12_note_1 : decode cX12_note 1 = .ok (.iconst (-1), 1) := by decide +kernel
theorem dX12_note_2 : decode cX12_note 2 = .ok (.if_icmp .ne 14, 3) := by decide +kernel
theorem dX12_note_5 : decode cX12_note 5 = .ok (.aload_n 0, 1) := by decide +kernel
theorem dX12_note_6 : decode cX12_note 6 = .ok (.getfield 39, 3) := by decide +kernel
theorem dX12_note_9 : decode cX12_note 9 = .ok (.sipush 155, 3) := by decide +kernel
theorem dX12_note_12 : decode cX12_note 12 = .ok (.iconst 0, 1) := by decide +kernel
theorem dX12_note_13 : decode cX12_note 13 = .ok (.iastore, 1) := by decide +kernel
theorem dX12_note_14 : decode cX12_note 14 = .ok (.iconst 0, 1) := by decide +kernel
theorem dX12_note_15 : decode cX12_note 15 = .ok (.ireturn, 1) := by decide +kernel
theorem dX12_note_16 : decode cX12_note 16 = .ok (.iload_n 1, 1) := by decide +kernel
theorem dX12_note_17 : decode cX12_note 17 = .ok (.i2l, 1) := by decide +kernel
theorem dX12_note_18 : decode cX12_note 18 = .ok (.lconst 0, 1) := by decide +kernel
theorem dX12_note_19 : decode cX12_note 19 = .ok (.ldc2_w 413, 3) := by decide +kernel
theorem dX12_note_22 : decode cX12_note 22 = .ok (.invokestatic 124, 3) := by decide +kernel
theorem dX12_note_25 : decode cX12_note 25 = .ok (.ifCond .eq 36, 3) := by decide +kernel
theorem dX12_note_28 : decode cX12_note 28 = .ok (.aload_n 0, 1) := by decide +kernel
theorem dX12_note_29 : decode cX12_note 29 = .ok (.iload_n 2, 1) := by decide +kernel
theorem dX12_note_30 : decode cX12_note 30 = .ok (.invokevirtual 311, 3) := by decide +kernel
theorem dX12_note_33 : decode cX12_note 33 = .ok (.ifCond .eq 28, 3) := by decide +kernel
theorem dX12_note_36 : decode cX12_note 36 = .ok (.iload_n 3, 1) := by decide +kernel
theorem dX12_note_37 : decode cX12_note 37 = .ok (.i2l, 1) := by decide +kernel
theorem dX12_note_38 : decode cX12_note 38 = .ok (.lconst 0, 1) := by decide +kernel
theorem dX12_note_39 : decode cX12_note 39 = .ok (.ldc2_w 426, 3) := by decide +kernel
theorem dX12_note_42 : decode cX12_note 42 = .ok (.invokestatic 124, 3) := by decide +kernel
theorem dX12_note_45 : decode cX12_note 45 = .ok (.ifCond .eq 16, 3) := by decide +kernel
theorem dX12_note_48 : decode cX12_note 48 = .ok (.aload_n 0, 1) := by decide +kernel
theorem dX12_note_49 : decode cX12_note 49 = .ok (.getfield 39, 3) := by decide +kernel
theorem dX12_note_52 : decode cX12_note 52 = .ok (.sipush 155, 3) := by decide +kernel
theorem dX12_note_55 : decode cX12_note 55 = .ok (.iaload, 1) := by decide +kernel
theorem dX12_note_56 : decode cX12_note 56 = .ok (.bipush 10, 2) := by decide +kernel
theorem dX12_note_58 : decode cX12_note 58 = .ok (.if_icmp .ne 6, 3) := by decide +kernel
theorem dX12_note_61 : decode cX12_note 61 = .ok (.bipush (-2), 2) := by decide +kernel
theorem dX12_note_63 : decode cX12_note 63 = .ok (.ireturn, 1) := by decide +kernel
theorem dX12_note_64 : decode cX12_note 64 = .ok (.bipush 125, 2) := by decide +kernel
theorem dX12_note_66 : decode cX12_note 66 = .ok (.iconst 3, 1) := by decide +kernel
theorem dX12_note_67 : decode cX12_note 67 = .ok (.aload_n 0, 1) := by decide +kernel
theorem dX12_note_68 : decode cX12_note 68 = .ok (.getfield 39, 3) := by decide +kernel
theorem dX12_note_71 : decode cX12_note 71 = .ok (.sipush 155, 3) := by decide +kernel
theorem dX12_note_74 : decode cX12_note 74 = .ok (.iaload, 1) := by decide +kernel
theorem dX12_note_75 : decode cX12_note 75 = .ok (.imul, 1) := by decide +kernel
theorem dX12_note_76 : decode cX12_note 76 = .ok (.iadd, 1) := by decide +kernel
theorem dX12_note_77 : decode cX12_note 77 = .ok (.istore 4, 2) := by decide +kernel
theorem dX12_note_79 : decode cX12_note 79 = .ok (.aload_n 0, 1) := by decide +kernel
theorem dX12_note_80 : decode cX12_note 80 = .ok (.getfield 39, 3) := by decide +kernel
theorem dX12_note_83 : decode cX12_note 83 = .ok (.iload 4, 2) := by decide +kernel
theorem dX12_note_85 : decode cX12_note 85 = .ok (.iload_n 1, 1) := by decide +kernel
theorem dX12_note_86 : decode cX12_note 86 = .ok (.iastore, 1) := by decide +kernel
theorem dX12_note_87 : decode cX12_note 87 = .ok (.aload_n 0, 1) := by decide +kernel
theorem dX12_note_88 : decode cX12_note 88 = .ok (.getfield 39, 3) := by decide +kernel
theorem dX12_note_91 : decode cX12_note 91 = .ok (.iload 4, 2) := by decide +kernel
theorem dX12_note_93 : decode cX12_note 93 = .ok (.iconst 1, 1) := by decide +kernel
theorem dX12_note_94 : decode cX12_note 94 = .ok (.iadd, 1) := by decide +kernel
theorem dX12_note_95 : decode cX12_note 95 = .ok (.iload_n 2, 1) := by decide +kernel
theorem dX12_note_96 : decode cX12_note 96 = .ok (.iastore, 1) := by decide +kernel
theorem dX12_note_97 : decode cX12_note 97 = .ok (.aload_n 0, 1) := by decide +kernel
theorem dX12_note_98 : decode cX12_note 98 = .ok (.getfield 39, 3) := by decide +kernel
theorem dX12_note_101 : decode cX12_note 101 = .ok (.iload 4, 2) := by decide +kernel
theorem dX12_note_103 : decode cX12_note 103 = .ok (.iconst 2, 1) := by decide +kernel
theorem dX12_note_104 : decode cX12_note 104 = .ok (.iadd, 1) := by decide +kernel
theorem dX12_note_105 : decode cX12_note 105 = .ok (.iload_n 3, 1) := by decide +kernel
theorem dX12_note_106 : decode cX12_note 106 = .ok (.iastore, 1) := by decide +kernel
theorem dX12_note_107 : decode cX12_note 107 = .ok (.aload_n 0, 1) := by decide +kernel
theorem dX12_note_108 : decode cX12_note 108 = .ok (.getfield 39, 3) := by decide +kernel
theorem dX12_note_111 : decode cX12_note 111 = .ok (.sipush 155, 3) := by decide +kernel
theorem dX12_note_114 : decode cX12_note 114 = .ok (.dup2, 1) := by decide +kernel
theorem dX12_note_115 : decode cX12_note 115 = .ok (.iaload, 1) := by decide +kernel
theorem dX12_note_116 : decode cX12_note 116 = .ok (.iconst 1, 1) := by decide +kernel
theorem dX12_note_117 : decode cX12_note 117 = .ok (.iadd, 1) := by decide +kernel
theorem dX12_note_118 : decode cX12_note 118 = .ok (.iastore, 1) := by decide +kernel
theorem dX12_note_119 : decode cX12_note 119 = .ok (.aload_n 0, 1) := by decide +kernel
theorem dX12_note_120 : decode cX12_note 120 = .ok (.getfield 39, 3) := by decide +kernel
theorem dX12_note_123 : decode cX12_note 123 = .ok (.sipush 155, 3) := by decide +kernel
theorem dX12_note_126 : decode cX12_note 126 = .ok (.iaload, 1) := by decide +kernel
theorem dX12_note_127 : decode cX12_note 127 = .ok (.ireturn, 1) := by decide +kernel
abbrev Mm_note : rx_M := (RX12, yX12_note, cX12_note, 5, (some .int), 2)
theorem km_note : rKv Mm_note 3 := ⟨tb_in (i := 35) (j := 16) rfl rfl, tb_in (i := 35) (j := 17) rfl rfl, tb_in (i := 17) (j := 21) rfl rfl, tb_in (i := 29) (j := 2) rfl rfl, ⟨by decide, by decide, by decide +kernel⟩, by decide⟩
def m_note (x1 : Int32) (x2 : Int32) (x3 : Int32) (z_said : Nat → Int32) : Option (Int32 × (Nat → Int32)) := (if x1 = (-1 : Int32) then rq (inb (155 : Int32) 156) (lt (upd z_said (155 : Int32).toNatClampNeg (0 : Int32)) (fun u18 => some ((0 : Int32), u18))) else (m_in (x1.toInt64) (0 : Int64) (60 : Int64)).bind (fun q2 => (if q2 = 0 then some ((-2 : Int32), z_said) else (m_isStall x2 z_said).bind (fun q4 => (if q4 = 0 then some ((-2 : Int32), z_said) else (m_in (x3.toInt64) (0 : Int64) (9999 : Int64)).bind (fun q6 => (if q6 = 0 then some ((-2 : Int32), z_said) else rq (inb (155 : Int32) 156) ((if (z_said (155 : Int32).toNatClampNeg) = (10 : Int32) then some ((-2 : Int32), z_said) else rq (inb (155 : Int32) 156) (lt ((125 : Int32) + ((3 : Int32) * (z_said (155 : Int32).toNatClampNeg))) (fun y11 => rq (inb y11 156) (lt (upd z_said y11.toNatClampNeg x1) (fun u12 => rq (inb (y11 + (1 : Int32)) 156) (lt (upd u12 (y11 + (1 : Int32)).toNatClampNeg x2) (fun u13 => rq (inb (y11 + (2 : Int32)) 156) (lt (upd u13 (y11 + (2 : Int32)).toNatClampNeg x3) (fun u14 => rq (inb (155 : Int32) 156) (rq (inb (155 : Int32) 156) (lt (upd u14 (155 : Int32).toNatClampNeg ((u14 (155 : Int32).toNatClampNeg) + (1 : Int32))) (fun u16 => rq (inb (155 : Int32) 156) (some ((u16 (155 : Int32).toNatClampNeg), u16))))))))))))))))))))))
set_option maxRecDepth 20000 in
theorem cm_note {q : Int32 × (Nat → Int32)} {x1 : Int32} {x2 : Int32} {x3 : Int32} (h : m_note x1 x2 x3 z_said = some q) : rMet l D Z (ty7 K) Mm_note [.ref (ad 0), .int x1, .int x2, .int x3] (wM K ad z_tape z_taped z_rules z_sign z_length z_clause z_clauses z_read z_next z_wrong z_number z_text z_made z_deep z_lines z_open z_opened z_stack z_top z_word z_said z_force z_x z_absent z_isRaining z_wasSaid z_undone z_kept z_order z_bestOrder z_hasBy z_wealthThen z_isFit z_tillThen z_drawX z_images z_imageForce z_imageX z_isMade) (wM K ad z_tape z_taped z_rules z_sign z_length z_clause z_clauses z_read z_next z_wrong z_number z_text z_made z_deep z_lines z_open z_opened z_stack z_top z_word q.2 z_force z_x z_absent z_isRaining z_wasSaid z_undone z_kept z_order z_bestOrder z_hasBy z_wealthThen z_isFit z_tillThen z_drawX z_images z_imageForce z_imageX z_isMade) (some (.int q.1)) := by
  refine rMet.of (by decide) rfl (Nat.le_of_ble_eq_true rfl) ?_
  refine r_sub (lv' := [(0, .ref (ad 0)), (1, .int x1), (2, .int x2), (3, .int x3)]) [0, 1, 2, 3] rfl ?_
  unfold m_note at h
  refine r_iload_n 1 dX12_note_0 rfl ?_
  refine r_iconst (x := (-1 : Int32)) dX12_note_1 (by decide) ?_
  refine r_icmp_ne 16 dX12_note_2 (by decide) (fun c1 => ?_) (fun c1 => ?_)
  · replace h := it_neg c1 h
    refine r_iload_n 1 dX12_note_16 rfl ?_
    refine r_i2l dX12_note_17 ?_
    refine r_lconst (x := (0 : Int64)) dX12_note_18 (by decide) ?_
    refine r_ldc2 (x := (60 : Int64)) (tb_in (i := 28) (j := 10) rfl rfl) dX12_note_19 ?_
    obtain ⟨q2, h2, h⟩ := bd_some h
    refine r_callS (st := []) (cm_in h2) rfl rfl (Nat.le_of_ble_eq_true rfl) km_in (tb_in (i := 18) (j := 20) rfl rfl) (by decide) dX12_note_22 ?_
    refine r_if_eq 61 dX12_note_25 (by decide) (fun c3 => ?_) (fun c3 => ?_)
    · replace h := it_pos c3 h
      refine r_bipush (x := (-2 : Int32)) dX12_note_61 (by decide) ?_
      have hq := Option.some.inj h
      subst hq
      exact r_iret rfl dX12_note_63
    · replace h := it_neg c3 h
      refine r_aload_n 0 dX12_note_28 rfl ?_
      refine r_iload_n 2 dX12_note_29 rfl ?_
      obtain ⟨q4, h4, h⟩ := bd_some h
      refine cvM (st := []) (cm_isStall h4) rfl rfl (Nat.le_of_ble_eq_true rfl) km_isStall (tb_in (i := 24) (j := 15) rfl rfl) (by decide) rfl dX12_note_30 ?_
      refine r_if_eq 61 dX12_note_33 (by decide) (fun c5 => ?_) (fun c5 => ?_)
      · replace h := it_pos c5 h
        refine r_bipush (x := (-2 : Int32)) dX12_note_61 (by decide) ?_
        have hq := Option.some.inj h
        subst hq
        exact r_iret rfl dX12_note_63
      · replace h := it_neg c5 h
        refine r_iload_n 3 dX12_note_36 rfl ?_
        refine r_i2l dX12_note_37 ?_
        refine r_lconst (x := (0 : Int64)) dX12_note_38 (by decide) ?_
        refine r_ldc2 (x := (9999 : Int64)) (tb_in (i := 28) (j := 30) rfl rfl) dX12_note_39 ?_
        obtain ⟨q6, h6, h⟩ := bd_some h
        refine r_callS (st := []) (cm_in h6) rfl rfl (Nat.le_of_ble_eq_true rfl) km_in (tb_in (i := 18) (j := 20) rfl rfl) (by decide) dX12_note_42 ?_
        refine r_if_eq 61 dX12_note_45 (by decide) (fun c7 => ?_) (fun c7 => ?_)
        · replace h := it_pos c7 h
          refine r_bipush (x := (-2 : Int32)) dX12_note_61 (by decide) ?_
          have hq := Option.some.inj h
          subst hq
          exact r_iret rfl dX12_note_63
        · replace h := it_neg c7 h
          refine r_aload_n 0 dX12_note_48 rfl ?_
          refine gM_said rfl dX12_note_49 ?_
          refine r_sipush (x := (155 : Int32)) dX12_note_52 (by decide) ?_
          obtain ⟨h8, h⟩ := rq_some h
          refine lM_said (inb_in h8) dX12_note_55 ?_
          refine r_bipush (x := (10 : Int32)) dX12_note_56 (by decide) ?_
          refine r_icmp_ne 64 dX12_note_58 (by decide) (fun c9 => ?_) (fun c9 => ?_)
          · replace h := it_neg c9 h
            refine r_bipush (x := (125 : Int32)) dX12_note_64 (by decide) ?_
            refine r_iconst (x := (3 : Int32)) dX12_note_66 (by decide) ?_
            refine r_aload_n 0 dX12_note_67 rfl ?_
            refine gM_said rfl dX12_note_68 ?_
            refine r_sipush (x := (155 : Int32)) dX12_note_71 (by decide) ?_
            obtain ⟨h10, h⟩ := rq_some h
            refine lM_said (inb_in h10) dX12_note_74 ?_
            refine r_imul dX12_note_75 ?_
            refine r_iadd dX12_note_76 ?_
            obtain ⟨y11, e11, h⟩ := lt_some h
            refine r_top e11 ?_
            refine r_istore (lv' := [(4, .int y11), (0, .ref (ad 0)), (1, .int x1), (2, .int x2), (3, .int x3)]) dX12_note_77 (by decide) rfl ?_
            refine r_aload_n 1 dX12_note_79 rfl ?_
            refine gM_said rfl dX12_note_80 ?_
            refine r_iload 0 dX12_note_83 rfl ?_
            refine r_iload_n 2 dX12_note_85 rfl ?_
            obtain ⟨h12, h⟩ := rq_some h
            obtain ⟨u12, e12, h⟩ := lt_some h
            refine sM_said e12 (inb_in h12) dX12_note_86 ?_
            refine r_aload_n 1 dX12_note_87 rfl ?_
            refine gM_said rfl dX12_note_88 ?_
            refine r_iload 0 dX12_note_91 rfl ?_
            refine r_iconst (x := (1 : Int32)) dX12_note_93 (by decide) ?_
            refine r_iadd dX12_note_94 ?_
            refine r_iload_n 3 dX12_note_95 rfl ?_
            obtain ⟨h13, h⟩ := rq_some h
            obtain ⟨u13, e13, h⟩ := lt_some h
            refine sM_said e13 (inb_in h13) dX12_note_96 ?_
            refine r_aload_n 1 dX12_note_97 rfl ?_
            refine gM_said rfl dX12_note_98 ?_
            refine r_iload 0 dX12_note_101 rfl ?_
            refine r_iconst (x := (2 : Int32)) dX12_note_103 (by decide) ?_
            refine r_iadd dX12_note_104 ?_
            refine r_iload_n 4 dX12_note_105 rfl ?_
            obtain ⟨h14, h⟩ := rq_some h
            obtain ⟨u14, e14, h⟩ := lt_some h
            refine sM_said e14 (inb_in h14) dX12_note_106 ?_
            refine r_aload_n 1 dX12_note_107 rfl ?_
            refine gM_said rfl dX12_note_108 ?_
            refine r_sipush (x := (155 : Int32)) dX12_note_111 (by decide) ?_
            refine r_dup2 dX12_note_114 rfl rfl ?_
            obtain ⟨h15, h⟩ := rq_some h
            refine lM_said (inb_in h15) dX12_note_115 ?_
            refine r_iconst (x := (1 : Int32)) dX12_note_116 (by decide) ?_
            refine r_iadd dX12_note_117 ?_
            obtain ⟨h16, h⟩ := rq_some h
            obtain ⟨u16, e16, h⟩ := lt_some h
            refine sM_said e16 (inb_in h16) dX12_note_118 ?_
            refine r_aload_n 1 dX12_note_119 rfl ?_
            refine gM_said rfl dX12_note_120 ?_
            refine r_sipush (x := (155 : Int32)) dX12_note_123 (by decide) ?_
            obtain ⟨h17, h⟩ := rq_some h
            refine lM_said (inb_in h17) dX12_note_126 ?_
            have hq := Option.some.inj h
            subst hq
            exact r_iret rfl dX12_note_127
          · replace h := it_pos c9 h
            refine r_bipush (x := (-2 : Int32)) dX12_note_61 (by decide) ?_
            have hq := Option.some.inj h
            subst hq
            exact r_iret rfl dX12_note_63
  · replace h := it_pos c1 h
    refine r_aload_n 0 dX12_note_5 rfl ?_
    refine gM_said rfl dX12_note_6 ?_
    refine r_sipush (x := (155 : Int32)) dX12_note_9 (by decide) ?_
    refine r_iconst (x := (0 : Int32)) dX12_note_12 (by decide) ?_
    obtain ⟨h18, h⟩ := rq_some h
    obtain ⟨u18, e18, h⟩ := lt_some h
    refine sM_said e18 (inb_in h18) dX12_note_13 ?_
    refine r_iconst (x := (0 : Int32)) dX12_note_14 (by decide) ?_
    have hq := Option.some.inj h
    subst hq
    exact r_iret rfl dX12_note_15
theorem dX12_areNotesSo_0 : decode cX12_areNotesSo 0 = .ok (.iconst 0, 1) := by decide +kernel
theorem dX12_areNotesSo_1 : decode cX12_areNotesSo 1 = .ok (.istore_n 2, 1) := by decide +kernel
theorem dX12_areNotesSo_2 : decode cX12_areNotesSo 2 = .ok (.iload_n 2, 1) := by decide +kernel
theorem dX12_areNotesSo_3 : decode cX12_areNotesSo 3 = .ok (.iconst 3, 1) := by decide +kernel
theorem dX12_areNotesSo_4 : decode cX12_areNotesSo 4 = .ok (.aload_n 0, 1) := by decide +kernel
theorem dX12_areNotesSo_5 : decode cX12_areNotesSo 5 = .ok (.getfield 39, 3) := by decide +kernel
theorem dX12_areNotesSo_8 : decode cX12_areNotesSo 8 = .ok (.sipush 155, 3) := by decide +kernel
theorem dX12_areNotesSo_11 : decode cX12_areNotesSo 11 = .ok (.iaload, 1) := by decide +kernel
theorem dX12_areNotesSo_12 : decode cX12_areNotesSo 12 = .ok (.imul, 1) := by decide +kernel
theorem dX12_areNotesSo_13 : decode cX12_areNotesSo 13 = .ok (.if_icmp .ge 53, 3) := by decide +kernel
theorem dX12_areNotesSo_16 : decode cX12_areNotesSo 16 = .ok (.aload_n 0, 1) := by decide +kernel
theorem dX12_areNotesSo_17 : decode cX12_areNotesSo 17 = .ok (.getfield 39, 3) := by decide +kernel
theorem dX12_areNotesSo_20 : decode cX12_areNotesSo 20 = .ok (.bipush 125, 2) := by decide +kernel
theorem dX12_areNotesSo_22 : decode cX12_areNotesSo 22 = .ok (.iload_n 2, 1) := by decide +kernel
theorem dX12_areNotesSo_23 : decode cX12_areNotesSo 23 = .ok (.iadd, 1) := by decide +kernel
theorem dX12_areNotesSo_24 : decode cX12_areNotesSo 24 = .ok (.iaload, 1) := by decide +kernel
theorem dX12_areNotesSo_25 : decode cX12_areNotesSo 25 = .ok (.iload_n 1, 1) := by decide +kernel
theorem dX12_areNotesSo_26 : decode cX12_areNotesSo 26 = .ok (.if_icmp .ne 34, 3) := by decide +kernel
theorem dX12_areNotesSo_29 : decode cX12_areNotesSo 29 = .ok (.aload_n 0, 1) := by decide +kernel
theorem dX12_areNotesSo_30 : decode cX12_areNotesSo 30 = .ok (.aload_n 0, 1) := by decide +kernel
theorem dX12_areNotesSo_31 : decode cX12_areNotesSo 31 = .ok (.getfield 39, 3) := by decide +kernel
theorem dX12_areNotesSo_34 : decode cX12_areNotesSo 34 = .ok (.bipush 125, 2) := by decide +kernel
theorem dX12_areNotesSo_36 : decode cX12_areNotesSo 36 = .ok (.iload_n 2, 1) := by decide +kernel
theorem dX12_areNotesSo_37 : decode cX12_areNotesSo 37 = .ok (.iadd, 1) := by decide +kernel
theorem dX12_areNotesSo_38 : decode cX12_areNotesSo 38 = .ok (.iconst 1, 1) := by decide +kernel
theorem dX12_areNotesSo_39 : decode cX12_areNotesSo 39 = .ok (.iadd, 1) := by decide +kernel
theorem dX12_areNotesSo_40 : decode cX12_areNotesSo 40 = .ok (.iaload, 1) := by decide +kernel
theorem dX12_areNotesSo_41 : decode cX12_areNotesSo 41 = .ok (.invokevirtual 343, 3) := by decide +kernel
theorem dX12_areNotesSo_44 : decode cX12_areNotesSo 44 = .ok (.aload_n 0, 1) := by decide +kernel
theorem dX12_areNotesSo_45 : decode cX12_areNotesSo 45 = .ok (.getfield 39, 3) := by decide +kernel
theorem dX12_areNotesSo_48 : decode cX12_areNotesSo 48 = .ok (.bipush 125, 2) := by decide +kernel
theorem dX12_areNotesSo_50 : decode cX12_areNotesSo 50 = .ok (.iload_n 2, 1) := by decide +kernel
theorem dX12_areNotesSo_51 : decode cX12_areNotesSo 51 = .ok (.iadd, 1) := by decide +kernel
theorem dX12_areNotesSo_52 : decode cX12_areNotesSo 52 = .ok (.iconst 2, 1) := by decide +kernel
theorem dX12_areNotesSo_53 : decode cX12_areNotesSo 53 = .ok (.iadd, 1) := by decide +kernel
theorem dX12_areNotesSo_54 : decode cX12_areNotesSo 54 = .ok (.iaload, 1) := by decide +kernel
theorem dX12_areNotesSo_55 : decode cX12_areNotesSo 55 = .ok (.if_icmp .eq 5, 3) := by decide +kernel
theorem dX12_areNotesSo_58 : decode cX12_areNotesSo 58 = .ok (.iconst 0, 1) := by decide +kernel
theorem dX12_areNotesSo_59 : decode cX12_areNotesSo 59 = .ok (.ireturn, 1) := by decide +kernel
theorem dX12_areNotesSo_60 : decode cX12_areNotesSo 60 = .ok (.iinc 2 3, 3) := by decide +kernel
theorem dX12_areNotesSo_63 : decode cX12_areNotesSo 63 = .ok (.goto (-61), 3) := by decide +kernel
theorem dX12_areNotesSo_66 : decode cX12_areNotesSo 66 = .ok (.iconst 1, 1) := by decide +kernel
theorem dX12_areNotesSo_67 : decode cX12_areNotesSo 67 = .ok (.ireturn, 1) := by decide +kernel
abbrev Mm_areNotesSo : rx_M := (RX12, yX12_areNotesSo, cX12_areNotesSo, 3, (some .boolean), 2)
theorem km_areNotesSo : rKv Mm_areNotesSo 1 := ⟨tb_in (i := 29) (j := 5) rfl rfl, tb_in (i := 29) (j := 6) rfl rfl, tb_in (i := 17) (j := 21) rfl rfl, tb_in (i := 29) (j := 3) rfl rfl, ⟨by decide, by decide, by decide +kernel⟩, by decide⟩
def m_areNotesSo_l2 (z_said : Nat → Int32) (x1 : Int32) : Nat → Int32 → Option (Int32)
  | 0, _ => none
  | n + 1, x2 => rq (inb (155 : Int32) 156) ((if ((3 : Int32) * (z_said (155 : Int32).toNatClampNeg)) ≤ x2 then some ((1 : Int32)) else rq (inb ((125 : Int32) + x2) 156) ((if (z_said ((125 : Int32) + x2).toNatClampNeg) = x1 then rq (inb (((125 : Int32) + x2) + (1 : Int32)) 156) ((m_tillOf (z_said (((125 : Int32) + x2) + (1 : Int32)).toNatClampNeg) z_said).bind (fun q6 => rq (inb (((125 : Int32) + x2) + (2 : Int32)) 156) ((if q6 = (z_said (((125 : Int32) + x2) + (2 : Int32)).toNatClampNeg) then m_areNotesSo_l2 z_said x1 n (x2 + (3 : Int32)) else some ((0 : Int32)))))) else m_areNotesSo_l2 z_said x1 n (x2 + (3 : Int32))))))
set_option maxRecDepth 20000 in
theorem cm_areNotesSo_l2 {q : Int32} {x1 : Int32}  : ∀ (n : Nat) (x2 : Int32), m_areNotesSo_l2 z_said x1 n x2 = some q → rW l D Z (ty7 K) Mm_areNotesSo 2 [(0, .ref (ad 0)), (1, .int x1), (2, .int x2)] [] (wM K ad z_tape z_taped z_rules z_sign z_length z_clause z_clauses z_read z_next z_wrong z_number z_text z_made z_deep z_lines z_open z_opened z_stack z_top z_word z_said z_force z_x z_absent z_isRaining z_wasSaid z_undone z_kept z_order z_bestOrder z_hasBy z_wealthThen z_isFit z_tillThen z_drawX z_images z_imageForce z_imageX z_isMade) (wM K ad z_tape z_taped z_rules z_sign z_length z_clause z_clauses z_read z_next z_wrong z_number z_text z_made z_deep z_lines z_open z_opened z_stack z_top z_word z_said z_force z_x z_absent z_isRaining z_wasSaid z_undone z_kept z_order z_bestOrder z_hasBy z_wealthThen z_isFit z_tillThen z_drawX z_images z_imageForce z_imageX z_isMade) (some (.int q)) := by
  intro n
  induction n with
  | zero => intro x2 h; unfold m_areNotesSo_l2 at h; cases h
  | succ n ih =>
    intro x2 h
    unfold m_areNotesSo_l2 at h
    refine r_iload_n 2 dX12_areNotesSo_2 rfl ?_
    refine r_iconst (x := (3 : Int32)) dX12_areNotesSo_3 (by decide) ?_
    refine r_aload_n 0 dX12_areNotesSo_4 rfl ?_
    refine gM_said rfl dX12_areNotesSo_5 ?_
    refine r_sipush (x := (155 : Int32)) dX12_areNotesSo_8 (by decide) ?_
    obtain ⟨h1, h⟩ := rq_some h
    refine lM_said (inb_in h1) dX12_areNotesSo_11 ?_
    refine r_imul dX12_areNotesSo_12 ?_
    refine r_icmp_ge 66 dX12_areNotesSo_13 (by decide) (fun c2 => ?_) (fun c2 => ?_)
    · replace h := it_pos c2 h
      refine r_iconst (x := (1 : Int32)) dX12_areNotesSo_66 (by decide) ?_
      have hq := Option.some.inj h
      subst hq
      exact r_zret (ty := .boolean) rfl rfl dX12_areNotesSo_67
    · replace h := it_neg c2 h
      refine r_aload_n 0 dX12_areNotesSo_16 rfl ?_
      refine gM_said rfl dX12_areNotesSo_17 ?_
      refine r_bipush (x := (125 : Int32)) dX12_areNotesSo_20 (by decide) ?_
      refine r_iload_n 2 dX12_areNotesSo_22 rfl ?_
      refine r_iadd dX12_areNotesSo_23 ?_
      obtain ⟨h3, h⟩ := rq_some h
      refine lM_said (inb_in h3) dX12_areNotesSo_24 ?_
      refine r_iload_n 1 dX12_areNotesSo_25 rfl ?_
      refine r_icmp_ne 60 dX12_areNotesSo_26 (by decide) (fun c4 => ?_) (fun c4 => ?_)
      · replace h := it_neg c4 h
        refine r_iinc (y := (x2 + (3 : Int32))) (lv' := [(2, .int (x2 + (3 : Int32))), (0, .ref (ad 0)), (1, .int x1)]) 2 dX12_areNotesSo_60 rfl rfl (by decide) rfl ?_
        refine r_goto 2 dX12_areNotesSo_63 (by decide) ?_
        refine r_sub (lv' := [(0, .ref (ad 0)), (1, .int x1), (2, .int (x2 + (3 : Int32)))]) [1, 2, 0] rfl ?_
        exact ih _ h
      · replace h := it_pos c4 h
        refine r_aload_n 0 dX12_areNotesSo_29 rfl ?_
        refine r_aload_n 0 dX12_areNotesSo_30 rfl ?_
        refine gM_said rfl dX12_areNotesSo_31 ?_
        refine r_bipush (x := (125 : Int32)) dX12_areNotesSo_34 (by decide) ?_
        refine r_iload_n 2 dX12_areNotesSo_36 rfl ?_
        refine r_iadd dX12_areNotesSo_37 ?_
        refine r_iconst (x := (1 : Int32)) dX12_areNotesSo_38 (by decide) ?_
        refine r_iadd dX12_areNotesSo_39 ?_
        obtain ⟨h5, h⟩ := rq_some h
        refine lM_said (inb_in h5) dX12_areNotesSo_40 ?_
        obtain ⟨q6, h6, h⟩ := bd_some h
        refine cvM (st := []) (cm_tillOf h6) rfl rfl (Nat.le_of_ble_eq_true rfl) km_tillOf (tb_in (i := 25) (j := 15) rfl rfl) (by decide) rfl dX12_areNotesSo_41 ?_
        refine r_aload_n 0 dX12_areNotesSo_44 rfl ?_
        refine gM_said rfl dX12_areNotesSo_45 ?_
        refine r_bipush (x := (125 : Int32)) dX12_areNotesSo_48 (by decide) ?_
        refine r_iload_n 2 dX12_areNotesSo_50 rfl ?_
        refine r_iadd dX12_areNotesSo_51 ?_
        refine r_iconst (x := (2 : Int32)) dX12_areNotesSo_52 (by decide) ?_
        refine r_iadd dX12_areNotesSo_53 ?_
        obtain ⟨h7, h⟩ := rq_some h
        refine lM_said (inb_in h7) dX12_areNotesSo_54 ?_
        refine r_icmp_eq 60 dX12_areNotesSo_55 (by decide) (fun c8 => ?_) (fun c8 => ?_)
        · replace h := it_pos c8 h
          refine r_iinc (y := (x2 + (3 : Int32))) (lv' := [(2, .int (x2 + (3 : Int32))), (0, .ref (ad 0)), (1, .int x1)]) 2 dX12_areNotesSo_60 rfl rfl (by decide) rfl ?_
          refine r_goto 2 dX12_areNotesSo_63 (by decide) ?_
          refine r_sub (lv' := [(0, .ref (ad 0)), (1, .int x1), (2, .int (x2 + (3 : Int32)))]) [1, 2, 0] rfl ?_
          exact ih _ h
        · replace h := it_neg c8 h
          refine r_iconst (x := (0 : Int32)) dX12_areNotesSo_58 (by decide) ?_
          have hq := Option.some.inj h
          subst hq
          exact r_zret (ty := .boolean) rfl rfl dX12_areNotesSo_59
def m_areNotesSo (x1 : Int32) (z_said : Nat → Int32) : Option (Int32) := m_areNotesSo_l2 z_said x1 FU (0 : Int32)
set_option maxRecDepth 20000 in
theorem cm_areNotesSo {q : Int32} {x1 : Int32} (h : m_areNotesSo x1 z_said = some q) : rMet l D Z (ty7 K) Mm_areNotesSo [.ref (ad 0), .int x1] (wM K ad z_tape z_taped z_rules z_sign z_length z_clause z_clauses z_read z_next z_wrong z_number z_text z_made z_deep z_lines z_open z_opened z_stack z_top z_word z_said z_force z_x z_absent z_isRaining z_wasSaid z_undone z_kept z_order z_bestOrder z_hasBy z_wealthThen z_isFit z_tillThen z_drawX z_images z_imageForce z_imageX z_isMade) (wM K ad z_tape z_taped z_rules z_sign z_length z_clause z_clauses z_read z_next z_wrong z_number z_text z_made z_deep z_lines z_open z_opened z_stack z_top z_word z_said z_force z_x z_absent z_isRaining z_wasSaid z_undone z_kept z_order z_bestOrder z_hasBy z_wealthThen z_isFit z_tillThen z_drawX z_images z_imageForce z_imageX z_isMade) (some (.int q)) := by
  refine rMet.of (by decide) rfl (Nat.le_of_ble_eq_true rfl) ?_
  refine r_sub (lv' := [(0, .ref (ad 0)), (1, .int x1)]) [0, 1] rfl ?_
  unfold m_areNotesSo at h
  refine r_iconst (x := (0 : Int32)) dX12_areNotesSo_0 (by decide) ?_
  refine r_istore_n (lv' := [(2, .int (0 : Int32)), (0, .ref (ad 0)), (1, .int x1)]) dX12_areNotesSo_1 (by decide) rfl ?_
  refine r_sub (lv' := [(0, .ref (ad 0)), (1, .int x1), (2, .int (0 : Int32))]) [1, 2, 0] rfl ?_
  exact cm_areNotesSo_l2  FU _ h
theorem dX12_areAllSo_0 : decode cX12_areAllSo 0 = .ok (.iconst 1, 1) := by decide +kernel
theorem dX12_areAllSo_1 : decode cX12_areAllSo 1 = .ok (.istore_n 3, 1) := by decide +kernel
theorem dX12_areAllSo_2 : decode cX12_areAllSo 2 = .ok (.iconst 0, 1) := by decide +kernel
theorem dX12_areAllSo_3 : decode cX12_areAllSo 3 = .ok (.istore 4, 2) := by decide +kernel
theorem dX12_areAllSo_5 : decode cX12_areAllSo 5 = .ok (.iload 4, 2) := by decide +kernel
theorem dX12_areAllSo_7 : decode cX12_areAllSo 7 = .ok (.bipush 60, 2) := by decide +kernel
theorem dX12_areAllSo_9 : decode cX12_areAllSo 9 = .ok (.if_icmp .gt 73, 3) := by decide +kernel
theorem dX12_areAllSo_12 : decode cX12_areAllSo 12 = .ok (.aload_n 0, 1) := by decide +kernel
theorem dX12_areAllSo_13 : decode cX12_areAllSo 13 = .ok (.invokevirtual 355, 3) := by decide +kernel
theorem dX12_areAllSo_16 : decode cX12_areAllSo 16 = .ok (.pop, 1) := by decide +kernel
theorem dX12_areAllSo_17 : decode cX12_areAllSo 17 = .ok (.iload_n 3, 1) := by decide +kernel
theorem dX12_areAllSo_18 : decode cX12_areAllSo 18 = .ok (.ifCond .eq 16, 3) := by decide +kernel
theorem dX12_areAllSo_21 : decode cX12_areAllSo 21 = .ok (.aload_n 0, 1) := by decide +kernel
theorem dX12_areAllSo_22 : decode cX12_areAllSo 22 = .ok (.iload 4, 2) := by decide +kernel
theorem dX12_areAllSo_24 : decode cX12_areAllSo 24 = .ok (.invokevirtual 431, 3) := by decide +kernel
theorem dX12_areAllSo_27 : decode cX12_areAllSo 27 = .ok (.ifCond .eq 7, 3) := by decide +kernel
theorem dX12_areAllSo_30 : decode cX12_areAllSo 30 = .ok (.iconst 1, 1) := by decide +kernel
theorem dX12_areAllSo_31 : decode cX12_areAllSo 31 = .ok (.goto 4, 3) := by decide +kernel
theorem dX12_areAllSo_34 : decode cX12_areAllSo 34 = .ok (.iconst 0, 1) := by decide +kernel
theorem dX12_areAllSo_35 : decode cX12_areAllSo 35 = .ok (.istore_n 3, 1) := by decide +kernel
theorem dX12_areAllSo_36 : decode cX12_areAllSo 36 = .ok (.iconst 0, 1) := by decide +kernel
theorem dX12_areAllSo_37 : decode cX12_areAllSo 37 = .ok (.istore 5, 2) := by decide +kernel
theorem dX12_areAllSo_39 : decode cX12_areAllSo 39 = .ok (.iload 5, 2) := by decide +kernel
theorem dX12_areAllSo_41 : decode cX12_areAllSo 41 = .ok (.bipush 6, 2) := by decide +kernel
theorem dX12_areAllSo_43 : decode cX12_areAllSo 43 = .ok (.if_icmp .ge 33, 3) := by decide +kernel
theorem dX12_areAllSo_46 : decode cX12_areAllSo 46 = .ok (.iload 4, 2) := by decide +kernel
theorem dX12_areAllSo_48 : decode cX12_areAllSo 48 = .ok (.iload_n 2, 1) := by decide +kernel
theorem dX12_areAllSo_49 : decode cX12_areAllSo 49 = .ok (.if_icmp .ne 27, 3) := by decide +kernel
theorem dX12_areAllSo_52 : decode cX12_areAllSo 52 = .ok (.aload_n 0, 1) := by decide +kernel
theorem dX12_areAllSo_53 : decode cX12_areAllSo 53 = .ok (.getfield 71, 3) := by decide +kernel
theorem dX12_areAllSo_56 : decode cX12_areAllSo 56 = .ok (.bipush 6, 2) := by decide +kernel
theorem dX12_areAllSo_58 : decode cX12_areAllSo 58 = .ok (.iload_n 1, 1) := by decide +kernel
theorem dX12_areAllSo_59 : decode cX12_areAllSo 59 = .ok (.imul, 1) := by decide +kernel
theorem dX12_areAllSo_60 : decode cX12_areAllSo 60 = .ok (.iload 5, 2) := by decide +kernel
theorem dX12_areAllSo_62 : decode cX12_areAllSo 62 = .ok (.iadd, 1) := by decide +kernel
theorem dX12_areAllSo_63 : decode cX12_areAllSo 63 = .ok (.aload_n 0, 1) := by decide +kernel
theorem dX12_areAllSo_64 : decode cX12_areAllSo 64 = .ok (.iload 5, 2) := by decide +kernel
theorem dX12_areAllSo_66 : decode cX12_areAllSo 66 = .ok (.invokevirtual 343, 3) := by decide +kernel
theorem dX12_areAllSo_69 : decode cX12_areAllSo 69 = .ok (.iastore, 1) := by decide +kernel
theorem dX12_areAllSo_70 : decode cX12_areAllSo 70 = .ok (.iinc 5 1, 3) := by decide +kernel
theorem dX12_areAllSo_73 : decode cX12_areAllSo 73 = .ok (.goto (-34), 3) := by decide +kernel
theorem dX12_areAllSo_76 : decode cX12_areAllSo 76 = .ok (.iinc 4 1, 3) := by decide +kernel
theorem dX12_areAllSo_79 : decode cX12_areAllSo 79 = .ok (.goto (-74), 3) := by decide +kernel
theorem dX12_areAllSo_82 : decode cX12_areAllSo 82 = .ok (.iload_n 3, 1) := by decide +kernel
theorem dX12_areAllSo_83 : decode cX12_areAllSo 83 = .ok (.ireturn, 1) := by decide +kernel
abbrev Mm_areAllSo : rx_M := (RX12, yX12_areAllSo, cX12_areAllSo, 6, (some .boolean), 8)
theorem km_areAllSo : rKv Mm_areAllSo 2 := ⟨tb_in (i := 29) (j := 9) rfl rfl, tb_in (i := 29) (j := 10) rfl rfl, tb_in (i := 17) (j := 21) rfl rfl, tb_in (i := 29) (j := 7) rfl rfl, ⟨by decide, by decide, by decide +kernel⟩, by decide⟩
def m_areAllSo_l39 (z_sign : Nat → Int32) (z_clause : Nat → Int32) (z_clauses : Nat → Int32) (z_stack : Nat → Int64) (z_top : Int32) (z_word : Nat → Int64) (z_said : Nat → Int32) (z_force : Int32) (z_absent : Int32) (z_isRaining : Int32) (x1 : Int32) (x2 : Int32) (x3 : Int32) (x4 : Int32) (k5 : Int32 → Int32 → (Nat → Int64) → Int32 → (Nat → Int64) → (Nat → Int32) → Int32 → (Nat → Int32) → Option (Int32 × (Nat → Int64) × Int32 × (Nat → Int64) × (Nat → Int32) × Int32 × (Nat → Int32))) : Nat → Int32 → (Nat → Int32) → Option (Int32 × (Nat → Int64) × Int32 × (Nat → Int64) × (Nat → Int32) × Int32 × (Nat → Int32))
  | 0, _, _ => none
  | n + 1, x5, z_tillThen => (if (6 : Int32) ≤ x5 then k5 x3 (x4 + (1 : Int32)) z_stack z_top z_word z_said z_isRaining z_tillThen else (if x4 = x2 then (m_tillOf x5 z_said).bind (fun q7 => rq (inb (((6 : Int32) * x1) + x5) 42) (lt (upd z_tillThen (((6 : Int32) * x1) + x5).toNatClampNeg q7) (fun u8 => m_areAllSo_l39 z_sign z_clause z_clauses z_stack z_top z_word z_said z_force z_absent z_isRaining x1 x2 x3 x4 k5 n (x5 + (1 : Int32)) u8))) else k5 x3 (x4 + (1 : Int32)) z_stack z_top z_word z_said z_isRaining z_tillThen))
set_option maxRecDepth 20000 in
theorem cm_areAllSo_l39 {q : Int32 × (Nat → Int64) × Int32 × (Nat → Int64) × (Nat → Int32) × Int32 × (Nat → Int32)} {x1 : Int32} {x2 : Int32} {x3 : Int32} {x4 : Int32} {k5 : Int32 → Int32 → (Nat → Int64) → Int32 → (Nat → Int64) → (Nat → Int32) → Int32 → (Nat → Int32) → Option (Int32 × (Nat → Int64) × Int32 × (Nat → Int64) × (Nat → Int32) × Int32 × (Nat → Int32))} (hk5 : ∀ (x3 : Int32) (x4 : Int32) (z_stack : Nat → Int64) (z_top : Int32) (z_word : Nat → Int64) (z_said : Nat → Int32) (z_isRaining : Int32) (z_tillThen : Nat → Int32), k5 x3 x4 z_stack z_top z_word z_said z_isRaining z_tillThen = some q → rW l D Z (ty7 K) Mm_areAllSo 5 [(0, .ref (ad 0)), (1, .int x1), (2, .int x2), (3, .int x3), (4, .int x4)] [] (wM K ad z_tape z_taped z_rules z_sign z_length z_clause z_clauses z_read z_next z_wrong z_number z_text z_made z_deep z_lines z_open z_opened z_stack z_top z_word z_said z_force z_x z_absent z_isRaining z_wasSaid z_undone z_kept z_order z_bestOrder z_hasBy z_wealthThen z_isFit z_tillThen z_drawX z_images z_imageForce z_imageX z_isMade) (wM K ad z_tape z_taped z_rules z_sign z_length z_clause z_clauses z_read z_next z_wrong z_number z_text z_made z_deep z_lines z_open z_opened q.2.1 q.2.2.1 q.2.2.2.1 q.2.2.2.2.1 z_force z_x z_absent q.2.2.2.2.2.1 z_wasSaid z_undone z_kept z_order z_bestOrder z_hasBy z_wealthThen z_isFit q.2.2.2.2.2.2 z_drawX z_images z_imageForce z_imageX z_isMade) (some (.int q.1))) : ∀ (n : Nat) (x5 : Int32) (z_tillThen : Nat → Int32), m_areAllSo_l39 z_sign z_clause z_clauses z_stack z_top z_word z_said z_force z_absent z_isRaining x1 x2 x3 x4 k5 n x5 z_tillThen = some q → rW l D Z (ty7 K) Mm_areAllSo 39 [(0, .ref (ad 0)), (1, .int x1), (2, .int x2), (3, .int x3), (4, .int x4), (5, .int x5)] [] (wM K ad z_tape z_taped z_rules z_sign z_length z_clause z_clauses z_read z_next z_wrong z_number z_text z_made z_deep z_lines z_open z_opened z_stack z_top z_word z_said z_force z_x z_absent z_isRaining z_wasSaid z_undone z_kept z_order z_bestOrder z_hasBy z_wealthThen z_isFit z_tillThen z_drawX z_images z_imageForce z_imageX z_isMade) (wM K ad z_tape z_taped z_rules z_sign z_length z_clause z_clauses z_read z_next z_wrong z_number z_text z_made z_deep z_lines z_open z_opened q.2.1 q.2.2.1 q.2.2.2.1 q.2.2.2.2.1 z_force z_x z_absent q.2.2.2.2.2.1 z_wasSaid z_undone z_kept z_order z_bestOrder z_hasBy z_wealthThen z_isFit q.2.2.2.2.2.2 z_drawX z_images z_imageForce z_imageX z_isMade) (some (.int q.1)) := by
  intro n
  induction n with
  | zero => intro x5 z_tillThen h; unfold m_areAllSo_l39 at h; cases h
  | succ n ih =>
    intro x5 z_tillThen h
    unfold m_areAllSo_l39 at h
    refine r_iload 5 dX12_areAllSo_39 rfl ?_
    refine r_bipush (x := (6 : Int32)) dX12_areAllSo_41 (by decide) ?_
    refine r_icmp_ge 76 dX12_areAllSo_43 (by decide) (fun c5 => ?_) (fun c5 => ?_)
    · replace h := it_pos c5 h
      refine r_iinc (y := (x4 + (1 : Int32))) (lv' := [(4, .int (x4 + (1 : Int32))), (0, .ref (ad 0)), (1, .int x1), (2, .int x2), (3, .int x3), (5, .int x5)]) 4 dX12_areAllSo_76 rfl rfl (by decide) rfl ?_
      refine r_goto 5 dX12_areAllSo_79 (by decide) ?_
      refine r_sub (lv' := [(0, .ref (ad 0)), (1, .int x1), (2, .int x2), (3, .int x3), (4, .int (x4 + (1 : Int32)))]) [1, 2, 3, 4, 0] rfl ?_
      exact hk5 _ _ _ _ _ _ _ _ h
    · replace h := it_neg c5 h
      refine r_iload 4 dX12_areAllSo_46 rfl ?_
      refine r_iload_n 2 dX12_areAllSo_48 rfl ?_
      refine r_icmp_ne 76 dX12_areAllSo_49 (by decide) (fun c6 => ?_) (fun c6 => ?_)
      · replace h := it_neg c6 h
        refine r_iinc (y := (x4 + (1 : Int32))) (lv' := [(4, .int (x4 + (1 : Int32))), (0, .ref (ad 0)), (1, .int x1), (2, .int x2), (3, .int x3), (5, .int x5)]) 4 dX12_areAllSo_76 rfl rfl (by decide) rfl ?_
        refine r_goto 5 dX12_areAllSo_79 (by decide) ?_
        refine r_sub (lv' := [(0, .ref (ad 0)), (1, .int x1), (2, .int x2), (3, .int x3), (4, .int (x4 + (1 : Int32)))]) [1, 2, 3, 4, 0] rfl ?_
        exact hk5 _ _ _ _ _ _ _ _ h
      · replace h := it_pos c6 h
        refine r_aload_n 0 dX12_areAllSo_52 rfl ?_
        refine gM_tillThen rfl dX12_areAllSo_53 ?_
        refine r_bipush (x := (6 : Int32)) dX12_areAllSo_56 (by decide) ?_
        refine r_iload_n 1 dX12_areAllSo_58 rfl ?_
        refine r_imul dX12_areAllSo_59 ?_
        refine r_iload 5 dX12_areAllSo_60 rfl ?_
        refine r_iadd dX12_areAllSo_62 ?_
        refine r_aload_n 0 dX12_areAllSo_63 rfl ?_
        refine r_iload 5 dX12_areAllSo_64 rfl ?_
        obtain ⟨q7, h7, h⟩ := bd_some h
        refine cvM (st := [.int (((6 : Int32) * x1) + x5), .ref (ad 18)]) (cm_tillOf h7) rfl rfl (Nat.le_of_ble_eq_true rfl) km_tillOf (tb_in (i := 25) (j := 15) rfl rfl) (by decide) rfl dX12_areAllSo_66 ?_
        obtain ⟨h8, h⟩ := rq_some h
        obtain ⟨u8, e8, h⟩ := lt_some h
        refine sM_tillThen e8 (inb_in h8) dX12_areAllSo_69 ?_
        refine r_iinc (y := (x5 + (1 : Int32))) (lv' := [(5, .int (x5 + (1 : Int32))), (0, .ref (ad 0)), (1, .int x1), (2, .int x2), (3, .int x3), (4, .int x4)]) 5 dX12_areAllSo_70 rfl rfl (by decide) rfl ?_
        refine r_goto 39 dX12_areAllSo_73 (by decide) ?_
        refine r_sub (lv' := [(0, .ref (ad 0)), (1, .int x1), (2, .int x2), (3, .int x3), (4, .int x4), (5, .int (x5 + (1 : Int32)))]) [1, 2, 3, 4, 5, 0] rfl ?_
        exact ih _ _ h
def m_areAllSo_l5 (z_sign : Nat → Int32) (z_clause : Nat → Int32) (z_clauses : Nat → Int32) (z_force : Int32) (z_absent : Int32) (x1 : Int32) (x2 : Int32) : Nat → Int32 → Int32 → (Nat → Int64) → Int32 → (Nat → Int64) → (Nat → Int32) → Int32 → (Nat → Int32) → Option (Int32 × (Nat → Int64) × Int32 × (Nat → Int64) × (Nat → Int32) × Int32 × (Nat → Int32))
  | 0, _, _, _, _, _, _, _, _ => none
  | n + 1, x3, x4, z_stack, z_top, z_word, z_said, z_isRaining, z_tillThen => (if (60 : Int32) < x4 then rq (bo x3) (some (x3, z_stack, z_top, z_word, z_said, z_isRaining, z_tillThen)) else (m_passes z_sign z_clause z_clauses z_stack z_top z_word z_said z_force z_absent z_isRaining).bind (fun q3 => (if x3 = 0 then m_areAllSo_l39 z_sign z_clause z_clauses q3.2.1 q3.2.2.1 q3.2.2.2.1 q3.2.2.2.2.1 z_force z_absent q3.2.2.2.2.2 x1 x2 (0 : Int32) x4 (m_areAllSo_l5 z_sign z_clause z_clauses z_force z_absent x1 x2 n) FU (0 : Int32) z_tillThen else (m_areNotesSo x4 q3.2.2.2.2.1).bind (fun q9 => (if q9 = 0 then m_areAllSo_l39 z_sign z_clause z_clauses q3.2.1 q3.2.2.1 q3.2.2.2.1 q3.2.2.2.2.1 z_force z_absent q3.2.2.2.2.2 x1 x2 (0 : Int32) x4 (m_areAllSo_l5 z_sign z_clause z_clauses z_force z_absent x1 x2 n) FU (0 : Int32) z_tillThen else m_areAllSo_l39 z_sign z_clause z_clauses q3.2.1 q3.2.2.1 q3.2.2.2.1 q3.2.2.2.2.1 z_force z_absent q3.2.2.2.2.2 x1 x2 (1 : Int32) x4 (m_areAllSo_l5 z_sign z_clause z_clauses z_force z_absent x1 x2 n) FU (0 : Int32) z_tillThen)))))
set_option maxRecDepth 20000 in
theorem cm_areAllSo_l5 {q : Int32 × (Nat → Int64) × Int32 × (Nat → Int64) × (Nat → Int32) × Int32 × (Nat → Int32)} {x1 : Int32} {x2 : Int32}  : ∀ (n : Nat) (x3 : Int32) (x4 : Int32) (z_stack : Nat → Int64) (z_top : Int32) (z_word : Nat → Int64) (z_said : Nat → Int32) (z_isRaining : Int32) (z_tillThen : Nat → Int32), m_areAllSo_l5 z_sign z_clause z_clauses z_force z_absent x1 x2 n x3 x4 z_stack z_top z_word z_said z_isRaining z_tillThen = some q → rW l D Z (ty7 K) Mm_areAllSo 5 [(0, .ref (ad 0)), (1, .int x1), (2, .int x2), (3, .int x3), (4, .int x4)] [] (wM K ad z_tape z_taped z_rules z_sign z_length z_clause z_clauses z_read z_next z_wrong z_number z_text z_made z_deep z_lines z_open z_opened z_stack z_top z_word z_said z_force z_x z_absent z_isRaining z_wasSaid z_undone z_kept z_order z_bestOrder z_hasBy z_wealthThen z_isFit z_tillThen z_drawX z_images z_imageForce z_imageX z_isMade) (wM K ad z_tape z_taped z_rules z_sign z_length z_clause z_clauses z_read z_next z_wrong z_number z_text z_made z_deep z_lines z_open z_opened q.2.1 q.2.2.1 q.2.2.2.1 q.2.2.2.2.1 z_force z_x z_absent q.2.2.2.2.2.1 z_wasSaid z_undone z_kept z_order z_bestOrder z_hasBy z_wealthThen z_isFit q.2.2.2.2.2.2 z_drawX z_images z_imageForce z_imageX z_isMade) (some (.int q.1)) := by
  intro n
  induction n with
  | zero => intro x3 x4 z_stack z_top z_word z_said z_isRaining z_tillThen h; unfold m_areAllSo_l5 at h; cases h
  | succ n ih =>
    intro x3 x4 z_stack z_top z_word z_said z_isRaining z_tillThen h
    unfold m_areAllSo_l5 at h
    refine r_iload 4 dX12_areAllSo_5 rfl ?_
    refine r_bipush (x := (60 : Int32)) dX12_areAllSo_7 (by decide) ?_
    refine r_icmp_gt 82 dX12_areAllSo_9 (by decide) (fun c1 => ?_) (fun c1 => ?_)
    · replace h := it_pos c1 h
      refine r_iload_n 3 dX12_areAllSo_82 rfl ?_
      obtain ⟨h2, h⟩ := rq_some h
      have hq := Option.some.inj h
      subst hq
      exact r_zret (ty := .boolean) rfl (bo_nar h2) dX12_areAllSo_83
    · replace h := it_neg c1 h
      refine r_aload_n 0 dX12_areAllSo_12 rfl ?_
      obtain ⟨q3, h3, h⟩ := bd_some h
      refine cvM (st := []) (cm_passes h3) rfl rfl (Nat.le_of_ble_eq_true rfl) km_passes (tb_in (i := 25) (j := 28) rfl rfl) (by decide) rfl dX12_areAllSo_13 ?_
      refine r_pop dX12_areAllSo_16 rfl ?_
      refine r_iload_n 3 dX12_areAllSo_17 rfl ?_
      refine r_if_eq 34 dX12_areAllSo_18 (by decide) (fun c4 => ?_) (fun c4 => ?_)
      · replace h := it_pos c4 h
        refine r_iconst (x := (0 : Int32)) dX12_areAllSo_34 (by decide) ?_
        refine r_istore_n (lv' := [(3, .int (0 : Int32)), (0, .ref (ad 0)), (1, .int x1), (2, .int x2), (4, .int x4)]) dX12_areAllSo_35 (by decide) rfl ?_
        refine r_iconst (x := (0 : Int32)) dX12_areAllSo_36 (by decide) ?_
        refine r_istore (lv' := [(5, .int (0 : Int32)), (3, .int (0 : Int32)), (0, .ref (ad 0)), (1, .int x1), (2, .int x2), (4, .int x4)]) dX12_areAllSo_37 (by decide) rfl ?_
        refine r_sub (lv' := [(0, .ref (ad 0)), (1, .int x1), (2, .int x2), (3, .int (0 : Int32)), (4, .int x4), (5, .int (0 : Int32))]) [2, 3, 4, 1, 5, 0] rfl ?_
        exact cm_areAllSo_l39 (ih) FU _ _ h
      · replace h := it_neg c4 h
        refine r_aload_n 0 dX12_areAllSo_21 rfl ?_
        refine r_iload 4 dX12_areAllSo_22 rfl ?_
        obtain ⟨q9, h9, h⟩ := bd_some h
        refine cvM (st := []) (cm_areNotesSo h9) rfl rfl (Nat.le_of_ble_eq_true rfl) km_areNotesSo (tb_in (i := 29) (j := 4) rfl rfl) (by decide) rfl dX12_areAllSo_24 ?_
        refine r_if_eq 34 dX12_areAllSo_27 (by decide) (fun c10 => ?_) (fun c10 => ?_)
        · replace h := it_pos c10 h
          refine r_iconst (x := (0 : Int32)) dX12_areAllSo_34 (by decide) ?_
          refine r_istore_n (lv' := [(3, .int (0 : Int32)), (0, .ref (ad 0)), (1, .int x1), (2, .int x2), (4, .int x4)]) dX12_areAllSo_35 (by decide) rfl ?_
          refine r_iconst (x := (0 : Int32)) dX12_areAllSo_36 (by decide) ?_
          refine r_istore (lv' := [(5, .int (0 : Int32)), (3, .int (0 : Int32)), (0, .ref (ad 0)), (1, .int x1), (2, .int x2), (4, .int x4)]) dX12_areAllSo_37 (by decide) rfl ?_
          refine r_sub (lv' := [(0, .ref (ad 0)), (1, .int x1), (2, .int x2), (3, .int (0 : Int32)), (4, .int x4), (5, .int (0 : Int32))]) [2, 3, 4, 1, 5, 0] rfl ?_
          exact cm_areAllSo_l39 (ih) FU _ _ h
        · replace h := it_neg c10 h
          refine r_iconst (x := (1 : Int32)) dX12_areAllSo_30 (by decide) ?_
          refine r_goto 35 dX12_areAllSo_31 (by decide) ?_
          refine r_istore_n (lv' := [(3, .int (1 : Int32)), (0, .ref (ad 0)), (1, .int x1), (2, .int x2), (4, .int x4)]) dX12_areAllSo_35 (by decide) rfl ?_
          refine r_iconst (x := (0 : Int32)) dX12_areAllSo_36 (by decide) ?_
          refine r_istore (lv' := [(5, .int (0 : Int32)), (3, .int (1 : Int32)), (0, .ref (ad 0)), (1, .int x1), (2, .int x2), (4, .int x4)]) dX12_areAllSo_37 (by decide) rfl ?_
          refine r_sub (lv' := [(0, .ref (ad 0)), (1, .int x1), (2, .int x2), (3, .int (1 : Int32)), (4, .int x4), (5, .int (0 : Int32))]) [2, 3, 4, 1, 5, 0] rfl ?_
          exact cm_areAllSo_l39 (ih) FU _ _ h
def m_areAllSo (x1 : Int32) (x2 : Int32) (z_sign : Nat → Int32) (z_clause : Nat → Int32) (z_clauses : Nat → Int32) (z_stack : Nat → Int64) (z_top : Int32) (z_word : Nat → Int64) (z_said : Nat → Int32) (z_force : Int32) (z_absent : Int32) (z_isRaining : Int32) (z_tillThen : Nat → Int32) : Option (Int32 × (Nat → Int64) × Int32 × (Nat → Int64) × (Nat → Int32) × Int32 × (Nat → Int32)) := m_areAllSo_l5 z_sign z_clause z_clauses z_force z_absent x1 x2 FU (1 : Int32) (0 : Int32) z_stack z_top z_word z_said z_isRaining z_tillThen
set_option maxRecDepth 20000 in
theorem cm_areAllSo {q : Int32 × (Nat → Int64) × Int32 × (Nat → Int64) × (Nat → Int32) × Int32 × (Nat → Int32)} {x1 : Int32} {x2 : Int32} (h : m_areAllSo x1 x2 z_sign z_clause z_clauses z_stack z_top z_word z_said z_force z_absent z_isRaining z_tillThen = some q) : rMet l D Z (ty7 K) Mm_areAllSo [.ref (ad 0), .int x1, .int x2] (wM K ad z_tape z_taped z_rules z_sign z_length z_clause z_clauses z_read z_next z_wrong z_number z_text z_made z_deep z_lines z_open z_opened z_stack z_top z_word z_said z_force z_x z_absent z_isRaining z_wasSaid z_undone z_kept z_order z_bestOrder z_hasBy z_wealthThen z_isFit z_tillThen z_drawX z_images z_imageForce z_imageX z_isMade) (wM K ad z_tape z_taped z_rules z_sign z_length z_clause z_clauses z_read z_next z_wrong z_number z_text z_made z_deep z_lines z_open z_opened q.2.1 q.2.2.1 q.2.2.2.1 q.2.2.2.2.1 z_force z_x z_absent q.2.2.2.2.2.1 z_wasSaid z_undone z_kept z_order z_bestOrder z_hasBy z_wealthThen z_isFit q.2.2.2.2.2.2 z_drawX z_images z_imageForce z_imageX z_isMade) (some (.int q.1)) := by
  refine rMet.of (by decide) rfl (Nat.le_of_ble_eq_true rfl) ?_
  refine r_sub (lv' := [(0, .ref (ad 0)), (1, .int x1), (2, .int x2)]) [0, 1, 2] rfl ?_
  unfold m_areAllSo at h
  refine r_iconst (x := (1 : Int32)) dX12_areAllSo_0 (by decide) ?_
  refine r_istore_n (lv' := [(3, .int (1 : Int32)), (0, .ref (ad 0)), (1, .int x1), (2, .int x2)]) dX12_areAllSo_1 (by decide) rfl ?_
  refine r_iconst (x := (0 : Int32)) dX12_areAllSo_2 (by decide) ?_
  refine r_istore (lv' := [(4, .int (0 : Int32)), (3, .int (1 : Int32)), (0, .ref (ad 0)), (1, .int x1), (2, .int x2)]) dX12_areAllSo_3 (by decide) rfl ?_
  refine r_sub (lv' := [(0, .ref (ad 0)), (1, .int x1), (2, .int x2), (3, .int (1 : Int32)), (4, .int (0 : Int32))]) [2, 3, 4, 1, 0] rfl ?_
  exact cm_areAllSo_l5  FU _ _ _ _ _ _ _ _ h
theorem dX12_fillsFits_0 : decode cX12_fillsFits 0 = .ok (.aload_n 0, 1) := by decide +kernel
theorem dX12_fillsFits_1 : decode cX12_fillsFits 1 = .ok (.getfield 42, 3) := by decide +kernel
theorem dX12_fillsFits_4 : decode cX12_fillsFits 4 = .ok (.istore_n 2, 1) := by decide +kernel
theorem dX12_fillsFits_5 : decode cX12_fillsFits 5 = .ok (.aload_n 0, 1) := by decide +kernel
theorem dX12_fillsFits_6 : decode cX12_fillsFits 6 = .ok (.invokevirtual 376, 3) := by decide +kernel
theorem dX12_fillsFits_9 : decode cX12_fillsFits 9 = .ok (.iconst 0, 1) := by decide +kernel
theorem dX12_fillsFits_10 : decode cX12_fillsFits 10 = .ok (.istore_n 3, 1) := by decide +kernel
theorem dX12_fillsFits_11 : decode cX12_fillsFits 11 = .ok (.iload_n 3, 1) := by decide +kernel
theorem dX12_fillsFits_12 : decode cX12_fillsFits 12 = .ok (.aload_n 0, 1) := by decide +kernel
theorem dX12_fillsFits_13 : decode cX12_fillsFits 13 = .ok (.getfield 259, 3) := by decide +kernel
theorem dX12_fillsFits_16 : decode cX12_fillsFits 16 = .ok (.if_icmp .gt 32, 3) := by decide +kernel
theorem dX12_fillsFits_19 : decode cX12_fillsFits 19 = .ok (.aload_n 0, 1) := by decide +kernel
theorem dX12_fillsFits_20 : decode cX12_fillsFits 20 = .ok (.iload_n 3, 1) := by decide +kernel
theorem dX12_fillsFits_21 : decode cX12_fillsFits 21 = .ok (.iconst 1, 1) := by decide +kernel
theorem dX12_fillsFits_22 : decode cX12_fillsFits 22 = .ok (.isub, 1) := by decide +kernel
theorem dX12_fillsFits_23 : decode cX12_fillsFits 23 = .ok (.putfield 42, 3) := by decide +kernel
theorem dX12_fillsFits_26 : decode cX12_fillsFits 26 = .ok (.aload_n 0, 1) := by decide +kernel
theorem dX12_fillsFits_27 : decode cX12_fillsFits 27 = .ok (.invokevirtual 265, 3) := by decide +kernel
theorem dX12_fillsFits_30 : decode cX12_fillsFits 30 = .ok (.aload_n 0, 1) := by decide +kernel
theorem dX12_fillsFits_31 : decode cX12_fillsFits 31 = .ok (.getfield 67, 3) := by decide +kernel
theorem dX12_fillsFits_34 : decode cX12_fillsFits 34 = .ok (.iload_n 3, 1) := by decide +kernel
theorem dX12_fillsFits_35 : decode cX12_fillsFits 35 = .ok (.aload_n 0, 1) := by decide +kernel
theorem dX12_fillsFits_36 : decode cX12_fillsFits 36 = .ok (.iload_n 3, 1) := by decide +kernel
theorem dX12_fillsFits_37 : decode cX12_fillsFits 37 = .ok (.iload_n 1, 1) := by decide +kernel
theorem dX12_fillsFits_38 : decode cX12_fillsFits 38 = .ok (.invokevirtual 434, 3) := by decide +kernel
theorem dX12_fillsFits_41 : decode cX12_fillsFits 41 = .ok (.bastore, 1) := by decide +kernel
theorem dX12_fillsFits_42 : decode cX12_fillsFits 42 = .ok (.iinc 3 1, 3) := by decide +kernel
theorem dX12_fillsFits_45 : decode cX12_fillsFits 45 = .ok (.goto (-34), 3) := by decide +kernel
theorem dX12_fillsFits_48 : decode cX12_fillsFits 48 = .ok (.aload_n 0, 1) := by decide +kernel
theorem dX12_fillsFits_49 : decode cX12_fillsFits 49 = .ok (.iload_n 2, 1) := by decide +kernel
theorem dX12_fillsFits_50 : decode cX12_fillsFits 50 = .ok (.putfield 42, 3) := by decide +kernel
theorem dX12_fillsFits_53 : decode cX12_fillsFits 53 = .ok (.aload_n 0, 1) := by decide +kernel
theorem dX12_fillsFits_54 : decode cX12_fillsFits 54 = .ok (.invokevirtual 385, 3) := by decide +kernel
theorem dX12_fillsFits_57 : decode cX12_fillsFits 57 = .ok (.return_, 1) := by decide +kernel
abbrev Mm_fillsFits : rx_M := (RX12, yX12_fillsFits, cX12_fillsFits, 4, none, 9)
theorem km_fillsFits : rKv Mm_fillsFits 1 := ⟨tb_in (i := 29) (j := 13) rfl rfl, tb_in (i := 29) (j := 14) rfl rfl, tb_in (i := 17) (j := 21) rfl rfl, tb_in (i := 29) (j := 11) rfl rfl, ⟨by decide, by decide, by decide +kernel⟩, by decide⟩
def m_fillsFits_l11 (z_rules : Int32) (z_sign : Nat → Int32) (z_clause : Nat → Int32) (z_clauses : Nat → Int32) (z_absent : Int32) (z_kept : Nat → Int32) (x1 : Int32) (x2 : Int32) : Nat → Int32 → (Nat → Int64) → Int32 → (Nat → Int64) → (Nat → Int32) → Int32 → Int32 → (Nat → Int32) → (Nat → Int32) → Option ((Nat → Int64) × Int32 × (Nat → Int64) × (Nat → Int32) × Int32 × Int32 × (Nat → Int32) × (Nat → Int32) × (Nat → Int32))
  | 0, _, _, _, _, _, _, _, _, _ => none
  | n + 1, x3, z_stack, z_top, z_word, z_said, z_force, z_isRaining, z_isFit, z_tillThen => (if z_rules < x3 then (m_laysBack z_said z_kept).bind (fun q3 => some (z_stack, z_top, z_word, q3, x2, z_isRaining, z_kept, z_isFit, z_tillThen)) else lt (x3 - (1 : Int32)) (fun y4 => (m_begins z_said).bind (fun q5 => (m_areAllSo x3 x1 z_sign z_clause z_clauses z_stack z_top z_word q5 y4 z_absent z_isRaining z_tillThen).bind (fun q6 => rq (inb x3 7) (lt (upd z_isFit x3.toNatClampNeg (vp_nar .boolean q6.1)) (fun u7 => m_fillsFits_l11 z_rules z_sign z_clause z_clauses z_absent z_kept x1 x2 n (x3 + (1 : Int32)) q6.2.1 q6.2.2.1 q6.2.2.2.1 q6.2.2.2.2.1 y4 q6.2.2.2.2.2.1 u7 q6.2.2.2.2.2.2))))))
set_option maxRecDepth 20000 in
theorem cm_fillsFits_l11 {q : (Nat → Int64) × Int32 × (Nat → Int64) × (Nat → Int32) × Int32 × Int32 × (Nat → Int32) × (Nat → Int32) × (Nat → Int32)} {x1 : Int32} {x2 : Int32}  : ∀ (n : Nat) (x3 : Int32) (z_stack : Nat → Int64) (z_top : Int32) (z_word : Nat → Int64) (z_said : Nat → Int32) (z_force : Int32) (z_isRaining : Int32) (z_isFit : Nat → Int32) (z_tillThen : Nat → Int32), m_fillsFits_l11 z_rules z_sign z_clause z_clauses z_absent z_kept x1 x2 n x3 z_stack z_top z_word z_said z_force z_isRaining z_isFit z_tillThen = some q → rW l D Z (ty7 K) Mm_fillsFits 11 [(0, .ref (ad 0)), (1, .int x1), (2, .int x2), (3, .int x3)] [] (wM K ad z_tape z_taped z_rules z_sign z_length z_clause z_clauses z_read z_next z_wrong z_number z_text z_made z_deep z_lines z_open z_opened z_stack z_top z_word z_said z_force z_x z_absent z_isRaining z_wasSaid z_undone z_kept z_order z_bestOrder z_hasBy z_wealthThen z_isFit z_tillThen z_drawX z_images z_imageForce z_imageX z_isMade) (wM K ad z_tape z_taped z_rules z_sign z_length z_clause z_clauses z_read z_next z_wrong z_number z_text z_made z_deep z_lines z_open z_opened q.1 q.2.1 q.2.2.1 q.2.2.2.1 q.2.2.2.2.1 z_x z_absent q.2.2.2.2.2.1 z_wasSaid z_undone q.2.2.2.2.2.2.1 z_order z_bestOrder z_hasBy z_wealthThen q.2.2.2.2.2.2.2.1 q.2.2.2.2.2.2.2.2 z_drawX z_images z_imageForce z_imageX z_isMade) none := by
  intro n
  induction n with
  | zero => intro x3 z_stack z_top z_word z_said z_force z_isRaining z_isFit z_tillThen h; unfold m_fillsFits_l11 at h; cases h
  | succ n ih =>
    intro x3 z_stack z_top z_word z_said z_force z_isRaining z_isFit z_tillThen h
    unfold m_fillsFits_l11 at h
    refine r_iload_n 3 dX12_fillsFits_11 rfl ?_
    refine r_aload_n 0 dX12_fillsFits_12 rfl ?_
    refine gM_rules rfl dX12_fillsFits_13 ?_
    refine r_icmp_gt 48 dX12_fillsFits_16 (by decide) (fun c2 => ?_) (fun c2 => ?_)
    · replace h := it_pos c2 h
      refine r_aload_n 0 dX12_fillsFits_48 rfl ?_
      refine r_iload_n 2 dX12_fillsFits_49 rfl ?_
      refine pM_force rfl dX12_fillsFits_50 ?_
      refine r_aload_n 0 dX12_fillsFits_53 rfl ?_
      obtain ⟨q3, h3, h⟩ := bd_some h
      refine cvM (st := []) (cm_laysBack h3) rfl rfl (Nat.le_of_ble_eq_true rfl) km_laysBack (tb_in (i := 27) (j := 3) rfl rfl) (by decide) rfl dX12_fillsFits_54 ?_
      have hq := Option.some.inj h
      subst hq
      exact r_vret rfl dX12_fillsFits_57
    · replace h := it_neg c2 h
      refine r_aload_n 0 dX12_fillsFits_19 rfl ?_
      refine r_iload_n 3 dX12_fillsFits_20 rfl ?_
      refine r_iconst (x := (1 : Int32)) dX12_fillsFits_21 (by decide) ?_
      refine r_isub dX12_fillsFits_22 ?_
      obtain ⟨y4, e4, h⟩ := lt_some h
      refine r_top e4 ?_
      refine pM_force rfl dX12_fillsFits_23 ?_
      refine r_aload_n 0 dX12_fillsFits_26 rfl ?_
      obtain ⟨q5, h5, h⟩ := bd_some h
      refine cvM (st := []) (cm_begins h5) rfl rfl (Nat.le_of_ble_eq_true rfl) km_begins (tb_in (i := 22) (j := 23) rfl rfl) (by decide) rfl dX12_fillsFits_27 ?_
      refine r_aload_n 0 dX12_fillsFits_30 rfl ?_
      refine gM_isFit rfl dX12_fillsFits_31 ?_
      refine r_iload_n 3 dX12_fillsFits_34 rfl ?_
      refine r_aload_n 0 dX12_fillsFits_35 rfl ?_
      refine r_iload_n 3 dX12_fillsFits_36 rfl ?_
      refine r_iload_n 1 dX12_fillsFits_37 rfl ?_
      obtain ⟨q6, h6, h⟩ := bd_some h
      refine cvM (st := [.int x3, .ref (ad 17)]) (cm_areAllSo h6) rfl rfl (Nat.le_of_ble_eq_true rfl) km_areAllSo (tb_in (i := 29) (j := 8) rfl rfl) (by decide) rfl dX12_fillsFits_38 ?_
      obtain ⟨h7, h⟩ := rq_some h
      obtain ⟨u7, e7, h⟩ := lt_some h
      refine sM_isFit e7 (inb_in h7) dX12_fillsFits_41 ?_
      refine r_iinc (y := (x3 + (1 : Int32))) (lv' := [(3, .int (x3 + (1 : Int32))), (0, .ref (ad 0)), (1, .int x1), (2, .int x2)]) 3 dX12_fillsFits_42 rfl rfl (by decide) rfl ?_
      refine r_goto 11 dX12_fillsFits_45 (by decide) ?_
      refine r_sub (lv' := [(0, .ref (ad 0)), (1, .int x1), (2, .int x2), (3, .int (x3 + (1 : Int32)))]) [1, 2, 3, 0] rfl ?_
      exact ih _ _ _ _ _ _ _ _ _ h
def m_fillsFits (x1 : Int32) (z_rules : Int32) (z_sign : Nat → Int32) (z_clause : Nat → Int32) (z_clauses : Nat → Int32) (z_stack : Nat → Int64) (z_top : Int32) (z_word : Nat → Int64) (z_said : Nat → Int32) (z_force : Int32) (z_absent : Int32) (z_isRaining : Int32) (z_kept : Nat → Int32) (z_isFit : Nat → Int32) (z_tillThen : Nat → Int32) : Option ((Nat → Int64) × Int32 × (Nat → Int64) × (Nat → Int32) × Int32 × Int32 × (Nat → Int32) × (Nat → Int32) × (Nat → Int32)) := (m_keeps z_said z_kept).bind (fun q1 => m_fillsFits_l11 z_rules z_sign z_clause z_clauses z_absent q1 x1 z_force FU (0 : Int32) z_stack z_top z_word z_said z_force z_isRaining z_isFit z_tillThen)
set_option maxRecDepth 20000 in
theorem cm_fillsFits {q : (Nat → Int64) × Int32 × (Nat → Int64) × (Nat → Int32) × Int32 × Int32 × (Nat → Int32) × (Nat → Int32) × (Nat → Int32)} {x1 : Int32} (h : m_fillsFits x1 z_rules z_sign z_clause z_clauses z_stack z_top z_word z_said z_force z_absent z_isRaining z_kept z_isFit z_tillThen = some q) : rMet l D Z (ty7 K) Mm_fillsFits [.ref (ad 0), .int x1] (wM K ad z_tape z_taped z_rules z_sign z_length z_clause z_clauses z_read z_next z_wrong z_number z_text z_made z_deep z_lines z_open z_opened z_stack z_top z_word z_said z_force z_x z_absent z_isRaining z_wasSaid z_undone z_kept z_order z_bestOrder z_hasBy z_wealthThen z_isFit z_tillThen z_drawX z_images z_imageForce z_imageX z_isMade) (wM K ad z_tape z_taped z_rules z_sign z_length z_clause z_clauses z_read z_next z_wrong z_number z_text z_made z_deep z_lines z_open z_opened q.1 q.2.1 q.2.2.1 q.2.2.2.1 q.2.2.2.2.1 z_x z_absent q.2.2.2.2.2.1 z_wasSaid z_undone q.2.2.2.2.2.2.1 z_order z_bestOrder z_hasBy z_wealthThen q.2.2.2.2.2.2.2.1 q.2.2.2.2.2.2.2.2 z_drawX z_images z_imageForce z_imageX z_isMade) none := by
  refine rMet.of (by decide) rfl (Nat.le_of_ble_eq_true rfl) ?_
  refine r_sub (lv' := [(0, .ref (ad 0)), (1, .int x1)]) [0, 1] rfl ?_
  unfold m_fillsFits at h
  refine r_aload_n 0 dX12_fillsFits_0 rfl ?_
  refine gM_force rfl dX12_fillsFits_1 ?_
  refine r_istore_n (lv' := [(2, .int z_force), (0, .ref (ad 0)), (1, .int x1)]) dX12_fillsFits_4 (by decide) rfl ?_
  refine r_aload_n 1 dX12_fillsFits_5 rfl ?_
  obtain ⟨q1, h1, h⟩ := bd_some h
  refine cvM (st := []) (cm_keeps h1) rfl rfl (Nat.le_of_ble_eq_true rfl) km_keeps (tb_in (i := 26) (j := 26) rfl rfl) (by decide) rfl dX12_fillsFits_6 ?_
  refine r_iconst (x := (0 : Int32)) dX12_fillsFits_9 (by decide) ?_
  refine r_istore_n (lv' := [(3, .int (0 : Int32)), (2, .int z_force), (0, .ref (ad 0)), (1, .int x1)]) dX12_fillsFits_10 (by decide) rfl ?_
  refine r_sub (lv' := [(0, .ref (ad 0)), (1, .int x1), (2, .int z_force), (3, .int (0 : Int32))]) [2, 3, 1, 0] rfl ?_
  exact cm_fillsFits_l11  FU _ _ _ _ _ _ _ _ _ h
theorem dX12_ruled_0 : decode cX12_ruled 0 = .ok (.aload_n 0, 1) := by decide +kernel
theorem dX12_ruled_1 : decode cX12_ruled 1 = .ok (.invokevirtual 358, 3) := by decide +kernel
theorem dX12_ruled_4 : decode cX12_ruled 4 = .ok (.ifCond .eq 13, 3) := by decide +kernel
theorem dX12_ruled_7 : decode cX12_ruled 7 = .ok (.iload_n 1, 1) := by decide +kernel
theorem dX12_ruled_8 : decode cX12_ruled 8 = .ok (.i2l, 1) := by decide +kernel
theorem dX12_ruled_9 : decode cX12_ruled 9 = .ok (.lconst 0, 1) := by decide +kernel
theorem dX12_ruled_10 : decode cX12_ruled 10 = .ok (.lconst 1, 1) := by decide +kernel
theorem dX12_ruled_11 : decode cX12_ruled 11 = .ok (.invokestatic 124, 3) := by decide +kernel
theorem dX12_ruled_14 : decode cX12_ruled 14 = .ok (.ifCond .ne 6, 3) := by decide +kernel
theorem dX12_ruled_17 : decode cX12_ruled 17 = .ok (.bipush (-3), 2) := by decide +kernel
theorem dX12_ruled_19 : decode cX12_ruled 19 = .ok (.ireturn, 1) := by decide +kernel
theorem dX12_ruled_20 : decode cX12_ruled 20 = .ok (.aload_n 0, 1) := by decide +kernel
theorem dX12_ruled_21 : decode cX12_ruled 21 = .ok (.iconst 0, 1) := by decide +kernel
theorem dX12_ruled_22 : decode cX12_ruled 22 = .ok (.invokevirtual 437, 3) := by decide +kernel
theorem dX12_ruled_25 : decode cX12_ruled 25 = .ok (.iconst 0, 1) := by decide +kernel
theorem dX12_ruled_26 : decode cX12_ruled 26 = .ok (.istore_n 2, 1) := by decide +kernel
theorem dX12_ruled_27 : decode cX12_ruled 27 = .ok (.bipush (-2), 2) := by decide +kernel
theorem dX12_ruled_29 : decode cX12_ruled 29 = .ok (.istore_n 3, 1) := by decide +kernel
theorem dX12_ruled_30 : decode cX12_ruled 30 = .ok (.aload_n 0, 1) := by decide +kernel
theorem dX12_ruled_31 : decode cX12_ruled 31 = .ok (.getfield 259, 3) := by decide +kernel
theorem dX12_ruled_34 : decode cX12_ruled 34 = .ok (.istore 4, 2) := by decide +kernel
theorem dX12_ruled_36 : decode cX12_ruled 36 = .ok (.iload 4, 2) := by decide +kernel
theorem dX12_ruled_38 : decode cX12_ruled 38 = .ok (.ifCond .lt 30, 3) := by decide +kernel
theorem dX12_ruled_41 : decode cX12_ruled 41 = .ok (.aload_n 0, 1) := by decide +kernel
theorem dX12_ruled_42 : decode cX12_ruled 42 = .ok (.getfield 67, 3) := by decide +kernel
theorem dX12_ruled_45 : decode cX12_ruled 45 = .ok (.iload 4, 2) := by decide +kernel
theorem dX12_ruled_47 : decode cX12_ruled 47 = .ok (.baload, 1) := by decide +kernel
theorem dX12_ruled_48 : decode cX12_ruled 48 = .ok (.ifCond .ne 6, 3) := by decide +kernel
theorem dX12_ruled_51 : decode cX12_ruled 51 = .ok (.goto 11, 3) := by decide +kernel
theorem dX12_ruled_54 : decode cX12_ruled 54 = .ok (.iload 4, 2) := by decide +kernel
theorem dX12_ruled_56 : decode cX12_ruled 56 = .ok (.iconst 1, 1) := by decide +kernel
theorem dX12_ruled_57 : decode cX12_ruled 57 = .ok (.isub, 1) := by decide +kernel
theorem dX12_ruled_58 : decode cX12_ruled 58 = .ok (.istore_n 3, 1) := by decide +kernel
theorem dX12_ruled_59 : decode cX12_ruled 59 = .ok (.iinc 2 1, 3) := by decide +kernel
theorem dX12_ruled_62 : decode cX12_ruled 62 = .ok (.iinc 4 (-1), 3) := by decide +kernel
theorem dX12_ruled_65 : decode cX12_ruled 65 = .ok (.goto (-29), 3) := by decide +kernel
theorem dX12_ruled_68 : decode cX12_ruled 68 = .ok (.iload_n 1, 1) := by decide +kernel
theorem dX12_ruled_69 : decode cX12_ruled 69 = .ok (.ifCond .ne 7, 3) := by decide +kernel
theorem dX12_ruled_72 : decode cX12_ruled 72 = .ok (.iload_n 2, 1) := by decide +kernel
theorem dX12_ruled_73 : decode cX12_ruled 73 = .ok (.goto 4, 3) := by decide +kernel
theorem dX12_ruled_76 : decode cX12_ruled 76 = .ok (.iload_n 3, 1) := by decide +kernel
theorem dX12_ruled_77 : decode cX12_ruled 77 = .ok (.ireturn, 1) := by decide +kernel
abbrev Mm_ruled : rx_M := (RX12, yX12_ruled, cX12_ruled, 5, (some .int), 10)
theorem km_ruled : rKv Mm_ruled 1 := ⟨tb_in (i := 35) (j := 22) rfl rfl, tb_in (i := 35) (j := 23) rfl rfl, tb_in (i := 17) (j := 21) rfl rfl, tb_in (i := 29) (j := 15) rfl rfl, ⟨by decide, by decide, by decide +kernel⟩, by decide⟩
def m_ruled_l36 (z_rules : Int32) (z_sign : Nat → Int32) (z_clause : Nat → Int32) (z_clauses : Nat → Int32) (z_stack : Nat → Int64) (z_top : Int32) (z_word : Nat → Int64) (z_said : Nat → Int32) (z_force : Int32) (z_absent : Int32) (z_isRaining : Int32) (z_kept : Nat → Int32) (z_isFit : Nat → Int32) (z_tillThen : Nat → Int32) (x1 : Int32) : Nat → Int32 → Int32 → Int32 → Option (Int32 × (Nat → Int64) × Int32 × (Nat → Int64) × (Nat → Int32) × Int32 × Int32 × (Nat → Int32) × (Nat → Int32) × (Nat → Int32))
  | 0, _, _, _ => none
  | n + 1, x2, x3, x4 => (if x4 < 0 then (if x1 = 0 then some (x2, z_stack, z_top, z_word, z_said, z_force, z_isRaining, z_kept, z_isFit, z_tillThen) else some (x3, z_stack, z_top, z_word, z_said, z_force, z_isRaining, z_kept, z_isFit, z_tillThen)) else rq (inb x4 7) ((if (z_isFit x4.toNatClampNeg) = 0 then m_ruled_l36 z_rules z_sign z_clause z_clauses z_stack z_top z_word z_said z_force z_absent z_isRaining z_kept z_isFit z_tillThen x1 n x2 x3 (x4 + (-1 : Int32)) else lt (x4 - (1 : Int32)) (fun y10 => m_ruled_l36 z_rules z_sign z_clause z_clauses z_stack z_top z_word z_said z_force z_absent z_isRaining z_kept z_isFit z_tillThen x1 n (x2 + (1 : Int32)) y10 (x4 + (-1 : Int32))))))
set_option maxRecDepth 20000 in
theorem cm_ruled_l36 {q : Int32 × (Nat → Int64) × Int32 × (Nat → Int64) × (Nat → Int32) × Int32 × Int32 × (Nat → Int32) × (Nat → Int32) × (Nat → Int32)} {x1 : Int32}  : ∀ (n : Nat) (x2 : Int32) (x3 : Int32) (x4 : Int32), m_ruled_l36 z_rules z_sign z_clause z_clauses z_stack z_top z_word z_said z_force z_absent z_isRaining z_kept z_isFit z_tillThen x1 n x2 x3 x4 = some q → rW l D Z (ty7 K) Mm_ruled 36 [(0, .ref (ad 0)), (1, .int x1), (2, .int x2), (3, .int x3), (4, .int x4)] [] (wM K ad z_tape z_taped z_rules z_sign z_length z_clause z_clauses z_read z_next z_wrong z_number z_text z_made z_deep z_lines z_open z_opened z_stack z_top z_word z_said z_force z_x z_absent z_isRaining z_wasSaid z_undone z_kept z_order z_bestOrder z_hasBy z_wealthThen z_isFit z_tillThen z_drawX z_images z_imageForce z_imageX z_isMade) (wM K ad z_tape z_taped z_rules z_sign z_length z_clause z_clauses z_read z_next z_wrong z_number z_text z_made z_deep z_lines z_open z_opened q.2.1 q.2.2.1 q.2.2.2.1 q.2.2.2.2.1 q.2.2.2.2.2.1 z_x z_absent q.2.2.2.2.2.2.1 z_wasSaid z_undone q.2.2.2.2.2.2.2.1 z_order z_bestOrder z_hasBy z_wealthThen q.2.2.2.2.2.2.2.2.1 q.2.2.2.2.2.2.2.2.2 z_drawX z_images z_imageForce z_imageX z_isMade) (some (.int q.1)) := by
  intro n
  induction n with
  | zero => intro x2 x3 x4 h; unfold m_ruled_l36 at h; cases h
  | succ n ih =>
    intro x2 x3 x4 h
    unfold m_ruled_l36 at h
    refine r_iload 4 dX12_ruled_36 rfl ?_
    refine r_if_lt 68 dX12_ruled_38 (by decide) (fun c6 => ?_) (fun c6 => ?_)
    · replace h := it_pos c6 h
      refine r_iload_n 1 dX12_ruled_68 rfl ?_
      refine r_if_ne 76 dX12_ruled_69 (by decide) (fun c7 => ?_) (fun c7 => ?_)
      · replace h := it_neg c7 h
        refine r_iload_n 3 dX12_ruled_76 rfl ?_
        have hq := Option.some.inj h
        subst hq
        exact r_iret rfl dX12_ruled_77
      · replace h := it_pos c7 h
        refine r_iload_n 2 dX12_ruled_72 rfl ?_
        refine r_goto 77 dX12_ruled_73 (by decide) ?_
        have hq := Option.some.inj h
        subst hq
        exact r_iret rfl dX12_ruled_77
    · replace h := it_neg c6 h
      refine r_aload_n 0 dX12_ruled_41 rfl ?_
      refine gM_isFit rfl dX12_ruled_42 ?_
      refine r_iload 4 dX12_ruled_45 rfl ?_
      obtain ⟨h8, h⟩ := rq_some h
      refine lM_isFit (inb_in h8) dX12_ruled_47 ?_
      refine r_if_ne 54 dX12_ruled_48 (by decide) (fun c9 => ?_) (fun c9 => ?_)
      · replace h := it_neg c9 h
        refine r_iload 4 dX12_ruled_54 rfl ?_
        refine r_iconst (x := (1 : Int32)) dX12_ruled_56 (by decide) ?_
        refine r_isub dX12_ruled_57 ?_
        obtain ⟨y10, e10, h⟩ := lt_some h
        refine r_top e10 ?_
        refine r_istore_n (lv' := [(3, .int y10), (0, .ref (ad 0)), (1, .int x1), (2, .int x2), (4, .int x4)]) dX12_ruled_58 (by decide) rfl ?_
        refine r_iinc (y := (x2 + (1 : Int32))) (lv' := [(2, .int (x2 + (1 : Int32))), (3, .int y10), (0, .ref (ad 0)), (1, .int x1), (4, .int x4)]) 3 dX12_ruled_59 rfl rfl (by decide) rfl ?_
        refine r_iinc (y := (x4 + (-1 : Int32))) (lv' := [(4, .int (x4 + (-1 : Int32))), (2, .int (x2 + (1 : Int32))), (3, .int y10), (0, .ref (ad 0)), (1, .int x1)]) 4 dX12_ruled_62 rfl rfl (by decide) rfl ?_
        refine r_goto 36 dX12_ruled_65 (by decide) ?_
        refine r_sub (lv' := [(0, .ref (ad 0)), (1, .int x1), (2, .int (x2 + (1 : Int32))), (3, .int y10), (4, .int (x4 + (-1 : Int32)))]) [3, 4, 1, 2, 0] rfl ?_
        exact ih _ _ _ h
      · replace h := it_pos c9 h
        refine r_goto 62 dX12_ruled_51 (by decide) ?_
        refine r_iinc (y := (x4 + (-1 : Int32))) (lv' := [(4, .int (x4 + (-1 : Int32))), (0, .ref (ad 0)), (1, .int x1), (2, .int x2), (3, .int x3)]) 4 dX12_ruled_62 rfl rfl (by decide) rfl ?_
        refine r_goto 36 dX12_ruled_65 (by decide) ?_
        refine r_sub (lv' := [(0, .ref (ad 0)), (1, .int x1), (2, .int x2), (3, .int x3), (4, .int (x4 + (-1 : Int32)))]) [1, 2, 3, 4, 0] rfl ?_
        exact ih _ _ _ h
def m_ruled (x1 : Int32) (z_rules : Int32) (z_sign : Nat → Int32) (z_clause : Nat → Int32) (z_clauses : Nat → Int32) (z_stack : Nat → Int64) (z_top : Int32) (z_word : Nat → Int64) (z_said : Nat → Int32) (z_force : Int32) (z_absent : Int32) (z_isRaining : Int32) (z_kept : Nat → Int32) (z_isFit : Nat → Int32) (z_tillThen : Nat → Int32) : Option (Int32 × (Nat → Int64) × Int32 × (Nat → Int64) × (Nat → Int32) × Int32 × Int32 × (Nat → Int32) × (Nat → Int32) × (Nat → Int32)) := (m_isFair z_said).bind (fun q1 => (if q1 = 0 then some ((-3 : Int32), z_stack, z_top, z_word, z_said, z_force, z_isRaining, z_kept, z_isFit, z_tillThen) else (m_in (x1.toInt64) (0 : Int64) (1 : Int64)).bind (fun q3 => (if q3 = 0 then some ((-3 : Int32), z_stack, z_top, z_word, z_said, z_force, z_isRaining, z_kept, z_isFit, z_tillThen) else (m_fillsFits (0 : Int32) z_rules z_sign z_clause z_clauses z_stack z_top z_word z_said z_force z_absent z_isRaining z_kept z_isFit z_tillThen).bind (fun q5 => m_ruled_l36 z_rules z_sign z_clause z_clauses q5.1 q5.2.1 q5.2.2.1 q5.2.2.2.1 q5.2.2.2.2.1 z_absent q5.2.2.2.2.2.1 q5.2.2.2.2.2.2.1 q5.2.2.2.2.2.2.2.1 q5.2.2.2.2.2.2.2.2 x1 FU (0 : Int32) (-2 : Int32) z_rules)))))
set_option maxRecDepth 20000 in
theorem cm_ruled {q : Int32 × (Nat → Int64) × Int32 × (Nat → Int64) × (Nat → Int32) × Int32 × Int32 × (Nat → Int32) × (Nat → Int32) × (Nat → Int32)} {x1 : Int32} (h : m_ruled x1 z_rules z_sign z_clause z_clauses z_stack z_top z_word z_said z_force z_absent z_isRaining z_kept z_isFit z_tillThen = some q) : rMet l D Z (ty7 K) Mm_ruled [.ref (ad 0), .int x1] (wM K ad z_tape z_taped z_rules z_sign z_length z_clause z_clauses z_read z_next z_wrong z_number z_text z_made z_deep z_lines z_open z_opened z_stack z_top z_word z_said z_force z_x z_absent z_isRaining z_wasSaid z_undone z_kept z_order z_bestOrder z_hasBy z_wealthThen z_isFit z_tillThen z_drawX z_images z_imageForce z_imageX z_isMade) (wM K ad z_tape z_taped z_rules z_sign z_length z_clause z_clauses z_read z_next z_wrong z_number z_text z_made z_deep z_lines z_open z_opened q.2.1 q.2.2.1 q.2.2.2.1 q.2.2.2.2.1 q.2.2.2.2.2.1 z_x z_absent q.2.2.2.2.2.2.1 z_wasSaid z_undone q.2.2.2.2.2.2.2.1 z_order z_bestOrder z_hasBy z_wealthThen q.2.2.2.2.2.2.2.2.1 q.2.2.2.2.2.2.2.2.2 z_drawX z_images z_imageForce z_imageX z_isMade) (some (.int q.1)) := by
  refine rMet.of (by decide) rfl (Nat.le_of_ble_eq_true rfl) ?_
  refine r_sub (lv' := [(0, .ref (ad 0)), (1, .int x1)]) [0, 1] rfl ?_
  unfold m_ruled at h
  refine r_aload_n 0 dX12_ruled_0 rfl ?_
  obtain ⟨q1, h1, h⟩ := bd_some h
  refine cvM (st := []) (cm_isFair h1) rfl rfl (Nat.le_of_ble_eq_true rfl) km_isFair (tb_in (i := 26) (j := 2) rfl rfl) (by decide) rfl dX12_ruled_1 ?_
  refine r_if_eq 17 dX12_ruled_4 (by decide) (fun c2 => ?_) (fun c2 => ?_)
  · replace h := it_pos c2 h
    refine r_bipush (x := (-3 : Int32)) dX12_ruled_17 (by decide) ?_
    have hq := Option.some.inj h
    subst hq
    exact r_iret rfl dX12_ruled_19
  · replace h := it_neg c2 h
    refine r_iload_n 1 dX12_ruled_7 rfl ?_
    refine r_i2l dX12_ruled_8 ?_
    refine r_lconst (x := (0 : Int64)) dX12_ruled_9 (by decide) ?_
    refine r_lconst (x := (1 : Int64)) dX12_ruled_10 (by decide) ?_
    obtain ⟨q3, h3, h⟩ := bd_some h
    refine r_callS (st := []) (cm_in h3) rfl rfl (Nat.le_of_ble_eq_true rfl) km_in (tb_in (i := 18) (j := 20) rfl rfl) (by decide) dX12_ruled_11 ?_
    refine r_if_ne 20 dX12_ruled_14 (by decide) (fun c4 => ?_) (fun c4 => ?_)
    · replace h := it_neg c4 h
      refine r_aload_n 0 dX12_ruled_20 rfl ?_
      refine r_iconst (x := (0 : Int32)) dX12_ruled_21 (by decide) ?_
      obtain ⟨q5, h5, h⟩ := bd_some h
      refine cvM (st := []) (cm_fillsFits h5) rfl rfl (Nat.le_of_ble_eq_true rfl) km_fillsFits (tb_in (i := 29) (j := 12) rfl rfl) (by decide) rfl dX12_ruled_22 ?_
      refine r_iconst (x := (0 : Int32)) dX12_ruled_25 (by decide) ?_
      refine r_istore_n (lv' := [(2, .int (0 : Int32)), (0, .ref (ad 0)), (1, .int x1)]) dX12_ruled_26 (by decide) rfl ?_
      refine r_bipush (x := (-2 : Int32)) dX12_ruled_27 (by decide) ?_
      refine r_istore_n (lv' := [(3, .int (-2 : Int32)), (2, .int (0 : Int32)), (0, .ref (ad 0)), (1, .int x1)]) dX12_ruled_29 (by decide) rfl ?_
      refine r_aload_n 2 dX12_ruled_30 rfl ?_
      refine gM_rules rfl dX12_ruled_31 ?_
      refine r_istore (lv' := [(4, .int z_rules), (3, .int (-2 : Int32)), (2, .int (0 : Int32)), (0, .ref (ad 0)), (1, .int x1)]) dX12_ruled_34 (by decide) rfl ?_
      refine r_sub (lv' := [(0, .ref (ad 0)), (1, .int x1), (2, .int (0 : Int32)), (3, .int (-2 : Int32)), (4, .int z_rules)]) [3, 4, 2, 1, 0] rfl ?_
      exact cm_ruled_l36  FU _ _ _ h
    · replace h := it_pos c4 h
      refine r_bipush (x := (-3 : Int32)) dX12_ruled_17 (by decide) ?_
      have hq := Option.some.inj h
      subst hq
      exact r_iret rfl dX12_ruled_19
theorem dX12_alikeAt_0 : decode cX12_alikeAt 0 = .ok (.iconst 0, 1) := by decide +kernel
theorem dX12_alikeAt_1 : decode cX12_alikeAt 1 = .ok (.istore_n 2, 1) := by decide +kernel
theorem dX12_alikeAt_2 : decode cX12_alikeAt 2 = .ok (.iconst 0, 1) := by decide +kernel
theorem dX12_alikeAt_3 : decode cX12_alikeAt 3 = .ok (.istore_n 3, 1) := by decide +kernel
theorem dX12_alikeAt_4 : decode cX12_alikeAt 4 = .ok (.iload_n 3, 1) := by decide +kernel
theorem dX12_alikeAt_5 : decode cX12_alikeAt 5 = .ok (.aload_n 0, 1) := by decide +kernel
theorem dX12_alikeAt_6 : decode cX12_alikeAt 6 = .ok (.getfield 259, 3) := by decide +kernel
theorem dX12_alikeAt_9 : decode cX12_alikeAt 9 = .ok (.if_icmp .gt 98, 3) := by decide +kernel
theorem dX12_alikeAt_12 : decode cX12_alikeAt 12 = .ok (.iconst 0, 1) := by decide +kernel
theorem dX12_alikeAt_13 : decode cX12_alikeAt 13 = .ok (.istore 4, 2) := by decide +kernel
theorem dX12_alikeAt_15 : decode cX12_alikeAt 15 = .ok (.iconst 0, 1) := by decide +kernel
theorem dX12_alikeAt_16 : decode cX12_alikeAt 16 = .ok (.istore 5, 2) := by decide +kernel
theorem dX12_alikeAt_18 : decode cX12_alikeAt 18 = .ok (.iload 5, 2) := by decide +kernel
theorem dX12_alikeAt_20 : decode cX12_alikeAt 20 = .ok (.aload_n 0, 1) := by decide +kernel
theorem dX12_alikeAt_21 : decode cX12_alikeAt 21 = .ok (.getfield 259, 3) := by decide +kernel
theorem dX12_alikeAt_24 : decode cX12_alikeAt 24 = .ok (.if_icmp .gt 64, 3) := by decide +kernel
theorem dX12_alikeAt_27 : decode cX12_alikeAt 27 = .ok (.aload_n 0, 1) := by decide +kernel
theorem dX12_alikeAt_28 : decode cX12_alikeAt 28 = .ok (.getfield 67, 3) := by decide +kernel
theorem dX12_alikeAt_31 : decode cX12_alikeAt 31 = .ok (.iload_n 3, 1) := by decide +kernel
theorem dX12_alikeAt_32 : decode cX12_alikeAt 32 = .ok (.baload, 1) := by decide +kernel
theorem dX12_alikeAt_33 : decode cX12_alikeAt 33 = .ok (.ifCond .eq 55, 3) := by decide +kernel
theorem dX12_alikeAt_36 : decode cX12_alikeAt 36 = .ok (.iload 4, 2) := by decide +kernel
theorem dX12_alikeAt_38 : decode cX12_alikeAt 38 = .ok (.aload_n 0, 1) := by decide +kernel
theorem dX12_alikeAt_39 : decode cX12_alikeAt 39 = .ok (.getfield 67, 3) := by decide +kernel
theorem dX12_alikeAt_42 : decode cX12_alikeAt 42 = .ok (.iload 5, 2) := by decide +kernel
theorem dX12_alikeAt_44 : decode cX12_alikeAt 44 = .ok (.baload, 1) := by decide +kernel
theorem dX12_alikeAt_45 : decode cX12_alikeAt 45 = .ok (.ifCond .eq 33, 3) := by decide +kernel
theorem dX12_alikeAt_48 : decode cX12_alikeAt 48 = .ok (.aload_n 0, 1) := by decide +kernel
theorem dX12_alikeAt_49 : decode cX12_alikeAt 49 = .ok (.getfield 71, 3) := by decide +kernel
theorem dX12_alikeAt_52 : decode cX12_alikeAt 52 = .ok (.bipush 6, 2) := by decide +kernel
theorem dX12_alikeAt_54 : decode cX12_alikeAt 54 = .ok (.iload_n 3, 1) := by decide +kernel
theorem dX12_alikeAt_55 : decode cX12_alikeAt 55 = .ok (.imul, 1) := by decide +kernel
theorem dX12_alikeAt_56 : decode cX12_alikeAt 56 = .ok (.iload_n 1, 1) := by decide +kernel
theorem dX12_alikeAt_57 : decode cX12_alikeAt 57 = .ok (.iadd, 1) := by decide +kernel
theorem dX12_alikeAt_58 : decode cX12_alikeAt 58 = .ok (.iaload, 1) := by decide +kernel
theorem dX12_alikeAt_59 : decode cX12_alikeAt 59 = .ok (.aload_n 0, 1) := by decide +kernel
theorem dX12_alikeAt_60 : decode cX12_alikeAt 60 = .ok (.getfield 71, 3) := by decide +kernel
theorem dX12_alikeAt_63 : decode cX12_alikeAt 63 = .ok (.bipush 6, 2) := by decide +kernel
theorem dX12_alikeAt_65 : decode cX12_alikeAt 65 = .ok (.iload 5, 2) := by decide +kernel
theorem dX12_alikeAt_67 : decode cX12_alikeAt 67 = .ok (.imul, 1) := by decide +kernel
theorem dX12_alikeAt_68 : decode cX12_alikeAt 68 = .ok (.iload_n 1, 1) := by decide +kernel
theorem dX12_alikeAt_69 : decode cX12_alikeAt 69 = .ok (.iadd, 1) := by decide +kernel
theorem dX12_alikeAt_70 : decode cX12_alikeAt 70 = .ok (.iaload, 1) := by decide +kernel
theorem dX12_alikeAt_71 : decode cX12_alikeAt 71 = .ok (.if_icmp .ne 7, 3) := by decide +kernel
theorem dX12_alikeAt_74 : decode cX12_alikeAt 74 = .ok (.iconst 1, 1) := by decide +kernel
theorem dX12_alikeAt_75 : decode cX12_alikeAt 75 = .ok (.goto 4, 3) := by decide +kernel
theorem dX12_alikeAt_78 : decode cX12_alikeAt 78 = .ok (.iconst 0, 1) := by decide +kernel
theorem dX12_alikeAt_79 : decode cX12_alikeAt 79 = .ok (.iadd, 1) := by decide +kernel
theorem dX12_alikeAt_80 : decode cX12_alikeAt 80 = .ok (.istore 4, 2) := by decide +kernel
theorem dX12_alikeAt_82 : decode cX12_alikeAt 82 = .ok (.iinc 5 1, 3) := by decide +kernel
theorem dX12_alikeAt_85 : decode cX12_alikeAt 85 = .ok (.goto (-67), 3) := by decide +kernel
theorem dX12_alikeAt_88 : decode cX12_alikeAt 88 = .ok (.iload 4, 2) := by decide +kernel
theorem dX12_alikeAt_90 : decode cX12_alikeAt 90 = .ok (.iload_n 2, 1) := by decide +kernel
theorem dX12_alikeAt_91 : decode cX12_alikeAt 91 = .ok (.if_icmp .le 8, 3) := by decide +kernel
theorem dX12_alikeAt_94 : decode cX12_alikeAt 94 = .ok (.iload 4, 2) := by decide +kernel
theorem dX12_alikeAt_96 : decode cX12_alikeAt 96 = .ok (.goto 4, 3) := by decide +kernel
theorem dX12_alikeAt_99 : decode cX12_alikeAt 99 = .ok (.iload_n 2, 1) := by decide +kernel
theorem dX12_alikeAt_100 : decode cX12_alikeAt 100 = .ok (.istore_n 2, 1) := by decide +kernel
theorem dX12_alikeAt_101 : decode cX12_alikeAt 101 = .ok (.iinc 3 1, 3) := by decide +kernel
theorem dX12_alikeAt_104 : decode cX12_alikeAt 104 = .ok (.goto (-100), 3) := by decide +kernel
theorem dX12_alikeAt_107 : decode cX12_alikeAt 107 = .ok (.iload_n 2, 1) := by decide +kernel
theorem dX12_alikeAt_108 : decode cX12_alikeAt 108 = .ok (.ireturn, 1) := by decide +kernel
abbrev Mm_alikeAt : rx_M := (RX12, yX12_alikeAt, cX12_alikeAt, 6, (some .int), 1)
theorem km_alikeAt : rKv Mm_alikeAt 1 := ⟨tb_in (i := 29) (j := 18) rfl rfl, tb_in (i := 29) (j := 19) rfl rfl, tb_in (i := 17) (j := 21) rfl rfl, tb_in (i := 29) (j := 16) rfl rfl, ⟨by decide, by decide, by decide +kernel⟩, by decide⟩
def m_alikeAt_l18 (z_rules : Int32) (z_isFit : Nat → Int32) (z_tillThen : Nat → Int32) (x1 : Int32) (x2 : Int32) (x3 : Int32) (k4 : Int32 → Int32 → Option (Int32)) : Nat → Int32 → Int32 → Option (Int32)
  | 0, _, _ => none
  | n + 1, x4, x5 => (if z_rules < x5 then (if x4 ≤ x2 then k4 x2 (x3 + (1 : Int32)) else k4 x4 (x3 + (1 : Int32))) else rq (inb x3 7) ((if (z_isFit x3.toNatClampNeg) = 0 then (if x4 ≤ x2 then k4 x2 (x3 + (1 : Int32)) else k4 x4 (x3 + (1 : Int32))) else rq (inb x5 7) ((if (z_isFit x5.toNatClampNeg) = 0 then lt (x4 + (0 : Int32)) (fun y9 => m_alikeAt_l18 z_rules z_isFit z_tillThen x1 x2 x3 k4 n y9 (x5 + (1 : Int32))) else rq (inb (((6 : Int32) * x3) + x1) 42) (rq (inb (((6 : Int32) * x5) + x1) 42) ((if (z_tillThen (((6 : Int32) * x3) + x1).toNatClampNeg) = (z_tillThen (((6 : Int32) * x5) + x1).toNatClampNeg) then lt (x4 + (1 : Int32)) (fun y14 => m_alikeAt_l18 z_rules z_isFit z_tillThen x1 x2 x3 k4 n y14 (x5 + (1 : Int32))) else lt (x4 + (0 : Int32)) (fun y13 => m_alikeAt_l18 z_rules z_isFit z_tillThen x1 x2 x3 k4 n y13 (x5 + (1 : Int32)))))))))))
set_option maxRecDepth 20000 in
theorem cm_alikeAt_l18 {q : Int32} {x1 : Int32} {x2 : Int32} {x3 : Int32} {k4 : Int32 → Int32 → Option (Int32)} (hk4 : ∀ (x2 : Int32) (x3 : Int32), k4 x2 x3 = some q → rW l D Z (ty7 K) Mm_alikeAt 4 [(0, .ref (ad 0)), (1, .int x1), (2, .int x2), (3, .int x3)] [] (wM K ad z_tape z_taped z_rules z_sign z_length z_clause z_clauses z_read z_next z_wrong z_number z_text z_made z_deep z_lines z_open z_opened z_stack z_top z_word z_said z_force z_x z_absent z_isRaining z_wasSaid z_undone z_kept z_order z_bestOrder z_hasBy z_wealthThen z_isFit z_tillThen z_drawX z_images z_imageForce z_imageX z_isMade) (wM K ad z_tape z_taped z_rules z_sign z_length z_clause z_clauses z_read z_next z_wrong z_number z_text z_made z_deep z_lines z_open z_opened z_stack z_top z_word z_said z_force z_x z_absent z_isRaining z_wasSaid z_undone z_kept z_order z_bestOrder z_hasBy z_wealthThen z_isFit z_tillThen z_drawX z_images z_imageForce z_imageX z_isMade) (some (.int q))) : ∀ (n : Nat) (x4 : Int32) (x5 : Int32), m_alikeAt_l18 z_rules z_isFit z_tillThen x1 x2 x3 k4 n x4 x5 = some q → rW l D Z (ty7 K) Mm_alikeAt 18 [(0, .ref (ad 0)), (1, .int x1), (2, .int x2), (3, .int x3), (4, .int x4), (5, .int x5)] [] (wM K ad z_tape z_taped z_rules z_sign z_length z_clause z_clauses z_read z_next z_wrong z_number z_text z_made z_deep z_lines z_open z_opened z_stack z_top z_word z_said z_force z_x z_absent z_isRaining z_wasSaid z_undone z_kept z_order z_bestOrder z_hasBy z_wealthThen z_isFit z_tillThen z_drawX z_images z_imageForce z_imageX z_isMade) (wM K ad z_tape z_taped z_rules z_sign z_length z_clause z_clauses z_read z_next z_wrong z_number z_text z_made z_deep z_lines z_open z_opened z_stack z_top z_word z_said z_force z_x z_absent z_isRaining z_wasSaid z_undone z_kept z_order z_bestOrder z_hasBy z_wealthThen z_isFit z_tillThen z_drawX z_images z_imageForce z_imageX z_isMade) (some (.int q)) := by
  intro n
  induction n with
  | zero => intro x4 x5 h; unfold m_alikeAt_l18 at h; cases h
  | succ n ih =>
    intro x4 x5 h
    unfold m_alikeAt_l18 at h
    refine r_iload 5 dX12_alikeAt_18 rfl ?_
    refine r_aload_n 0 dX12_alikeAt_20 rfl ?_
    refine gM_rules rfl dX12_alikeAt_21 ?_
    refine r_icmp_gt 88 dX12_alikeAt_24 (by decide) (fun c2 => ?_) (fun c2 => ?_)
    · replace h := it_pos c2 h
      refine r_iload 4 dX12_alikeAt_88 rfl ?_
      refine r_iload_n 2 dX12_alikeAt_90 rfl ?_
      refine r_icmp_le 99 dX12_alikeAt_91 (by decide) (fun c3 => ?_) (fun c3 => ?_)
      · replace h := it_pos c3 h
        refine r_iload_n 2 dX12_alikeAt_99 rfl ?_
        refine r_istore_n (lv' := [(2, .int x2), (0, .ref (ad 0)), (1, .int x1), (3, .int x3), (4, .int x4), (5, .int x5)]) dX12_alikeAt_100 (by decide) rfl ?_
        refine r_iinc (y := (x3 + (1 : Int32))) (lv' := [(3, .int (x3 + (1 : Int32))), (2, .int x2), (0, .ref (ad 0)), (1, .int x1), (4, .int x4), (5, .int x5)]) 3 dX12_alikeAt_101 rfl rfl (by decide) rfl ?_
        refine r_goto 4 dX12_alikeAt_104 (by decide) ?_
        refine r_sub (lv' := [(0, .ref (ad 0)), (1, .int x1), (2, .int x2), (3, .int (x3 + (1 : Int32)))]) [2, 3, 1, 0] rfl ?_
        exact hk4 _ _ h
      · replace h := it_neg c3 h
        refine r_iload 4 dX12_alikeAt_94 rfl ?_
        refine r_goto 100 dX12_alikeAt_96 (by decide) ?_
        refine r_istore_n (lv' := [(2, .int x4), (0, .ref (ad 0)), (1, .int x1), (3, .int x3), (4, .int x4), (5, .int x5)]) dX12_alikeAt_100 (by decide) rfl ?_
        refine r_iinc (y := (x3 + (1 : Int32))) (lv' := [(3, .int (x3 + (1 : Int32))), (2, .int x4), (0, .ref (ad 0)), (1, .int x1), (4, .int x4), (5, .int x5)]) 3 dX12_alikeAt_101 rfl rfl (by decide) rfl ?_
        refine r_goto 4 dX12_alikeAt_104 (by decide) ?_
        refine r_sub (lv' := [(0, .ref (ad 0)), (1, .int x1), (2, .int x4), (3, .int (x3 + (1 : Int32)))]) [2, 3, 1, 0] rfl ?_
        exact hk4 _ _ h
    · replace h := it_neg c2 h
      refine r_aload_n 0 dX12_alikeAt_27 rfl ?_
      refine gM_isFit rfl dX12_alikeAt_28 ?_
      refine r_iload_n 3 dX12_alikeAt_31 rfl ?_
      obtain ⟨h4, h⟩ := rq_some h
      refine lM_isFit (inb_in h4) dX12_alikeAt_32 ?_
      refine r_if_eq 88 dX12_alikeAt_33 (by decide) (fun c5 => ?_) (fun c5 => ?_)
      · replace h := it_pos c5 h
        refine r_iload 4 dX12_alikeAt_88 rfl ?_
        refine r_iload_n 2 dX12_alikeAt_90 rfl ?_
        refine r_icmp_le 99 dX12_alikeAt_91 (by decide) (fun c6 => ?_) (fun c6 => ?_)
        · replace h := it_pos c6 h
          refine r_iload_n 2 dX12_alikeAt_99 rfl ?_
          refine r_istore_n (lv' := [(2, .int x2), (0, .ref (ad 0)), (1, .int x1), (3, .int x3), (4, .int x4), (5, .int x5)]) dX12_alikeAt_100 (by decide) rfl ?_
          refine r_iinc (y := (x3 + (1 : Int32))) (lv' := [(3, .int (x3 + (1 : Int32))), (2, .int x2), (0, .ref (ad 0)), (1, .int x1), (4, .int x4), (5, .int x5)]) 3 dX12_alikeAt_101 rfl rfl (by decide) rfl ?_
          refine r_goto 4 dX12_alikeAt_104 (by decide) ?_
          refine r_sub (lv' := [(0, .ref (ad 0)), (1, .int x1), (2, .int x2), (3, .int (x3 + (1 : Int32)))]) [2, 3, 1, 0] rfl ?_
          exact hk4 _ _ h
        · replace h := it_neg c6 h
          refine r_iload 4 dX12_alikeAt_94 rfl ?_
          refine r_goto 100 dX12_alikeAt_96 (by decide) ?_
          refine r_istore_n (lv' := [(2, .int x4), (0, .ref (ad 0)), (1, .int x1), (3, .int x3), (4, .int x4), (5, .int x5)]) dX12_alikeAt_100 (by decide) rfl ?_
          refine r_iinc (y := (x3 + (1 : Int32))) (lv' := [(3, .int (x3 + (1 : Int32))), (2, .int x4), (0, .ref (ad 0)), (1, .int x1), (4, .int x4), (5, .int x5)]) 3 dX12_alikeAt_101 rfl rfl (by decide) rfl ?_
          refine r_goto 4 dX12_alikeAt_104 (by decide) ?_
          refine r_sub (lv' := [(0, .ref (ad 0)), (1, .int x1), (2, .int x4), (3, .int (x3 + (1 : Int32)))]) [2, 3, 1, 0] rfl ?_
          exact hk4 _ _ h
      · replace h := it_neg c5 h
        refine r_iload 4 dX12_alikeAt_36 rfl ?_
        refine r_aload_n 0 dX12_alikeAt_38 rfl ?_
        refine gM_isFit rfl dX12_alikeAt_39 ?_
        refine r_iload 5 dX12_alikeAt_42 rfl ?_
        obtain ⟨h7, h⟩ := rq_some h
        refine lM_isFit (inb_in h7) dX12_alikeAt_44 ?_
        refine r_if_eq 78 dX12_alikeAt_45 (by decide) (fun c8 => ?_) (fun c8 => ?_)
        · replace h := it_pos c8 h
          refine r_iconst (x := (0 : Int32)) dX12_alikeAt_78 (by decide) ?_
          refine r_iadd dX12_alikeAt_79 ?_
          obtain ⟨y9, e9, h⟩ := lt_some h
          refine r_top e9 ?_
          refine r_istore (lv' := [(4, .int y9), (0, .ref (ad 0)), (1, .int x1), (2, .int x2), (3, .int x3), (5, .int x5)]) dX12_alikeAt_80 (by decide) rfl ?_
          refine r_iinc (y := (x5 + (1 : Int32))) (lv' := [(5, .int (x5 + (1 : Int32))), (4, .int y9), (0, .ref (ad 0)), (1, .int x1), (2, .int x2), (3, .int x3)]) 5 dX12_alikeAt_82 rfl rfl (by decide) rfl ?_
          refine r_goto 18 dX12_alikeAt_85 (by decide) ?_
          refine r_sub (lv' := [(0, .ref (ad 0)), (1, .int x1), (2, .int x2), (3, .int x3), (4, .int y9), (5, .int (x5 + (1 : Int32)))]) [2, 3, 4, 5, 1, 0] rfl ?_
          exact ih _ _ h
        · replace h := it_neg c8 h
          refine r_aload_n 0 dX12_alikeAt_48 rfl ?_
          refine gM_tillThen rfl dX12_alikeAt_49 ?_
          refine r_bipush (x := (6 : Int32)) dX12_alikeAt_52 (by decide) ?_
          refine r_iload_n 3 dX12_alikeAt_54 rfl ?_
          refine r_imul dX12_alikeAt_55 ?_
          refine r_iload_n 1 dX12_alikeAt_56 rfl ?_
          refine r_iadd dX12_alikeAt_57 ?_
          obtain ⟨h10, h⟩ := rq_some h
          refine lM_tillThen (inb_in h10) dX12_alikeAt_58 ?_
          refine r_aload_n 0 dX12_alikeAt_59 rfl ?_
          refine gM_tillThen rfl dX12_alikeAt_60 ?_
          refine r_bipush (x := (6 : Int32)) dX12_alikeAt_63 (by decide) ?_
          refine r_iload 5 dX12_alikeAt_65 rfl ?_
          refine r_imul dX12_alikeAt_67 ?_
          refine r_iload_n 1 dX12_alikeAt_68 rfl ?_
          refine r_iadd dX12_alikeAt_69 ?_
          obtain ⟨h11, h⟩ := rq_some h
          refine lM_tillThen (inb_in h11) dX12_alikeAt_70 ?_
          refine r_icmp_ne 78 dX12_alikeAt_71 (by decide) (fun c12 => ?_) (fun c12 => ?_)
          · replace h := it_neg c12 h
            refine r_iconst (x := (0 : Int32)) dX12_alikeAt_78 (by decide) ?_
            refine r_iadd dX12_alikeAt_79 ?_
            obtain ⟨y13, e13, h⟩ := lt_some h
            refine r_top e13 ?_
            refine r_istore (lv' := [(4, .int y13), (0, .ref (ad 0)), (1, .int x1), (2, .int x2), (3, .int x3), (5, .int x5)]) dX12_alikeAt_80 (by decide) rfl ?_
            refine r_iinc (y := (x5 + (1 : Int32))) (lv' := [(5, .int (x5 + (1 : Int32))), (4, .int y13), (0, .ref (ad 0)), (1, .int x1), (2, .int x2), (3, .int x3)]) 5 dX12_alikeAt_82 rfl rfl (by decide) rfl ?_
            refine r_goto 18 dX12_alikeAt_85 (by decide) ?_
            refine r_sub (lv' := [(0, .ref (ad 0)), (1, .int x1), (2, .int x2), (3, .int x3), (4, .int y13), (5, .int (x5 + (1 : Int32)))]) [2, 3, 4, 5, 1, 0] rfl ?_
            exact ih _ _ h
          · replace h := it_pos c12 h
            refine r_iconst (x := (1 : Int32)) dX12_alikeAt_74 (by decide) ?_
            refine r_goto 79 dX12_alikeAt_75 (by decide) ?_
            refine r_iadd dX12_alikeAt_79 ?_
            obtain ⟨y14, e14, h⟩ := lt_some h
            refine r_top e14 ?_
            refine r_istore (lv' := [(4, .int y14), (0, .ref (ad 0)), (1, .int x1), (2, .int x2), (3, .int x3), (5, .int x5)]) dX12_alikeAt_80 (by decide) rfl ?_
            refine r_iinc (y := (x5 + (1 : Int32))) (lv' := [(5, .int (x5 + (1 : Int32))), (4, .int y14), (0, .ref (ad 0)), (1, .int x1), (2, .int x2), (3, .int x3)]) 5 dX12_alikeAt_82 rfl rfl (by decide) rfl ?_
            refine r_goto 18 dX12_alikeAt_85 (by decide) ?_
            refine r_sub (lv' := [(0, .ref (ad 0)), (1, .int x1), (2, .int x2), (3, .int x3), (4, .int y14), (5, .int (x5 + (1 : Int32)))]) [2, 3, 4, 5, 1, 0] rfl ?_
            exact ih _ _ h
def m_alikeAt_l4 (z_rules : Int32) (z_isFit : Nat → Int32) (z_tillThen : Nat → Int32) (x1 : Int32) : Nat → Int32 → Int32 → Option (Int32)
  | 0, _, _ => none
  | n + 1, x2, x3 => (if z_rules < x3 then some (x2) else m_alikeAt_l18 z_rules z_isFit z_tillThen x1 x2 x3 (m_alikeAt_l4 z_rules z_isFit z_tillThen x1 n) FU (0 : Int32) (0 : Int32))
set_option maxRecDepth 20000 in
theorem cm_alikeAt_l4 {q : Int32} {x1 : Int32}  : ∀ (n : Nat) (x2 : Int32) (x3 : Int32), m_alikeAt_l4 z_rules z_isFit z_tillThen x1 n x2 x3 = some q → rW l D Z (ty7 K) Mm_alikeAt 4 [(0, .ref (ad 0)), (1, .int x1), (2, .int x2), (3, .int x3)] [] (wM K ad z_tape z_taped z_rules z_sign z_length z_clause z_clauses z_read z_next z_wrong z_number z_text z_made z_deep z_lines z_open z_opened z_stack z_top z_word z_said z_force z_x z_absent z_isRaining z_wasSaid z_undone z_kept z_order z_bestOrder z_hasBy z_wealthThen z_isFit z_tillThen z_drawX z_images z_imageForce z_imageX z_isMade) (wM K ad z_tape z_taped z_rules z_sign z_length z_clause z_clauses z_read z_next z_wrong z_number z_text z_made z_deep z_lines z_open z_opened z_stack z_top z_word z_said z_force z_x z_absent z_isRaining z_wasSaid z_undone z_kept z_order z_bestOrder z_hasBy z_wealthThen z_isFit z_tillThen z_drawX z_images z_imageForce z_imageX z_isMade) (some (.int q)) := by
  intro n
  induction n with
  | zero => intro x2 x3 h; unfold m_alikeAt_l4 at h; cases h
  | succ n ih =>
    intro x2 x3 h
    unfold m_alikeAt_l4 at h
    refine r_iload_n 3 dX12_alikeAt_4 rfl ?_
    refine r_aload_n 0 dX12_alikeAt_5 rfl ?_
    refine gM_rules rfl dX12_alikeAt_6 ?_
    refine r_icmp_gt 107 dX12_alikeAt_9 (by decide) (fun c1 => ?_) (fun c1 => ?_)
    · replace h := it_pos c1 h
      refine r_iload_n 2 dX12_alikeAt_107 rfl ?_
      have hq := Option.some.inj h
      subst hq
      exact r_iret rfl dX12_alikeAt_108
    · replace h := it_neg c1 h
      refine r_iconst (x := (0 : Int32)) dX12_alikeAt_12 (by decide) ?_
      refine r_istore (lv' := [(4, .int (0 : Int32)), (0, .ref (ad 0)), (1, .int x1), (2, .int x2), (3, .int x3)]) dX12_alikeAt_13 (by decide) rfl ?_
      refine r_iconst (x := (0 : Int32)) dX12_alikeAt_15 (by decide) ?_
      refine r_istore (lv' := [(5, .int (0 : Int32)), (4, .int (0 : Int32)), (0, .ref (ad 0)), (1, .int x1), (2, .int x2), (3, .int x3)]) dX12_alikeAt_16 (by decide) rfl ?_
      refine r_sub (lv' := [(0, .ref (ad 0)), (1, .int x1), (2, .int x2), (3, .int x3), (4, .int (0 : Int32)), (5, .int (0 : Int32))]) [2, 3, 4, 5, 1, 0] rfl ?_
      exact cm_alikeAt_l18 (ih) FU _ _ h
def m_alikeAt (x1 : Int32) (z_rules : Int32) (z_isFit : Nat → Int32) (z_tillThen : Nat → Int32) : Option (Int32) := m_alikeAt_l4 z_rules z_isFit z_tillThen x1 FU (0 : Int32) (0 : Int32)
set_option maxRecDepth 20000 in
theorem cm_alikeAt {q : Int32} {x1 : Int32} (h : m_alikeAt x1 z_rules z_isFit z_tillThen = some q) : rMet l D Z (ty7 K) Mm_alikeAt [.ref (ad 0), .int x1] (wM K ad z_tape z_taped z_rules z_sign z_length z_clause z_clauses z_read z_next z_wrong z_number z_text z_made z_deep z_lines z_open z_opened z_stack z_top z_word z_said z_force z_x z_absent z_isRaining z_wasSaid z_undone z_kept z_order z_bestOrder z_hasBy z_wealthThen z_isFit z_tillThen z_drawX z_images z_imageForce z_imageX z_isMade) (wM K ad z_tape z_taped z_rules z_sign z_length z_clause z_clauses z_read z_next z_wrong z_number z_text z_made z_deep z_lines z_open z_opened z_stack z_top z_word z_said z_force z_x z_absent z_isRaining z_wasSaid z_undone z_kept z_order z_bestOrder z_hasBy z_wealthThen z_isFit z_tillThen z_drawX z_images z_imageForce z_imageX z_isMade) (some (.int q)) := by
  refine rMet.of (by decide) rfl (Nat.le_of_ble_eq_true rfl) ?_
  refine r_sub (lv' := [(0, .ref (ad 0)), (1, .int x1)]) [0, 1] rfl ?_
  unfold m_alikeAt at h
  refine r_iconst (x := (0 : Int32)) dX12_alikeAt_0 (by decide) ?_
  refine r_istore_n (lv' := [(2, .int (0 : Int32)), (0, .ref (ad 0)), (1, .int x1)]) dX12_alikeAt_1 (by decide) rfl ?_
  refine r_iconst (x := (0 : Int32)) dX12_alikeAt_2 (by decide) ?_
  refine r_istore_n (lv' := [(3, .int (0 : Int32)), (2, .int (0 : Int32)), (0, .ref (ad 0)), (1, .int x1)]) dX12_alikeAt_3 (by decide) rfl ?_
  refine r_sub (lv' := [(0, .ref (ad 0)), (1, .int x1), (2, .int (0 : Int32)), (3, .int (0 : Int32))]) [2, 3, 1, 0] rfl ?_
  exact cm_alikeAt_l4  FU _ _ h
theorem dX12_look_0 : decode cX12_look 0 = .ok (.aload_n 0, 1) := by decide +kernel
theorem dX12_look_1 : decode cX12_look 1 = .ok (.invokevirtual 358, 3) := by decide +kernel
theorem dX12_look_4 : decode cX12_look 4 = .ok (.ifCond .eq 25, 3) := by decide +kernel
theorem dX12_look_7 : decode cX12_look 7 = .ok (.iload_n 1, 1) := by decide +kernel
theorem dX12_look_8 : decode cX12_look 8 = .ok (.i2l, 1) := by decide +kernel
theorem dX12_look_9 : decode cX12_look 9 = .ok (.lconst 0, 1) := by decide +kernel
theorem dX12_look_10 : decode cX12_look 10 = .ok (.ldc2_w 413, 3) := by decide +kernel
theorem dX12_look_13 : decode cX12_look 13 = .ok (.invokestatic 124, 3) := by decide +kernel
theorem dX12_look_16 : decode cX12_look 16 = .ok (.ifCond .eq 13, 3) := by decide +kernel
theorem dX12_look_19 : decode cX12_look 19 = .ok (.iload_n 2, 1) := by decide +kernel
theorem dX12_look_20 : decode cX12_look 20 = .ok (.i2l, 1) := by decide +kernel
theorem dX12_look_21 : decode cX12_look 21 = .ok (.lconst 0, 1) := by decide +kernel
theorem dX12_look_22 : decode cX12_look 22 = .ok (.lconst 1, 1) := by decide +kernel
theorem dX12_look_23 : decode cX12_look 23 = .ok (.invokestatic 124, 3) := by decide +kernel
theorem dX12_look_26 : decode cX12_look 26 = .ok (.ifCond .ne 5, 3) := by decide +kernel
theorem dX12_look_29 : decode cX12_look 29 = .ok (.iconst (-1), 1) := by decide +kernel
theorem dX12_look_30 : decode cX12_look 30 = .ok (.ireturn, 1) := by decide +kernel
theorem dX12_look_31 : decode cX12_look 31 = .ok (.aload_n 0, 1) := by decide +kernel
theorem dX12_look_32 : decode cX12_look 32 = .ok (.iload_n 1, 1) := by decide +kernel
theorem dX12_look_33 : decode cX12_look 33 = .ok (.invokevirtual 437, 3) := by decide +kernel
theorem dX12_look_36 : decode cX12_look 36 = .ok (.bipush (-2), 2) := by decide +kernel
theorem dX12_look_38 : decode cX12_look 38 = .ok (.istore_n 3, 1) := by decide +kernel
theorem dX12_look_39 : decode cX12_look 39 = .ok (.bipush (-2), 2) := by decide +kernel
theorem dX12_look_41 : decode cX12_look 41 = .ok (.istore 4, 2) := by decide +kernel
theorem dX12_look_43 : decode cX12_look 43 = .ok (.iconst 0, 1) := by decide +kernel
theorem dX12_look_44 : decode cX12_look 44 = .ok (.istore 5, 2) := by decide +kernel
theorem dX12_look_46 : decode cX12_look 46 = .ok (.iload 5, 2) := by decide +kernel
theorem dX12_look_48 : decode cX12_look 48 = .ok (.aload_n 0, 1) := by decide +kernel
theorem dX12_look_49 : decode cX12_look 49 = .ok (.getfield 39, 3) := by decide +kernel
theorem dX12_look_52 : decode cX12_look 52 = .ok (.iconst 3, 1) := by decide +kernel
theorem dX12_look_53 : decode cX12_look 53 = .ok (.iaload, 1) := by decide +kernel
theorem dX12_look_54 : decode cX12_look 54 = .ok (.if_icmp .ge 43, 3) := by decide +kernel
theorem dX12_look_57 : decode cX12_look 57 = .ok (.aload_n 0, 1) := by decide +kernel
theorem dX12_look_58 : decode cX12_look 58 = .ok (.iload 5, 2) := by decide +kernel
theorem dX12_look_60 : decode cX12_look 60 = .ok (.invokevirtual 440, 3) := by decide +kernel
theorem dX12_look_63 : decode cX12_look 63 = .ok (.istore 6, 2) := by decide +kernel
theorem dX12_look_65 : decode cX12_look 65 = .ok (.iload 6, 2) := by decide +kernel
theorem dX12_look_67 : decode cX12_look 67 = .ok (.ifCond .eq 24, 3) := by decide +kernel
theorem dX12_look_70 : decode cX12_look 70 = .ok (.iload_n 3, 1) := by decide +kernel
theorem dX12_look_71 : decode cX12_look 71 = .ok (.ifCond .lt 13, 3) := by decide +kernel
theorem dX12_look_74 : decode cX12_look 74 = .ok (.iload 6, 2) := by decide +kernel
theorem dX12_look_76 : decode cX12_look 76 = .ok (.iload 4, 2) := by decide +kernel
theorem dX12_look_78 : decode cX12_look 78 = .ok (.if_icmp .lt 6, 3) := by decide +kernel
theorem dX12_look_81 : decode cX12_look 81 = .ok (.goto 10, 3) := by decide +kernel
theorem dX12_look_84 : decode cX12_look 84 = .ok (.iload 5, 2) := by decide +kernel
theorem dX12_look_86 : decode cX12_look 86 = .ok (.istore_n 3, 1) := by decide +kernel
theorem dX12_look_87 : decode cX12_look 87 = .ok (.iload 6, 2) := by decide +kernel
theorem dX12_look_89 : decode cX12_look 89 = .ok (.istore 4, 2) := by decide +kernel
theorem dX12_look_91 : decode cX12_look 91 = .ok (.iinc 5 1, 3) := by decide +kernel
theorem dX12_look_94 : decode cX12_look 94 = .ok (.goto (-48), 3) := by decide +kernel
theorem dX12_look_97 : decode cX12_look 97 = .ok (.iload_n 2, 1) := by decide +kernel
theorem dX12_look_98 : decode cX12_look 98 = .ok (.ifCond .ne 7, 3) := by decide +kernel
theorem dX12_look_101 : decode cX12_look 101 = .ok (.iload_n 3, 1) := by decide +kernel
theorem dX12_look_102 : decode cX12_look 102 = .ok (.goto 5, 3) := by decide +kernel
theorem dX12_look_105 : decode cX12_look 105 = .ok (.iload 4, 2) := by decide +kernel
theorem dX12_look_107 : decode cX12_look 107 = .ok (.ireturn, 1) := by decide +kernel
abbrev Mm_look : rx_M := (RX12, yX12_look, cX12_look, 7, (some .int), 10)
theorem km_look : rKv Mm_look 2 := ⟨tb_in (i := 35) (j := 28) rfl rfl, tb_in (i := 35) (j := 29) rfl rfl, tb_in (i := 17) (j := 21) rfl rfl, tb_in (i := 29) (j := 20) rfl rfl, ⟨by decide, by decide, by decide +kernel⟩, by decide⟩
def m_look_l46 (z_rules : Int32) (z_sign : Nat → Int32) (z_clause : Nat → Int32) (z_clauses : Nat → Int32) (z_stack : Nat → Int64) (z_top : Int32) (z_word : Nat → Int64) (z_said : Nat → Int32) (z_force : Int32) (z_absent : Int32) (z_isRaining : Int32) (z_kept : Nat → Int32) (z_isFit : Nat → Int32) (z_tillThen : Nat → Int32) (x2 : Int32) : Nat → Int32 → Int32 → Int32 → Option (Int32 × (Nat → Int64) × Int32 × (Nat → Int64) × (Nat → Int32) × Int32 × Int32 × (Nat → Int32) × (Nat → Int32) × (Nat → Int32))
  | 0, _, _, _ => none
  | n + 1, x3, x4, x5 => rq (inb (3 : Int32) 156) ((if (z_said (3 : Int32).toNatClampNeg) ≤ x5 then (if x2 = 0 then some (x3, z_stack, z_top, z_word, z_said, z_force, z_isRaining, z_kept, z_isFit, z_tillThen) else some (x4, z_stack, z_top, z_word, z_said, z_force, z_isRaining, z_kept, z_isFit, z_tillThen)) else (m_alikeAt x5 z_rules z_isFit z_tillThen).bind (fun q11 => (if q11 = 0 then m_look_l46 z_rules z_sign z_clause z_clauses z_stack z_top z_word z_said z_force z_absent z_isRaining z_kept z_isFit z_tillThen x2 n x3 x4 (x5 + (1 : Int32)) else (if x3 < 0 then m_look_l46 z_rules z_sign z_clause z_clauses z_stack z_top z_word z_said z_force z_absent z_isRaining z_kept z_isFit z_tillThen x2 n x5 q11 (x5 + (1 : Int32)) else (if q11 < x4 then m_look_l46 z_rules z_sign z_clause z_clauses z_stack z_top z_word z_said z_force z_absent z_isRaining z_kept z_isFit z_tillThen x2 n x5 q11 (x5 + (1 : Int32)) else m_look_l46 z_rules z_sign z_clause z_clauses z_stack z_top z_word z_said z_force z_absent z_isRaining z_kept z_isFit z_tillThen x2 n x3 x4 (x5 + (1 : Int32))))))))
set_option maxRecDepth 20000 in
theorem cm_look_l46 {q : Int32 × (Nat → Int64) × Int32 × (Nat → Int64) × (Nat → Int32) × Int32 × Int32 × (Nat → Int32) × (Nat → Int32) × (Nat → Int32)} {x2 : Int32}  : ∀ (n : Nat) (x3 : Int32) (x4 : Int32) (x5 : Int32), m_look_l46 z_rules z_sign z_clause z_clauses z_stack z_top z_word z_said z_force z_absent z_isRaining z_kept z_isFit z_tillThen x2 n x3 x4 x5 = some q → rW l D Z (ty7 K) Mm_look 46 [(0, .ref (ad 0)), (2, .int x2), (3, .int x3), (4, .int x4), (5, .int x5)] [] (wM K ad z_tape z_taped z_rules z_sign z_length z_clause z_clauses z_read z_next z_wrong z_number z_text z_made z_deep z_lines z_open z_opened z_stack z_top z_word z_said z_force z_x z_absent z_isRaining z_wasSaid z_undone z_kept z_order z_bestOrder z_hasBy z_wealthThen z_isFit z_tillThen z_drawX z_images z_imageForce z_imageX z_isMade) (wM K ad z_tape z_taped z_rules z_sign z_length z_clause z_clauses z_read z_next z_wrong z_number z_text z_made z_deep z_lines z_open z_opened q.2.1 q.2.2.1 q.2.2.2.1 q.2.2.2.2.1 q.2.2.2.2.2.1 z_x z_absent q.2.2.2.2.2.2.1 z_wasSaid z_undone q.2.2.2.2.2.2.2.1 z_order z_bestOrder z_hasBy z_wealthThen q.2.2.2.2.2.2.2.2.1 q.2.2.2.2.2.2.2.2.2 z_drawX z_images z_imageForce z_imageX z_isMade) (some (.int q.1)) := by
  intro n
  induction n with
  | zero => intro x3 x4 x5 h; unfold m_look_l46 at h; cases h
  | succ n ih =>
    intro x3 x4 x5 h
    unfold m_look_l46 at h
    refine r_iload 4 dX12_look_46 rfl ?_
    refine r_aload_n 0 dX12_look_48 rfl ?_
    refine gM_said rfl dX12_look_49 ?_
    refine r_iconst (x := (3 : Int32)) dX12_look_52 (by decide) ?_
    obtain ⟨h8, h⟩ := rq_some h
    refine lM_said (inb_in h8) dX12_look_53 ?_
    refine r_icmp_ge 97 dX12_look_54 (by decide) (fun c9 => ?_) (fun c9 => ?_)
    · replace h := it_pos c9 h
      refine r_iload_n 1 dX12_look_97 rfl ?_
      refine r_if_ne 105 dX12_look_98 (by decide) (fun c10 => ?_) (fun c10 => ?_)
      · replace h := it_neg c10 h
        refine r_iload 3 dX12_look_105 rfl ?_
        have hq := Option.some.inj h
        subst hq
        exact r_iret rfl dX12_look_107
      · replace h := it_pos c10 h
        refine r_iload_n 2 dX12_look_101 rfl ?_
        refine r_goto 107 dX12_look_102 (by decide) ?_
        have hq := Option.some.inj h
        subst hq
        exact r_iret rfl dX12_look_107
    · replace h := it_neg c9 h
      refine r_aload_n 0 dX12_look_57 rfl ?_
      refine r_iload 4 dX12_look_58 rfl ?_
      obtain ⟨q11, h11, h⟩ := bd_some h
      refine cvM (st := []) (cm_alikeAt h11) rfl rfl (Nat.le_of_ble_eq_true rfl) km_alikeAt (tb_in (i := 29) (j := 17) rfl rfl) (by decide) rfl dX12_look_60 ?_
      refine r_istore (lv' := [(6, .int q11), (0, .ref (ad 0)), (2, .int x2), (3, .int x3), (4, .int x4), (5, .int x5)]) dX12_look_63 (by decide) rfl ?_
      refine r_iload 0 dX12_look_65 rfl ?_
      refine r_if_eq 91 dX12_look_67 (by decide) (fun c12 => ?_) (fun c12 => ?_)
      · replace h := it_pos c12 h
        refine r_iinc (y := (x5 + (1 : Int32))) (lv' := [(5, .int (x5 + (1 : Int32))), (6, .int q11), (0, .ref (ad 0)), (2, .int x2), (3, .int x3), (4, .int x4)]) 5 dX12_look_91 rfl rfl (by decide) rfl ?_
        refine r_goto 46 dX12_look_94 (by decide) ?_
        refine r_sub (lv' := [(0, .ref (ad 0)), (2, .int x2), (3, .int x3), (4, .int x4), (5, .int (x5 + (1 : Int32)))]) [2, 3, 4, 5, 0] rfl ?_
        exact ih _ _ _ h
      · replace h := it_neg c12 h
        refine r_iload_n 3 dX12_look_70 rfl ?_
        refine r_if_lt 84 dX12_look_71 (by decide) (fun c13 => ?_) (fun c13 => ?_)
        · replace h := it_pos c13 h
          refine r_iload 5 dX12_look_84 rfl ?_
          refine r_istore_n (lv' := [(3, .int x5), (6, .int q11), (0, .ref (ad 0)), (2, .int x2), (4, .int x4), (5, .int x5)]) dX12_look_86 (by decide) rfl ?_
          refine r_iload 1 dX12_look_87 rfl ?_
          refine r_istore (lv' := [(4, .int q11), (3, .int x5), (6, .int q11), (0, .ref (ad 0)), (2, .int x2), (5, .int x5)]) dX12_look_89 (by decide) rfl ?_
          refine r_iinc (y := (x5 + (1 : Int32))) (lv' := [(5, .int (x5 + (1 : Int32))), (4, .int q11), (3, .int x5), (6, .int q11), (0, .ref (ad 0)), (2, .int x2)]) 5 dX12_look_91 rfl rfl (by decide) rfl ?_
          refine r_goto 46 dX12_look_94 (by decide) ?_
          refine r_sub (lv' := [(0, .ref (ad 0)), (2, .int x2), (3, .int x5), (4, .int q11), (5, .int (x5 + (1 : Int32)))]) [4, 5, 2, 1, 0] rfl ?_
          exact ih _ _ _ h
        · replace h := it_neg c13 h
          refine r_iload 0 dX12_look_74 rfl ?_
          refine r_iload 4 dX12_look_76 rfl ?_
          refine r_icmp_lt 84 dX12_look_78 (by decide) (fun c14 => ?_) (fun c14 => ?_)
          · replace h := it_pos c14 h
            refine r_iload 5 dX12_look_84 rfl ?_
            refine r_istore_n (lv' := [(3, .int x5), (6, .int q11), (0, .ref (ad 0)), (2, .int x2), (4, .int x4), (5, .int x5)]) dX12_look_86 (by decide) rfl ?_
            refine r_iload 1 dX12_look_87 rfl ?_
            refine r_istore (lv' := [(4, .int q11), (3, .int x5), (6, .int q11), (0, .ref (ad 0)), (2, .int x2), (5, .int x5)]) dX12_look_89 (by decide) rfl ?_
            refine r_iinc (y := (x5 + (1 : Int32))) (lv' := [(5, .int (x5 + (1 : Int32))), (4, .int q11), (3, .int x5), (6, .int q11), (0, .ref (ad 0)), (2, .int x2)]) 5 dX12_look_91 rfl rfl (by decide) rfl ?_
            refine r_goto 46 dX12_look_94 (by decide) ?_
            refine r_sub (lv' := [(0, .ref (ad 0)), (2, .int x2), (3, .int x5), (4, .int q11), (5, .int (x5 + (1 : Int32)))]) [4, 5, 2, 1, 0] rfl ?_
            exact ih _ _ _ h
          · replace h := it_neg c14 h
            refine r_goto 91 dX12_look_81 (by decide) ?_
            refine r_iinc (y := (x5 + (1 : Int32))) (lv' := [(5, .int (x5 + (1 : Int32))), (6, .int q11), (0, .ref (ad 0)), (2, .int x2), (3, .int x3), (4, .int x4)]) 5 dX12_look_91 rfl rfl (by decide) rfl ?_
            refine r_goto 46 dX12_look_94 (by decide) ?_
            refine r_sub (lv' := [(0, .ref (ad 0)), (2, .int x2), (3, .int x3), (4, .int x4), (5, .int (x5 + (1 : Int32)))]) [2, 3, 4, 5, 0] rfl ?_
            exact ih _ _ _ h
def m_look (x1 : Int32) (x2 : Int32) (z_rules : Int32) (z_sign : Nat → Int32) (z_clause : Nat → Int32) (z_clauses : Nat → Int32) (z_stack : Nat → Int64) (z_top : Int32) (z_word : Nat → Int64) (z_said : Nat → Int32) (z_force : Int32) (z_absent : Int32) (z_isRaining : Int32) (z_kept : Nat → Int32) (z_isFit : Nat → Int32) (z_tillThen : Nat → Int32) : Option (Int32 × (Nat → Int64) × Int32 × (Nat → Int64) × (Nat → Int32) × Int32 × Int32 × (Nat → Int32) × (Nat → Int32) × (Nat → Int32)) := (m_isFair z_said).bind (fun q1 => (if q1 = 0 then some ((-1 : Int32), z_stack, z_top, z_word, z_said, z_force, z_isRaining, z_kept, z_isFit, z_tillThen) else (m_in (x1.toInt64) (0 : Int64) (60 : Int64)).bind (fun q3 => (if q3 = 0 then some ((-1 : Int32), z_stack, z_top, z_word, z_said, z_force, z_isRaining, z_kept, z_isFit, z_tillThen) else (m_in (x2.toInt64) (0 : Int64) (1 : Int64)).bind (fun q5 => (if q5 = 0 then some ((-1 : Int32), z_stack, z_top, z_word, z_said, z_force, z_isRaining, z_kept, z_isFit, z_tillThen) else (m_fillsFits x1 z_rules z_sign z_clause z_clauses z_stack z_top z_word z_said z_force z_absent z_isRaining z_kept z_isFit z_tillThen).bind (fun q7 => m_look_l46 z_rules z_sign z_clause z_clauses q7.1 q7.2.1 q7.2.2.1 q7.2.2.2.1 q7.2.2.2.2.1 z_absent q7.2.2.2.2.2.1 q7.2.2.2.2.2.2.1 q7.2.2.2.2.2.2.2.1 q7.2.2.2.2.2.2.2.2 x2 FU (-2 : Int32) (-2 : Int32) (0 : Int32))))))))
set_option maxRecDepth 20000 in
theorem cm_look {q : Int32 × (Nat → Int64) × Int32 × (Nat → Int64) × (Nat → Int32) × Int32 × Int32 × (Nat → Int32) × (Nat → Int32) × (Nat → Int32)} {x1 : Int32} {x2 : Int32} (h : m_look x1 x2 z_rules z_sign z_clause z_clauses z_stack z_top z_word z_said z_force z_absent z_isRaining z_kept z_isFit z_tillThen = some q) : rMet l D Z (ty7 K) Mm_look [.ref (ad 0), .int x1, .int x2] (wM K ad z_tape z_taped z_rules z_sign z_length z_clause z_clauses z_read z_next z_wrong z_number z_text z_made z_deep z_lines z_open z_opened z_stack z_top z_word z_said z_force z_x z_absent z_isRaining z_wasSaid z_undone z_kept z_order z_bestOrder z_hasBy z_wealthThen z_isFit z_tillThen z_drawX z_images z_imageForce z_imageX z_isMade) (wM K ad z_tape z_taped z_rules z_sign z_length z_clause z_clauses z_read z_next z_wrong z_number z_text z_made z_deep z_lines z_open z_opened q.2.1 q.2.2.1 q.2.2.2.1 q.2.2.2.2.1 q.2.2.2.2.2.1 z_x z_absent q.2.2.2.2.2.2.1 z_wasSaid z_undone q.2.2.2.2.2.2.2.1 z_order z_bestOrder z_hasBy z_wealthThen q.2.2.2.2.2.2.2.2.1 q.2.2.2.2.2.2.2.2.2 z_drawX z_images z_imageForce z_imageX z_isMade) (some (.int q.1)) := by
  refine rMet.of (by decide) rfl (Nat.le_of_ble_eq_true rfl) ?_
  refine r_sub (lv' := [(0, .ref (ad 0)), (1, .int x1), (2, .int x2)]) [0, 1, 2] rfl ?_
  unfold m_look at h
  refine r_aload_n 0 dX12_look_0 rfl ?_
  obtain ⟨q1, h1, h⟩ := bd_some h
  refine cvM (st := []) (cm_isFair h1) rfl rfl (Nat.le_of_ble_eq_true rfl) km_isFair (tb_in (i := 26) (j := 2) rfl rfl) (by decide) rfl dX12_look_1 ?_
  refine r_if_eq 29 dX12_look_4 (by decide) (fun c2 => ?_) (fun c2 => ?_)
  · replace h := it_pos c2 h
    refine r_iconst (x := (-1 : Int32)) dX12_look_29 (by decide) ?_
    have hq := Option.some.inj h
    subst hq
    exact r_iret rfl dX12_look_30
  · replace h := it_neg c2 h
    refine r_iload_n 1 dX12_look_7 rfl ?_
    refine r_i2l dX12_look_8 ?_
    refine r_lconst (x := (0 : Int64)) dX12_look_9 (by decide) ?_
    refine r_ldc2 (x := (60 : Int64)) (tb_in (i := 28) (j := 10) rfl rfl) dX12_look_10 ?_
    obtain ⟨q3, h3, h⟩ := bd_some h
    refine r_callS (st := []) (cm_in h3) rfl rfl (Nat.le_of_ble_eq_true rfl) km_in (tb_in (i := 18) (j := 20) rfl rfl) (by decide) dX12_look_13 ?_
    refine r_if_eq 29 dX12_look_16 (by decide) (fun c4 => ?_) (fun c4 => ?_)
    · replace h := it_pos c4 h
      refine r_iconst (x := (-1 : Int32)) dX12_look_29 (by decide) ?_
      have hq := Option.some.inj h
      subst hq
      exact r_iret rfl dX12_look_30
    · replace h := it_neg c4 h
      refine r_iload_n 2 dX12_look_19 rfl ?_
      refine r_i2l dX12_look_20 ?_
      refine r_lconst (x := (0 : Int64)) dX12_look_21 (by decide) ?_
      refine r_lconst (x := (1 : Int64)) dX12_look_22 (by decide) ?_
      obtain ⟨q5, h5, h⟩ := bd_some h
      refine r_callS (st := []) (cm_in h5) rfl rfl (Nat.le_of_ble_eq_true rfl) km_in (tb_in (i := 18) (j := 20) rfl rfl) (by decide) dX12_look_23 ?_
      refine r_if_ne 31 dX12_look_26 (by decide) (fun c6 => ?_) (fun c6 => ?_)
      · replace h := it_neg c6 h
        refine r_aload_n 0 dX12_look_31 rfl ?_
        refine r_iload_n 1 dX12_look_32 rfl ?_
        obtain ⟨q7, h7, h⟩ := bd_some h
        refine cvM (st := []) (cm_fillsFits h7) rfl rfl (Nat.le_of_ble_eq_true rfl) km_fillsFits (tb_in (i := 29) (j := 12) rfl rfl) (by decide) rfl dX12_look_33 ?_
        refine r_bipush (x := (-2 : Int32)) dX12_look_36 (by decide) ?_
        refine r_istore_n (lv' := [(3, .int (-2 : Int32)), (0, .ref (ad 0)), (1, .int x1), (2, .int x2)]) dX12_look_38 (by decide) rfl ?_
        refine r_bipush (x := (-2 : Int32)) dX12_look_39 (by decide) ?_
        refine r_istore (lv' := [(4, .int (-2 : Int32)), (3, .int (-2 : Int32)), (0, .ref (ad 0)), (1, .int x1), (2, .int x2)]) dX12_look_41 (by decide) rfl ?_
        refine r_iconst (x := (0 : Int32)) dX12_look_43 (by decide) ?_
        refine r_istore (lv' := [(5, .int (0 : Int32)), (4, .int (-2 : Int32)), (3, .int (-2 : Int32)), (0, .ref (ad 0)), (1, .int x1), (2, .int x2)]) dX12_look_44 (by decide) rfl ?_
        refine r_sub (lv' := [(0, .ref (ad 0)), (2, .int x2), (3, .int (-2 : Int32)), (4, .int (-2 : Int32)), (5, .int (0 : Int32))]) [3, 5, 2, 1, 0] rfl ?_
        exact cm_look_l46  FU _ _ _ h
      · replace h := it_pos c6 h
        refine r_iconst (x := (-1 : Int32)) dX12_look_29 (by decide) ?_
        have hq := Option.some.inj h
        subst hq
        exact r_iret rfl dX12_look_30
theorem dX12_rings_0 : decode cX12_rings 0 = .ok (.aload_n 0, 1) := by decide +kernel
theorem dX12_rings_1 : decode cX12_rings 1 = .ok (.invokevirtual 358, 3) := by decide +kernel
theorem dX12_rings_4 : decode cX12_rings 4 = .ok (.ifCond .eq 17, 3) := by decide +kernel
theorem dX12_rings_7 : decode cX12_rings 7 = .ok (.iload_n 1, 1) := by decide +kernel
theorem dX12_rings_8 : decode cX12_rings 8 = .ok (.i2l, 1) := by decide +kernel
theorem dX12_rings_9 : decode cX12_rings 9 = .ok (.ldc2_w 394, 3) := by decide +kernel
theorem dX12_rings_12 : decode cX12_rings 12 = .ok (.ldc2_w 396, 3) := by decide +kernel
theorem dX12_rings_15 : decode cX12_rings 15 = .ok (.invokestatic 124, 3) := by decide +kernel
theorem dX12_rings_18 : decode cX12_rings 18 = .ok (.ifCond .ne 6, 3) := by decide +kernel
theorem dX12_rings_21 : decode cX12_rings 21 = .ok (.bipush (-3), 2) := by decide +kernel
theorem dX12_rings_23 : decode cX12_rings 23 = .ok (.ireturn, 1) := by decide +kernel
theorem dX12_rings_24 : decode cX12_rings 24 = .ok (.iconst 0, 1) := by decide +kernel
theorem dX12_rings_25 : decode cX12_rings 25 = .ok (.istore_n 2, 1) := by decide +kernel
theorem dX12_rings_26 : decode cX12_rings 26 = .ok (.aload_n 0, 1) := by decide +kernel
theorem dX12_rings_27 : decode cX12_rings 27 = .ok (.invokevirtual 376, 3) := by decide +kernel
theorem dX12_rings_30 : decode cX12_rings 30 = .ok (.aload_n 0, 1) := by decide +kernel
theorem dX12_rings_31 : decode cX12_rings 31 = .ok (.invokevirtual 398, 3) := by decide +kernel
theorem dX12_rings_34 : decode cX12_rings 34 = .ok (.iconst 1, 1) := by decide +kernel
theorem dX12_rings_35 : decode cX12_rings 35 = .ok (.istore_n 3, 1) := by decide +kernel
theorem dX12_rings_36 : decode cX12_rings 36 = .ok (.iload_n 3, 1) := by decide +kernel
theorem dX12_rings_37 : decode cX12_rings 37 = .ok (.ifCond .eq 39, 3) := by decide +kernel
theorem dX12_rings_40 : decode cX12_rings 40 = .ok (.aload_n 0, 1) := by decide +kernel
theorem dX12_rings_41 : decode cX12_rings 41 = .ok (.invokevirtual 265, 3) := by decide +kernel
theorem dX12_rings_44 : decode cX12_rings 44 = .ok (.aload_n 0, 1) := by decide +kernel
theorem dX12_rings_45 : decode cX12_rings 45 = .ok (.invokevirtual 401, 3) := by decide +kernel
theorem dX12_rings_48 : decode cX12_rings 48 = .ok (.aload_n 0, 1) := by decide +kernel
theorem dX12_rings_49 : decode cX12_rings 49 = .ok (.iconst 0, 1) := by decide +kernel
theorem dX12_rings_50 : decode cX12_rings 50 = .ok (.iconst (-1), 1) := by decide +kernel
theorem dX12_rings_51 : decode cX12_rings 51 = .ok (.invokevirtual 434, 3) := by decide +kernel
theorem dX12_rings_54 : decode cX12_rings 54 = .ok (.ifCond .eq 14, 3) := by decide +kernel
theorem dX12_rings_57 : decode cX12_rings 57 = .ok (.iload_n 2, 1) := by decide +kernel
theorem dX12_rings_58 : decode cX12_rings 58 = .ok (.ifCond .ne 7, 3) := by decide +kernel
theorem dX12_rings_61 : decode cX12_rings 61 = .ok (.aload_n 0, 1) := by decide +kernel
theorem dX12_rings_62 : decode cX12_rings 62 = .ok (.invokevirtual 404, 3) := by decide +kernel
theorem dX12_rings_65 : decode cX12_rings 65 = .ok (.iinc 2 1, 3) := by decide +kernel
theorem dX12_rings_68 : decode cX12_rings 68 = .ok (.aload_n 0, 1) := by decide +kernel
theorem dX12_rings_69 : decode cX12_rings 69 = .ok (.invokevirtual 407, 3) := by decide +kernel
theorem dX12_rings_72 : decode cX12_rings 72 = .ok (.istore_n 3, 1) := by decide +kernel
theorem dX12_rings_73 : decode cX12_rings 73 = .ok (.goto (-37), 3) := by decide +kernel
theorem dX12_rings_76 : decode cX12_rings 76 = .ok (.aload_n 0, 1) := by decide +kernel
theorem dX12_rings_77 : decode cX12_rings 77 = .ok (.invokevirtual 385, 3) := by decide +kernel
theorem dX12_rings_80 : decode cX12_rings 80 = .ok (.iload_n 1, 1) := by decide +kernel
theorem dX12_rings_81 : decode cX12_rings 81 = .ok (.iconst (-1), 1) := by decide +kernel
theorem dX12_rings_82 : decode cX12_rings 82 = .ok (.if_icmp .ne 7, 3) := by decide +kernel
theorem dX12_rings_85 : decode cX12_rings 85 = .ok (.iload_n 2, 1) := by decide +kernel
theorem dX12_rings_86 : decode cX12_rings 86 = .ok (.goto 26, 3) := by decide +kernel
theorem dX12_rings_89 : decode cX12_rings 89 = .ok (.iload_n 2, 1) := by decide +kernel
theorem dX12_rings_90 : decode cX12_rings 90 = .ok (.ifCond .le 20, 3) := by decide +kernel
theorem dX12_rings_93 : decode cX12_rings 93 = .ok (.aload_n 0, 1) := by decide +kernel
theorem dX12_rings_94 : decode cX12_rings 94 = .ok (.iload_n 1, 1) := by decide +kernel
theorem dX12_rings_95 : decode cX12_rings 95 = .ok (.invokevirtual 311, 3) := by decide +kernel
theorem dX12_rings_98 : decode cX12_rings 98 = .ok (.ifCond .eq 12, 3) := by decide +kernel
theorem dX12_rings_101 : decode cX12_rings 101 = .ok (.aload_n 0, 1) := by decide +kernel
theorem dX12_rings_102 : decode cX12_rings 102 = .ok (.getfield 58, 3) := by decide +kernel
theorem dX12_rings_105 : decode cX12_rings 105 = .ok (.iload_n 1, 1) := by decide +kernel
theorem dX12_rings_106 : decode cX12_rings 106 = .ok (.iaload, 1) := by decide +kernel
theorem dX12_rings_107 : decode cX12_rings 107 = .ok (.goto 5, 3) := by decide +kernel
theorem dX12_rings_110 : decode cX12_rings 110 = .ok (.bipush (-2), 2) := by decide +kernel
theorem dX12_rings_112 : decode cX12_rings 112 = .ok (.ireturn, 1) := by decide +kernel
abbrev Mm_rings : rx_M := (RX12, yX12_rings, cX12_rings, 4, (some .int), 9)
theorem km_rings : rKv Mm_rings 1 := ⟨tb_in (i := 36) (j := 2) rfl rfl, tb_in (i := 36) (j := 3) rfl rfl, tb_in (i := 17) (j := 21) rfl rfl, tb_in (i := 29) (j := 21) rfl rfl, ⟨by decide, by decide, by decide +kernel⟩, by decide⟩
def m_rings_l36 (z_sign : Nat → Int32) (z_clause : Nat → Int32) (z_clauses : Nat → Int32) (z_force : Int32) (z_absent : Int32) (z_kept : Nat → Int32) (x1 : Int32) : Nat → Int32 → Int32 → (Nat → Int64) → Int32 → (Nat → Int64) → (Nat → Int32) → Int32 → (Nat → Int32) → (Nat → Int32) → (Nat → Int32) → Option (Int32 × (Nat → Int64) × Int32 × (Nat → Int64) × (Nat → Int32) × Int32 × (Nat → Int32) × (Nat → Int32) × (Nat → Int32) × (Nat → Int32))
  | 0, _, _, _, _, _, _, _, _, _, _ => none
  | n + 1, x2, x3, z_stack, z_top, z_word, z_said, z_isRaining, z_order, z_bestOrder, z_tillThen => (if x3 = 0 then (m_laysBack z_said z_kept).bind (fun q8 => (if x1 = (-1 : Int32) then some (x2, z_stack, z_top, z_word, q8, z_isRaining, z_kept, z_order, z_bestOrder, z_tillThen) else (if x2 ≤ 0 then some ((-2 : Int32), z_stack, z_top, z_word, q8, z_isRaining, z_kept, z_order, z_bestOrder, z_tillThen) else (m_isStall x1 q8).bind (fun q11 => (if q11 = 0 then some ((-2 : Int32), z_stack, z_top, z_word, q8, z_isRaining, z_kept, z_order, z_bestOrder, z_tillThen) else rq (inb x1 6) (some ((z_bestOrder x1.toNatClampNeg), z_stack, z_top, z_word, q8, z_isRaining, z_kept, z_order, z_bestOrder, z_tillThen))))))) else (m_begins z_said).bind (fun q14 => (m_standsAsOrder q14 z_order).bind (fun q15 => (m_areAllSo (0 : Int32) (-1 : Int32) z_sign z_clause z_clauses z_stack z_top z_word q15 z_force z_absent z_isRaining z_tillThen).bind (fun q16 => (if q16.1 = 0 then (m_nextOrder q16.2.2.2.2.1 z_order).bind (fun q18 => m_rings_l36 z_sign z_clause z_clauses z_force z_absent z_kept x1 n x2 q18.1 q16.2.1 q16.2.2.1 q16.2.2.2.1 q16.2.2.2.2.1 q16.2.2.2.2.2.1 q18.2 z_bestOrder q16.2.2.2.2.2.2) else (if x2 = 0 then (m_keepsOrder z_order z_bestOrder).bind (fun q21 => (m_nextOrder q16.2.2.2.2.1 z_order).bind (fun q22 => m_rings_l36 z_sign z_clause z_clauses z_force z_absent z_kept x1 n (x2 + (1 : Int32)) q22.1 q16.2.1 q16.2.2.1 q16.2.2.2.1 q16.2.2.2.2.1 q16.2.2.2.2.2.1 q22.2 q21 q16.2.2.2.2.2.2)) else (m_nextOrder q16.2.2.2.2.1 z_order).bind (fun q20 => m_rings_l36 z_sign z_clause z_clauses z_force z_absent z_kept x1 n (x2 + (1 : Int32)) q20.1 q16.2.1 q16.2.2.1 q16.2.2.2.1 q16.2.2.2.2.1 q16.2.2.2.2.2.1 q20.2 z_bestOrder q16.2.2.2.2.2.2)))))))
set_option maxRecDepth 20000 in
theorem cm_rings_l36 {q : Int32 × (Nat → Int64) × Int32 × (Nat → Int64) × (Nat → Int32) × Int32 × (Nat → Int32) × (Nat → Int32) × (Nat → Int32) × (Nat → Int32)} {x1 : Int32}  : ∀ (n : Nat) (x2 : Int32) (x3 : Int32) (z_stack : Nat → Int64) (z_top : Int32) (z_word : Nat → Int64) (z_said : Nat → Int32) (z_isRaining : Int32) (z_order : Nat → Int32) (z_bestOrder : Nat → Int32) (z_tillThen : Nat → Int32), m_rings_l36 z_sign z_clause z_clauses z_force z_absent z_kept x1 n x2 x3 z_stack z_top z_word z_said z_isRaining z_order z_bestOrder z_tillThen = some q → rW l D Z (ty7 K) Mm_rings 36 [(0, .ref (ad 0)), (1, .int x1), (2, .int x2), (3, .int x3)] [] (wM K ad z_tape z_taped z_rules z_sign z_length z_clause z_clauses z_read z_next z_wrong z_number z_text z_made z_deep z_lines z_open z_opened z_stack z_top z_word z_said z_force z_x z_absent z_isRaining z_wasSaid z_undone z_kept z_order z_bestOrder z_hasBy z_wealthThen z_isFit z_tillThen z_drawX z_images z_imageForce z_imageX z_isMade) (wM K ad z_tape z_taped z_rules z_sign z_length z_clause z_clauses z_read z_next z_wrong z_number z_text z_made z_deep z_lines z_open z_opened q.2.1 q.2.2.1 q.2.2.2.1 q.2.2.2.2.1 z_force z_x z_absent q.2.2.2.2.2.1 z_wasSaid z_undone q.2.2.2.2.2.2.1 q.2.2.2.2.2.2.2.1 q.2.2.2.2.2.2.2.2.1 z_hasBy z_wealthThen z_isFit q.2.2.2.2.2.2.2.2.2 z_drawX z_images z_imageForce z_imageX z_isMade) (some (.int q.1)) := by
  intro n
  induction n with
  | zero => intro x2 x3 z_stack z_top z_word z_said z_isRaining z_order z_bestOrder z_tillThen h; unfold m_rings_l36 at h; cases h
  | succ n ih =>
    intro x2 x3 z_stack z_top z_word z_said z_isRaining z_order z_bestOrder z_tillThen h
    unfold m_rings_l36 at h
    refine r_iload_n 3 dX12_rings_36 rfl ?_
    refine r_if_eq 76 dX12_rings_37 (by decide) (fun c7 => ?_) (fun c7 => ?_)
    · replace h := it_pos c7 h
      refine r_aload_n 0 dX12_rings_76 rfl ?_
      obtain ⟨q8, h8, h⟩ := bd_some h
      refine cvM (st := []) (cm_laysBack h8) rfl rfl (Nat.le_of_ble_eq_true rfl) km_laysBack (tb_in (i := 27) (j := 3) rfl rfl) (by decide) rfl dX12_rings_77 ?_
      refine r_iload_n 1 dX12_rings_80 rfl ?_
      refine r_iconst (x := (-1 : Int32)) dX12_rings_81 (by decide) ?_
      refine r_icmp_ne 89 dX12_rings_82 (by decide) (fun c9 => ?_) (fun c9 => ?_)
      · replace h := it_neg c9 h
        refine r_iload_n 2 dX12_rings_89 rfl ?_
        refine r_if_le 110 dX12_rings_90 (by decide) (fun c10 => ?_) (fun c10 => ?_)
        · replace h := it_pos c10 h
          refine r_bipush (x := (-2 : Int32)) dX12_rings_110 (by decide) ?_
          have hq := Option.some.inj h
          subst hq
          exact r_iret rfl dX12_rings_112
        · replace h := it_neg c10 h
          refine r_aload_n 0 dX12_rings_93 rfl ?_
          refine r_iload_n 1 dX12_rings_94 rfl ?_
          obtain ⟨q11, h11, h⟩ := bd_some h
          refine cvM (st := []) (cm_isStall h11) rfl rfl (Nat.le_of_ble_eq_true rfl) km_isStall (tb_in (i := 24) (j := 15) rfl rfl) (by decide) rfl dX12_rings_95 ?_
          refine r_if_eq 110 dX12_rings_98 (by decide) (fun c12 => ?_) (fun c12 => ?_)
          · replace h := it_pos c12 h
            refine r_bipush (x := (-2 : Int32)) dX12_rings_110 (by decide) ?_
            have hq := Option.some.inj h
            subst hq
            exact r_iret rfl dX12_rings_112
          · replace h := it_neg c12 h
            refine r_aload_n 0 dX12_rings_101 rfl ?_
            refine gM_bestOrder rfl dX12_rings_102 ?_
            refine r_iload_n 1 dX12_rings_105 rfl ?_
            obtain ⟨h13, h⟩ := rq_some h
            refine lM_bestOrder (inb_in h13) dX12_rings_106 ?_
            refine r_goto 112 dX12_rings_107 (by decide) ?_
            have hq := Option.some.inj h
            subst hq
            exact r_iret rfl dX12_rings_112
      · replace h := it_pos c9 h
        refine r_iload_n 2 dX12_rings_85 rfl ?_
        refine r_goto 112 dX12_rings_86 (by decide) ?_
        have hq := Option.some.inj h
        subst hq
        exact r_iret rfl dX12_rings_112
    · replace h := it_neg c7 h
      refine r_aload_n 0 dX12_rings_40 rfl ?_
      obtain ⟨q14, h14, h⟩ := bd_some h
      refine cvM (st := []) (cm_begins h14) rfl rfl (Nat.le_of_ble_eq_true rfl) km_begins (tb_in (i := 22) (j := 23) rfl rfl) (by decide) rfl dX12_rings_41 ?_
      refine r_aload_n 0 dX12_rings_44 rfl ?_
      obtain ⟨q15, h15, h⟩ := bd_some h
      refine cvM (st := []) (cm_standsAsOrder h15) rfl rfl (Nat.le_of_ble_eq_true rfl) km_standsAsOrder (tb_in (i := 27) (j := 26) rfl rfl) (by decide) rfl dX12_rings_45 ?_
      refine r_aload_n 0 dX12_rings_48 rfl ?_
      refine r_iconst (x := (0 : Int32)) dX12_rings_49 (by decide) ?_
      refine r_iconst (x := (-1 : Int32)) dX12_rings_50 (by decide) ?_
      obtain ⟨q16, h16, h⟩ := bd_some h
      refine cvM (st := []) (cm_areAllSo h16) rfl rfl (Nat.le_of_ble_eq_true rfl) km_areAllSo (tb_in (i := 29) (j := 8) rfl rfl) (by decide) rfl dX12_rings_51 ?_
      refine r_if_eq 68 dX12_rings_54 (by decide) (fun c17 => ?_) (fun c17 => ?_)
      · replace h := it_pos c17 h
        refine r_aload_n 0 dX12_rings_68 rfl ?_
        obtain ⟨q18, h18, h⟩ := bd_some h
        refine cvM (st := []) (cm_nextOrder h18) rfl rfl (Nat.le_of_ble_eq_true rfl) km_nextOrder (tb_in (i := 28) (j := 0) rfl rfl) (by decide) rfl dX12_rings_69 ?_
        refine r_istore_n (lv' := [(3, .int q18.1), (0, .ref (ad 0)), (1, .int x1), (2, .int x2)]) dX12_rings_72 (by decide) rfl ?_
        refine r_goto 36 dX12_rings_73 (by decide) ?_
        refine r_sub (lv' := [(0, .ref (ad 0)), (1, .int x1), (2, .int x2), (3, .int q18.1)]) [1, 2, 3, 0] rfl ?_
        exact ih _ _ _ _ _ _ _ _ _ _ h
      · replace h := it_neg c17 h
        refine r_iload_n 2 dX12_rings_57 rfl ?_
        refine r_if_ne 65 dX12_rings_58 (by decide) (fun c19 => ?_) (fun c19 => ?_)
        · replace h := it_neg c19 h
          refine r_iinc (y := (x2 + (1 : Int32))) (lv' := [(2, .int (x2 + (1 : Int32))), (0, .ref (ad 0)), (1, .int x1), (3, .int x3)]) 2 dX12_rings_65 rfl rfl (by decide) rfl ?_
          refine r_aload_n 1 dX12_rings_68 rfl ?_
          obtain ⟨q20, h20, h⟩ := bd_some h
          refine cvM (st := []) (cm_nextOrder h20) rfl rfl (Nat.le_of_ble_eq_true rfl) km_nextOrder (tb_in (i := 28) (j := 0) rfl rfl) (by decide) rfl dX12_rings_69 ?_
          refine r_istore_n (lv' := [(3, .int q20.1), (2, .int (x2 + (1 : Int32))), (0, .ref (ad 0)), (1, .int x1)]) dX12_rings_72 (by decide) rfl ?_
          refine r_goto 36 dX12_rings_73 (by decide) ?_
          refine r_sub (lv' := [(0, .ref (ad 0)), (1, .int x1), (2, .int (x2 + (1 : Int32))), (3, .int q20.1)]) [2, 3, 1, 0] rfl ?_
          exact ih _ _ _ _ _ _ _ _ _ _ h
        · replace h := it_pos c19 h
          refine r_aload_n 0 dX12_rings_61 rfl ?_
          obtain ⟨q21, h21, h⟩ := bd_some h
          refine cvM (st := []) (cm_keepsOrder h21) rfl rfl (Nat.le_of_ble_eq_true rfl) km_keepsOrder (tb_in (i := 27) (j := 29) rfl rfl) (by decide) rfl dX12_rings_62 ?_
          refine r_iinc (y := (x2 + (1 : Int32))) (lv' := [(2, .int (x2 + (1 : Int32))), (0, .ref (ad 0)), (1, .int x1), (3, .int x3)]) 2 dX12_rings_65 rfl rfl (by decide) rfl ?_
          refine r_aload_n 1 dX12_rings_68 rfl ?_
          obtain ⟨q22, h22, h⟩ := bd_some h
          refine cvM (st := []) (cm_nextOrder h22) rfl rfl (Nat.le_of_ble_eq_true rfl) km_nextOrder (tb_in (i := 28) (j := 0) rfl rfl) (by decide) rfl dX12_rings_69 ?_
          refine r_istore_n (lv' := [(3, .int q22.1), (2, .int (x2 + (1 : Int32))), (0, .ref (ad 0)), (1, .int x1)]) dX12_rings_72 (by decide) rfl ?_
          refine r_goto 36 dX12_rings_73 (by decide) ?_
          refine r_sub (lv' := [(0, .ref (ad 0)), (1, .int x1), (2, .int (x2 + (1 : Int32))), (3, .int q22.1)]) [2, 3, 1, 0] rfl ?_
          exact ih _ _ _ _ _ _ _ _ _ _ h
def m_rings (x1 : Int32) (z_sign : Nat → Int32) (z_clause : Nat → Int32) (z_clauses : Nat → Int32) (z_stack : Nat → Int64) (z_top : Int32) (z_word : Nat → Int64) (z_said : Nat → Int32) (z_force : Int32) (z_absent : Int32) (z_isRaining : Int32) (z_kept : Nat → Int32) (z_order : Nat → Int32) (z_bestOrder : Nat → Int32) (z_tillThen : Nat → Int32) : Option (Int32 × (Nat → Int64) × Int32 × (Nat → Int64) × (Nat → Int32) × Int32 × (Nat → Int32) × (Nat → Int32) × (Nat → Int32) × (Nat → Int32)) := (m_isFair z_said).bind (fun q1 => (if q1 = 0 then some ((-3 : Int32), z_stack, z_top, z_word, z_said, z_isRaining, z_kept, z_order, z_bestOrder, z_tillThen) else (m_in (x1.toInt64) (-1 : Int64) (5 : Int64)).bind (fun q3 => (if q3 = 0 then some ((-3 : Int32), z_stack, z_top, z_word, z_said, z_isRaining, z_kept, z_order, z_bestOrder, z_tillThen) else (m_keeps z_said z_kept).bind (fun q5 => (m_beginsOrder z_order).bind (fun q6 => m_rings_l36 z_sign z_clause z_clauses z_force z_absent q5 x1 FU (0 : Int32) (1 : Int32) z_stack z_top z_word z_said z_isRaining q6 z_bestOrder z_tillThen))))))
set_option maxRecDepth 20000 in
theorem cm_rings {q : Int32 × (Nat → Int64) × Int32 × (Nat → Int64) × (Nat → Int32) × Int32 × (Nat → Int32) × (Nat → Int32) × (Nat → Int32) × (Nat → Int32)} {x1 : Int32} (h : m_rings x1 z_sign z_clause z_clauses z_stack z_top z_word z_said z_force z_absent z_isRaining z_kept z_order z_bestOrder z_tillThen = some q) : rMet l D Z (ty7 K) Mm_rings [.ref (ad 0), .int x1] (wM K ad z_tape z_taped z_rules z_sign z_length z_clause z_clauses z_read z_next z_wrong z_number z_text z_made z_deep z_lines z_open z_opened z_stack z_top z_word z_said z_force z_x z_absent z_isRaining z_wasSaid z_undone z_kept z_order z_bestOrder z_hasBy z_wealthThen z_isFit z_tillThen z_drawX z_images z_imageForce z_imageX z_isMade) (wM K ad z_tape z_taped z_rules z_sign z_length z_clause z_clauses z_read z_next z_wrong z_number z_text z_made z_deep z_lines z_open z_opened q.2.1 q.2.2.1 q.2.2.2.1 q.2.2.2.2.1 z_force z_x z_absent q.2.2.2.2.2.1 z_wasSaid z_undone q.2.2.2.2.2.2.1 q.2.2.2.2.2.2.2.1 q.2.2.2.2.2.2.2.2.1 z_hasBy z_wealthThen z_isFit q.2.2.2.2.2.2.2.2.2 z_drawX z_images z_imageForce z_imageX z_isMade) (some (.int q.1)) := by
  refine rMet.of (by decide) rfl (Nat.le_of_ble_eq_true rfl) ?_
  refine r_sub (lv' := [(0, .ref (ad 0)), (1, .int x1)]) [0, 1] rfl ?_
  unfold m_rings at h
  refine r_aload_n 0 dX12_rings_0 rfl ?_
  obtain ⟨q1, h1, h⟩ := bd_some h
  refine cvM (st := []) (cm_isFair h1) rfl rfl (Nat.le_of_ble_eq_true rfl) km_isFair (tb_in (i := 26) (j := 2) rfl rfl) (by decide) rfl dX12_rings_1 ?_
  refine r_if_eq 21 dX12_rings_4 (by decide) (fun c2 => ?_) (fun c2 => ?_)
  · replace h := it_pos c2 h
    refine r_bipush (x := (-3 : Int32)) dX12_rings_21 (by decide) ?_
    have hq := Option.some.inj h
    subst hq
    exact r_iret rfl dX12_rings_23
  · replace h := it_neg c2 h
    refine r_iload_n 1 dX12_rings_7 rfl ?_
    refine r_i2l dX12_rings_8 ?_
    refine r_ldc2 (x := (-1 : Int64)) (tb_in (i := 27) (j := 21) rfl rfl) dX12_rings_9 ?_
    refine r_ldc2 (x := (5 : Int64)) (tb_in (i := 27) (j := 22) rfl rfl) dX12_rings_12 ?_
    obtain ⟨q3, h3, h⟩ := bd_some h
    refine r_callS (st := []) (cm_in h3) rfl rfl (Nat.le_of_ble_eq_true rfl) km_in (tb_in (i := 18) (j := 20) rfl rfl) (by decide) dX12_rings_15 ?_
    refine r_if_ne 24 dX12_rings_18 (by decide) (fun c4 => ?_) (fun c4 => ?_)
    · replace h := it_neg c4 h
      refine r_iconst (x := (0 : Int32)) dX12_rings_24 (by decide) ?_
      refine r_istore_n (lv' := [(2, .int (0 : Int32)), (0, .ref (ad 0)), (1, .int x1)]) dX12_rings_25 (by decide) rfl ?_
      refine r_aload_n 1 dX12_rings_26 rfl ?_
      obtain ⟨q5, h5, h⟩ := bd_some h
      refine cvM (st := []) (cm_keeps h5) rfl rfl (Nat.le_of_ble_eq_true rfl) km_keeps (tb_in (i := 26) (j := 26) rfl rfl) (by decide) rfl dX12_rings_27 ?_
      refine r_aload_n 1 dX12_rings_30 rfl ?_
      obtain ⟨q6, h6, h⟩ := bd_some h
      refine cvM (st := []) (cm_beginsOrder h6) rfl rfl (Nat.le_of_ble_eq_true rfl) km_beginsOrder (tb_in (i := 27) (j := 23) rfl rfl) (by decide) rfl dX12_rings_31 ?_
      refine r_iconst (x := (1 : Int32)) dX12_rings_34 (by decide) ?_
      refine r_istore_n (lv' := [(3, .int (1 : Int32)), (2, .int (0 : Int32)), (0, .ref (ad 0)), (1, .int x1)]) dX12_rings_35 (by decide) rfl ?_
      refine r_sub (lv' := [(0, .ref (ad 0)), (1, .int x1), (2, .int (0 : Int32)), (3, .int (1 : Int32))]) [2, 3, 1, 0] rfl ?_
      exact cm_rings_l36  FU _ _ _ _ _ _ _ _ _ _ h
    · replace h := it_pos c4 h
      refine r_bipush (x := (-3 : Int32)) dX12_rings_21 (by decide) ?_
      have hq := Option.some.inj h
      subst hq
      exact r_iret rfl dX12_rings_23
theorem dX12_seed_0 : decode cX12_seed 0 = .ok (.iload_n 1, 1) := by decide +kernel
theorem dX12_seed_1 : decode cX12_seed 1 = .ok (.ifCond .ge 5, 3) := by decide +kernel
theorem dX12_seed_4 : decode cX12_seed 4 = .ok (.iconst (-1), 1) := by decide +kernel
theorem dX12_seed_5 : decode cX12_seed 5 = .ok (.ireturn, 1) := by decide +kernel
theorem dX12_seed_6 : decode cX12_seed 6 = .ok (.aload_n 0, 1) := by decide +kernel
theorem dX12_seed_7 : decode cX12_seed 7 = .ok (.getfield 443, 3) := by decide +kernel
theorem dX12_seed_10 : decode cX12_seed 10 = .ok (.istore_n 2, 1) := by decide +kernel
theorem dX12_seed_11 : decode cX12_seed 11 = .ok (.aload_n 0, 1) := by decide +kernel
theorem dX12_seed_12 : decode cX12_seed 12 = .ok (.iload_n 1, 1) := by decide +kernel
theorem dX12_seed_13 : decode cX12_seed 13 = .ok (.putfield 443, 3) := by decide +kernel
theorem dX12_seed_16 : decode cX12_seed 16 = .ok (.iload_n 2, 1) := by decide +kernel
theorem dX12_seed_17 : decode cX12_seed 17 = .ok (.ireturn, 1) := by decide +kernel
abbrev Mm_seed : rx_M := (RX12, yX12_seed, cX12_seed, 3, (some .int), 1)
theorem km_seed : rKv Mm_seed 1 := ⟨tb_in (i := 36) (j := 8) rfl rfl, tb_in (i := 36) (j := 9) rfl rfl, tb_in (i := 17) (j := 21) rfl rfl, tb_in (i := 29) (j := 22) rfl rfl, ⟨by decide, by decide, by decide +kernel⟩, by decide⟩
def m_seed (x1 : Int32) (z_x : Int32) : Option (Int32 × Int32) := (if 0 ≤ x1 then some (z_x, x1) else some ((-1 : Int32), z_x))
set_option maxRecDepth 20000 in
theorem cm_seed {q : Int32 × Int32} {x1 : Int32} (h : m_seed x1 z_x = some q) : rMet l D Z (ty7 K) Mm_seed [.ref (ad 0), .int x1] (wM K ad z_tape z_taped z_rules z_sign z_length z_clause z_clauses z_read z_next z_wrong z_number z_text z_made z_deep z_lines z_open z_opened z_stack z_top z_word z_said z_force z_x z_absent z_isRaining z_wasSaid z_undone z_kept z_order z_bestOrder z_hasBy z_wealthThen z_isFit z_tillThen z_drawX z_images z_imageForce z_imageX z_isMade) (wM K ad z_tape z_taped z_rules z_sign z_length z_clause z_clauses z_read z_next z_wrong z_number z_text z_made z_deep z_lines z_open z_opened z_stack z_top z_word z_said z_force q.2 z_absent z_isRaining z_wasSaid z_undone z_kept z_order z_bestOrder z_hasBy z_wealthThen z_isFit z_tillThen z_drawX z_images z_imageForce z_imageX z_isMade) (some (.int q.1)) := by
  refine rMet.of (by decide) rfl (Nat.le_of_ble_eq_true rfl) ?_
  refine r_sub (lv' := [(0, .ref (ad 0)), (1, .int x1)]) [0, 1] rfl ?_
  unfold m_seed at h
  refine r_iload_n 1 dX12_seed_0 rfl ?_
  refine r_if_ge 6 dX12_seed_1 (by decide) (fun c1 => ?_) (fun c1 => ?_)
  · replace h := it_pos c1 h
    refine r_aload_n 0 dX12_seed_6 rfl ?_
    refine gM_x rfl dX12_seed_7 ?_
    refine r_istore_n (lv' := [(2, .int z_x), (0, .ref (ad 0)), (1, .int x1)]) dX12_seed_10 (by decide) rfl ?_
    refine r_aload_n 1 dX12_seed_11 rfl ?_
    refine r_iload_n 2 dX12_seed_12 rfl ?_
    refine pM_x rfl dX12_seed_13 ?_
    refine r_iload_n 0 dX12_seed_16 rfl ?_
    have hq := Option.some.inj h
    subst hq
    exact r_iret rfl dX12_seed_17
  · replace h := it_neg c1 h
    refine r_iconst (x := (-1 : Int32)) dX12_seed_4 (by decide) ?_
    have hq := Option.some.inj h
    subst hq
    exact r_iret rfl dX12_seed_5
theorem dX12_draw_0 : decode cX12_draw 0 = .ok (.aload_n 0, 1) := by decide +kernel
theorem dX12_draw_1 : decode cX12_draw 1 = .ok (.aload_n 0, 1) := by decide +kernel
theorem dX12_draw_2 : decode cX12_draw 2 = .ok (.getfield 446, 3) := by decide +kernel
theorem dX12_draw_5 : decode cX12_draw 5 = .ok (.ldc2_w 450, 3) := by decide +kernel
theorem dX12_draw_8 : decode cX12_draw 8 = .ok (.lmul, 1) := by decide +kernel
theorem dX12_draw_9 : decode cX12_draw 9 = .ok (.ldc2_w 452, 3) := by decide +kernel
theorem dX12_draw_12 : decode cX12_draw 12 = .ok (.ladd, 1) := by decide +kernel
theorem dX12_draw_13 : decode cX12_draw 13 = .ok (.ldc2_w 454, 3) := by decide +kernel
theorem dX12_draw_16 : decode cX12_draw 16 = .ok (.lrem, 1) := by decide +kernel
theorem dX12_draw_17 : decode cX12_draw 17 = .ok (.putfield 446, 3) := by decide +kernel
theorem dX12_draw_20 : decode cX12_draw 20 = .ok (.aload_n 0, 1) := by decide +kernel
theorem dX12_draw_21 : decode cX12_draw 21 = .ok (.getfield 446, 3) := by decide +kernel
theorem dX12_draw_24 : decode cX12_draw 24 = .ok (.ldc2_w 456, 3) := by decide +kernel
theorem dX12_draw_27 : decode cX12_draw 27 = .ok (.ldiv, 1) := by decide +kernel
theorem dX12_draw_28 : decode cX12_draw 28 = .ok (.iload_n 1, 1) := by decide +kernel
theorem dX12_draw_29 : decode cX12_draw 29 = .ok (.i2l, 1) := by decide +kernel
theorem dX12_draw_30 : decode cX12_draw 30 = .ok (.lrem, 1) := by decide +kernel
theorem dX12_draw_31 : decode cX12_draw 31 = .ok (.l2i, 1) := by decide +kernel
theorem dX12_draw_32 : decode cX12_draw 32 = .ok (.ireturn, 1) := by decide +kernel
abbrev Mm_draw : rx_M := (RX12, yX12_draw, cX12_draw, 2, (some .int), 1)
theorem km_draw : rKv Mm_draw 1 := ⟨tb_in (i := 30) (j := 0) rfl rfl, tb_in (i := 30) (j := 1) rfl rfl, tb_in (i := 17) (j := 21) rfl rfl, tb_in (i := 29) (j := 24) rfl rfl, ⟨by decide, by decide, by decide +kernel⟩, by decide⟩
def m_draw (x1 : Int32) (z_drawX : Int64) : Option (Int32 × Int64) := lt (((z_drawX * (1103515245 : Int64)) + (12345 : Int64)) - ((z_drawX * (1103515245 : Int64)) + (12345 : Int64)) / (2147483648 : Int64) * (2147483648 : Int64)) (fun y1 => rq (decide (¬ (x1.toInt64) = 0)) (some ((((y1 / (65536 : Int64)) - (y1 / (65536 : Int64)) / (x1.toInt64) * (x1.toInt64)).toInt32), y1)))
set_option maxRecDepth 20000 in
theorem cm_draw {q : Int32 × Int64} {x1 : Int32} (h : m_draw x1 z_drawX = some q) : rMet l D Z (ty7 K) Mm_draw [.ref (ad 0), .int x1] (wM K ad z_tape z_taped z_rules z_sign z_length z_clause z_clauses z_read z_next z_wrong z_number z_text z_made z_deep z_lines z_open z_opened z_stack z_top z_word z_said z_force z_x z_absent z_isRaining z_wasSaid z_undone z_kept z_order z_bestOrder z_hasBy z_wealthThen z_isFit z_tillThen z_drawX z_images z_imageForce z_imageX z_isMade) (wM K ad z_tape z_taped z_rules z_sign z_length z_clause z_clauses z_read z_next z_wrong z_number z_text z_made z_deep z_lines z_open z_opened z_stack z_top z_word z_said z_force z_x z_absent z_isRaining z_wasSaid z_undone z_kept z_order z_bestOrder z_hasBy z_wealthThen z_isFit z_tillThen q.2 z_images z_imageForce z_imageX z_isMade) (some (.int q.1)) := by
  refine rMet.of (by decide) rfl (Nat.le_of_ble_eq_true rfl) ?_
  refine r_sub (lv' := [(0, .ref (ad 0)), (1, .int x1)]) [0, 1] rfl ?_
  unfold m_draw at h
  refine r_aload_n 0 dX12_draw_0 rfl ?_
  refine r_aload_n 0 dX12_draw_1 rfl ?_
  refine gM_drawX rfl dX12_draw_2 ?_
  refine r_ldc2 (x := (1103515245 : Int64)) (tb_in (i := 29) (j := 26) rfl rfl) dX12_draw_5 ?_
  refine r_lmul dX12_draw_8 ?_
  refine r_ldc2 (x := (12345 : Int64)) (tb_in (i := 29) (j := 27) rfl rfl) dX12_draw_9 ?_
  refine r_ladd dX12_draw_12 ?_
  refine r_ldc2 (x := (2147483648 : Int64)) (tb_in (i := 29) (j := 28) rfl rfl) dX12_draw_13 ?_
  refine r_lrem dX12_draw_16 (by decide) ?_
  obtain ⟨y1, e1, h⟩ := lt_some h
  refine r_topl e1 ?_
  refine pM_drawX rfl dX12_draw_17 ?_
  refine r_aload_n 0 dX12_draw_20 rfl ?_
  refine gM_drawX rfl dX12_draw_21 ?_
  refine r_ldc2 (x := (65536 : Int64)) (tb_in (i := 29) (j := 29) rfl rfl) dX12_draw_24 ?_
  refine r_ldiv dX12_draw_27 (by decide) ?_
  refine r_iload_n 1 dX12_draw_28 rfl ?_
  refine r_i2l dX12_draw_29 ?_
  obtain ⟨h2, h⟩ := rq_some h
  refine r_lrem dX12_draw_30 (of_decide_eq_true h2) ?_
  refine r_l2i dX12_draw_31 ?_
  have hq := Option.some.inj h
  subst hq
  exact r_iret rfl dX12_draw_32
theorem dX12_rains_0 : decode cX12_rains 0 = .ok (.aload_n 0, 1) := by decide +kernel
theorem dX12_rains_1 : decode cX12_rains 1 = .ok (.invokevirtual 358, 3) := by decide +kernel
theorem dX12_rains_4 : decode cX12_rains 4 = .ok (.ifCond .eq 50, 3) := by decide +kernel
theorem dX12_rains_7 : decode cX12_rains 7 = .ok (.iload_n 1, 1) := by decide +kernel
theorem dX12_rains_8 : decode cX12_rains 8 = .ok (.i2l, 1) := by decide +kernel
theorem dX12_rains_9 : decode cX12_rains 9 = .ok (.lconst 1, 1) := by decide +kernel
theorem dX12_rains_10 : decode cX12_rains 10 = .ok (.ldc2_w 458, 3) := by decide +kernel
theorem dX12_rains_13 : decode cX12_rains 13 = .ok (.invokestatic 124, 3) := by decide +kernel
theorem dX12_rains_16 : decode cX12_rains 16 = .ok (.ifCond .eq 38, 3) := by decide +kernel
theorem dX12_rains_19 : decode cX12_rains 19 = .ok (.iload_n 2, 1) := by decide +kernel
theorem dX12_rains_20 : decode cX12_rains 20 = .ok (.i2l, 1) := by decide +kernel
theorem dX12_rains_21 : decode cX12_rains 21 = .ok (.lconst 1, 1) := by decide +kernel
theorem dX12_rains_22 : decode cX12_rains 22 = .ok (.ldc2_w 413, 3) := by decide +kernel
theorem dX12_rains_25 : decode cX12_rains 25 = .ok (.invokestatic 124, 3) := by decide +kernel
theorem dX12_rains_28 : decode cX12_rains 28 = .ok (.ifCond .eq 26, 3) := by decide +kernel
theorem dX12_rains_31 : decode cX12_rains 31 = .ok (.iload_n 3, 1) := by decide +kernel
theorem dX12_rains_32 : decode cX12_rains 32 = .ok (.i2l, 1) := by decide +kernel
theorem dX12_rains_33 : decode cX12_rains 33 = .ok (.lconst 0, 1) := by decide +kernel
theorem dX12_rains_34 : decode cX12_rains 34 = .ok (.ldc2_w 374, 3) := by decide +kernel
theorem dX12_rains_37 : decode cX12_rains 37 = .ok (.invokestatic 124, 3) := by decide +kernel
theorem dX12_rains_40 : decode cX12_rains 40 = .ok (.ifCond .eq 14, 3) := by decide +kernel
theorem dX12_rains_43 : decode cX12_rains 43 = .ok (.iload 4, 2) := by decide +kernel
theorem dX12_rains_45 : decode cX12_rains 45 = .ok (.i2l, 1) := by decide +kernel
theorem dX12_rains_46 : decode cX12_rains 46 = .ok (.lconst 0, 1) := by decide +kernel
theorem dX12_rains_47 : decode cX12_rains 47 = .ok (.lconst 1, 1) := by decide +kernel
theorem dX12_rains_48 : decode cX12_rains 48 = .ok (.invokestatic 124, 3) := by decide +kernel
theorem dX12_rains_51 : decode cX12_rains 51 = .ok (.ifCond .ne 5, 3) := by decide +kernel
theorem dX12_rains_54 : decode cX12_rains 54 = .ok (.iconst (-1), 1) := by decide +kernel
theorem dX12_rains_55 : decode cX12_rains 55 = .ok (.ireturn, 1) := by decide +kernel
theorem dX12_rains_56 : decode cX12_rains 56 = .ok (.aload_n 0, 1) := by decide +kernel
theorem dX12_rains_57 : decode cX12_rains 57 = .ok (.aload_n 0, 1) := by decide +kernel
theorem dX12_rains_58 : decode cX12_rains 58 = .ok (.getfield 443, 3) := by decide +kernel
theorem dX12_rains_61 : decode cX12_rains 61 = .ok (.i2l, 1) := by decide +kernel
theorem dX12_rains_62 : decode cX12_rains 62 = .ok (.putfield 446, 3) := by decide +kernel
theorem dX12_rains_65 : decode cX12_rains 65 = .ok (.iconst 0, 1) := by decide +kernel
theorem dX12_rains_66 : decode cX12_rains 66 = .ok (.istore 5, 2) := by decide +kernel
theorem dX12_rains_68 : decode cX12_rains 68 = .ok (.iconst 0, 1) := by decide +kernel
theorem dX12_rains_69 : decode cX12_rains 69 = .ok (.istore 6, 2) := by decide +kernel
theorem dX12_rains_71 : decode cX12_rains 71 = .ok (.aload_n 0, 1) := by decide +kernel
theorem dX12_rains_72 : decode cX12_rains 72 = .ok (.invokevirtual 376, 3) := by decide +kernel
theorem dX12_rains_75 : decode cX12_rains 75 = .ok (.iconst 0, 1) := by decide +kernel
theorem dX12_rains_76 : decode cX12_rains 76 = .ok (.istore 7, 2) := by decide +kernel
theorem dX12_rains_78 : decode cX12_rains 78 = .ok (.iload 7, 2) := by decide +kernel
theorem dX12_rains_80 : decode cX12_rains 80 = .ok (.iload_n 1, 1) := by decide +kernel
theorem dX12_rains_81 : decode cX12_rains 81 = .ok (.if_icmp .ge 66, 3) := by decide +kernel
theorem dX12_rains_84 : decode cX12_rains 84 = .ok (.iconst 0, 1) := by decide +kernel
theorem dX12_rains_85 : decode cX12_rains 85 = .ok (.istore 8, 2) := by decide +kernel
theorem dX12_rains_87 : decode cX12_rains 87 = .ok (.iload 8, 2) := by decide +kernel
theorem dX12_rains_89 : decode cX12_rains 89 = .ok (.iload_n 2, 1) := by decide +kernel
theorem dX12_rains_90 : decode cX12_rains 90 = .ok (.if_icmp .ge 37, 3) := by decide +kernel
theorem dX12_rains_93 : decode cX12_rains 93 = .ok (.aload_n 0, 1) := by decide +kernel
theorem dX12_rains_94 : decode cX12_rains 94 = .ok (.aload_n 0, 1) := by decide +kernel
theorem dX12_rains_95 : decode cX12_rains 95 = .ok (.bipush 100, 2) := by decide +kernel
theorem dX12_rains_97 : decode cX12_rains 97 = .ok (.invokevirtual 460, 3) := by decide +kernel
theorem dX12_rains_100 : decode cX12_rains 100 = .ok (.iload_n 3, 1) := by decide +kernel
theorem dX12_rains_101 : decode cX12_rains 101 = .ok (.if_icmp .ge 7, 3) := by decide +kernel
theorem dX12_rains_104 : decode cX12_rains 104 = .ok (.iconst 1, 1) := by decide +kernel
theorem dX12_rains_105 : decode cX12_rains 105 = .ok (.goto 4, 3) := by decide +kernel
theorem dX12_rains_108 : decode cX12_rains 108 = .ok (.iconst 0, 1) := by decide +kernel
theorem dX12_rains_109 : decode cX12_rains 109 = .ok (.putfield 335, 3) := by decide +kernel
theorem dX12_rains_112 : decode cX12_rains 112 = .ok (.iload 5, 2) := by decide +kernel
theorem dX12_rains_114 : decode cX12_rains 114 = .ok (.aload_n 0, 1) := by decide +kernel
theorem dX12_rains_115 : decode cX12_rains 115 = .ok (.invokevirtual 355, 3) := by decide +kernel
theorem dX12_rains_118 : decode cX12_rains 118 = .ok (.iadd, 1) := by decide +kernel
theorem dX12_rains_119 : decode cX12_rains 119 = .ok (.istore 5, 2) := by decide +kernel
theorem dX12_rains_121 : decode cX12_rains 121 = .ok (.iinc 8 1, 3) := by decide +kernel
theorem dX12_rains_124 : decode cX12_rains 124 = .ok (.goto (-37), 3) := by decide +kernel
theorem dX12_rains_127 : decode cX12_rains 127 = .ok (.iload 6, 2) := by decide +kernel
theorem dX12_rains_129 : decode cX12_rains 129 = .ok (.aload_n 0, 1) := by decide +kernel
theorem dX12_rains_130 : decode cX12_rains 130 = .ok (.iconst 0, 1) := by decide +kernel
theorem dX12_rains_131 : decode cX12_rains 131 = .ok (.invokevirtual 428, 3) := by decide +kernel
theorem dX12_rains_134 : decode cX12_rains 134 = .ok (.iadd, 1) := by decide +kernel
theorem dX12_rains_135 : decode cX12_rains 135 = .ok (.istore 6, 2) := by decide +kernel
theorem dX12_rains_137 : decode cX12_rains 137 = .ok (.aload_n 0, 1) := by decide +kernel
theorem dX12_rains_138 : decode cX12_rains 138 = .ok (.invokevirtual 385, 3) := by decide +kernel
theorem dX12_rains_141 : decode cX12_rains 141 = .ok (.iinc 7 1, 3) := by decide +kernel
theorem dX12_rains_144 : decode cX12_rains 144 = .ok (.goto (-66), 3) := by decide +kernel
theorem dX12_rains_147 : decode cX12_rains 147 = .ok (.iload 4, 2) := by decide +kernel
theorem dX12_rains_149 : decode cX12_rains 149 = .ok (.ifCond .ne 8, 3) := by decide +kernel
theorem dX12_rains_152 : decode cX12_rains 152 = .ok (.iload 5, 2) := by decide +kernel
theorem dX12_rains_154 : decode cX12_rains 154 = .ok (.goto 5, 3) := by decide +kernel
theorem dX12_rains_157 : decode cX12_rains 157 = .ok (.iload 6, 2) := by decide +kernel
theorem dX12_rains_159 : decode cX12_rains 159 = .ok (.ireturn, 1) := by decide +kernel
abbrev Mm_rains : rx_M := (RX12, yX12_rains, cX12_rains, 9, (some .int), 8)
theorem km_rains : rKv Mm_rains 4 := ⟨tb_in (i := 36) (j := 14) rfl rfl, tb_in (i := 36) (j := 15) rfl rfl, tb_in (i := 17) (j := 21) rfl rfl, tb_in (i := 30) (j := 2) rfl rfl, ⟨by decide, by decide, by decide +kernel⟩, by decide⟩
def m_rains_l87 (z_sign : Nat → Int32) (z_clause : Nat → Int32) (z_clauses : Nat → Int32) (z_force : Int32) (z_x : Int32) (z_absent : Int32) (z_kept : Nat → Int32) (x1 : Int32) (x2 : Int32) (x3 : Int32) (x4 : Int32) (x6 : Int32) (x7 : Int32) (k78 : Int32 → Int32 → Int32 → (Nat → Int64) → Int32 → (Nat → Int64) → (Nat → Int32) → Int32 → Int64 → Option (Int32 × (Nat → Int64) × Int32 × (Nat → Int64) × (Nat → Int32) × Int32 × (Nat → Int32) × Int64)) : Nat → Int32 → Int32 → (Nat → Int64) → Int32 → (Nat → Int64) → (Nat → Int32) → Int32 → Int64 → Option (Int32 × (Nat → Int64) × Int32 × (Nat → Int64) × (Nat → Int32) × Int32 × (Nat → Int32) × Int64)
  | 0, _, _, _, _, _, _, _, _ => none
  | n + 1, x5, x8, z_stack, z_top, z_word, z_said, z_isRaining, z_drawX => (if x2 ≤ x8 then (m_sumOfAll (0 : Int32) z_said).bind (fun q16 => lt (x6 + q16) (fun y17 => (m_laysBack z_said z_kept).bind (fun q18 => k78 x5 y17 (x7 + (1 : Int32)) z_stack z_top z_word q18 z_isRaining z_drawX))) else (m_draw (100 : Int32) z_drawX).bind (fun q19 => (if x3 ≤ q19.1 then (m_passes z_sign z_clause z_clauses z_stack z_top z_word z_said z_force z_absent (0 : Int32)).bind (fun q21 => lt (x5 + q21.1) (fun y22 => m_rains_l87 z_sign z_clause z_clauses z_force z_x z_absent z_kept x1 x2 x3 x4 x6 x7 k78 n y22 (x8 + (1 : Int32)) q21.2.1 q21.2.2.1 q21.2.2.2.1 q21.2.2.2.2.1 q21.2.2.2.2.2 q19.2)) else (m_passes z_sign z_clause z_clauses z_stack z_top z_word z_said z_force z_absent (1 : Int32)).bind (fun q23 => lt (x5 + q23.1) (fun y24 => m_rains_l87 z_sign z_clause z_clauses z_force z_x z_absent z_kept x1 x2 x3 x4 x6 x7 k78 n y24 (x8 + (1 : Int32)) q23.2.1 q23.2.2.1 q23.2.2.2.1 q23.2.2.2.2.1 q23.2.2.2.2.2 q19.2)))))
set_option maxRecDepth 20000 in
theorem cm_rains_l87 {q : Int32 × (Nat → Int64) × Int32 × (Nat → Int64) × (Nat → Int32) × Int32 × (Nat → Int32) × Int64} {x1 : Int32} {x2 : Int32} {x3 : Int32} {x4 : Int32} {x6 : Int32} {x7 : Int32} {k78 : Int32 → Int32 → Int32 → (Nat → Int64) → Int32 → (Nat → Int64) → (Nat → Int32) → Int32 → Int64 → Option (Int32 × (Nat → Int64) × Int32 × (Nat → Int64) × (Nat → Int32) × Int32 × (Nat → Int32) × Int64)} (hk78 : ∀ (x5 : Int32) (x6 : Int32) (x7 : Int32) (z_stack : Nat → Int64) (z_top : Int32) (z_word : Nat → Int64) (z_said : Nat → Int32) (z_isRaining : Int32) (z_drawX : Int64), k78 x5 x6 x7 z_stack z_top z_word z_said z_isRaining z_drawX = some q → rW l D Z (ty7 K) Mm_rains 78 [(0, .ref (ad 0)), (1, .int x1), (2, .int x2), (3, .int x3), (4, .int x4), (5, .int x5), (6, .int x6), (7, .int x7)] [] (wM K ad z_tape z_taped z_rules z_sign z_length z_clause z_clauses z_read z_next z_wrong z_number z_text z_made z_deep z_lines z_open z_opened z_stack z_top z_word z_said z_force z_x z_absent z_isRaining z_wasSaid z_undone z_kept z_order z_bestOrder z_hasBy z_wealthThen z_isFit z_tillThen z_drawX z_images z_imageForce z_imageX z_isMade) (wM K ad z_tape z_taped z_rules z_sign z_length z_clause z_clauses z_read z_next z_wrong z_number z_text z_made z_deep z_lines z_open z_opened q.2.1 q.2.2.1 q.2.2.2.1 q.2.2.2.2.1 z_force z_x z_absent q.2.2.2.2.2.1 z_wasSaid z_undone q.2.2.2.2.2.2.1 z_order z_bestOrder z_hasBy z_wealthThen z_isFit z_tillThen q.2.2.2.2.2.2.2 z_images z_imageForce z_imageX z_isMade) (some (.int q.1))) : ∀ (n : Nat) (x5 : Int32) (x8 : Int32) (z_stack : Nat → Int64) (z_top : Int32) (z_word : Nat → Int64) (z_said : Nat → Int32) (z_isRaining : Int32) (z_drawX : Int64), m_rains_l87 z_sign z_clause z_clauses z_force z_x z_absent z_kept x1 x2 x3 x4 x6 x7 k78 n x5 x8 z_stack z_top z_word z_said z_isRaining z_drawX = some q → rW l D Z (ty7 K) Mm_rains 87 [(0, .ref (ad 0)), (1, .int x1), (2, .int x2), (3, .int x3), (4, .int x4), (5, .int x5), (6, .int x6), (7, .int x7), (8, .int x8)] [] (wM K ad z_tape z_taped z_rules z_sign z_length z_clause z_clauses z_read z_next z_wrong z_number z_text z_made z_deep z_lines z_open z_opened z_stack z_top z_word z_said z_force z_x z_absent z_isRaining z_wasSaid z_undone z_kept z_order z_bestOrder z_hasBy z_wealthThen z_isFit z_tillThen z_drawX z_images z_imageForce z_imageX z_isMade) (wM K ad z_tape z_taped z_rules z_sign z_length z_clause z_clauses z_read z_next z_wrong z_number z_text z_made z_deep z_lines z_open z_opened q.2.1 q.2.2.1 q.2.2.2.1 q.2.2.2.2.1 z_force z_x z_absent q.2.2.2.2.2.1 z_wasSaid z_undone q.2.2.2.2.2.2.1 z_order z_bestOrder z_hasBy z_wealthThen z_isFit z_tillThen q.2.2.2.2.2.2.2 z_images z_imageForce z_imageX z_isMade) (some (.int q.1)) := by
  intro n
  induction n with
  | zero => intro x5 x8 z_stack z_top z_word z_said z_isRaining z_drawX h; unfold m_rains_l87 at h; cases h
  | succ n ih =>
    intro x5 x8 z_stack z_top z_word z_said z_isRaining z_drawX h
    unfold m_rains_l87 at h
    refine r_iload 8 dX12_rains_87 rfl ?_
    refine r_iload_n 2 dX12_rains_89 rfl ?_
    refine r_icmp_ge 127 dX12_rains_90 (by decide) (fun c15 => ?_) (fun c15 => ?_)
    · replace h := it_pos c15 h
      refine r_iload 6 dX12_rains_127 rfl ?_
      refine r_aload_n 0 dX12_rains_129 rfl ?_
      refine r_iconst (x := (0 : Int32)) dX12_rains_130 (by decide) ?_
      obtain ⟨q16, h16, h⟩ := bd_some h
      refine cvM (st := [.int x6]) (cm_sumOfAll h16) rfl rfl (Nat.le_of_ble_eq_true rfl) km_sumOfAll (tb_in (i := 28) (j := 31) rfl rfl) (by decide) rfl dX12_rains_131 ?_
      refine r_iadd dX12_rains_134 ?_
      obtain ⟨y17, e17, h⟩ := lt_some h
      refine r_top e17 ?_
      refine r_istore (lv' := [(6, .int y17), (0, .ref (ad 0)), (1, .int x1), (2, .int x2), (3, .int x3), (4, .int x4), (5, .int x5), (7, .int x7), (8, .int x8)]) dX12_rains_135 (by decide) rfl ?_
      refine r_aload_n 1 dX12_rains_137 rfl ?_
      obtain ⟨q18, h18, h⟩ := bd_some h
      refine cvM (st := []) (cm_laysBack h18) rfl rfl (Nat.le_of_ble_eq_true rfl) km_laysBack (tb_in (i := 27) (j := 3) rfl rfl) (by decide) rfl dX12_rains_138 ?_
      refine r_iinc (y := (x7 + (1 : Int32))) (lv' := [(7, .int (x7 + (1 : Int32))), (6, .int y17), (0, .ref (ad 0)), (1, .int x1), (2, .int x2), (3, .int x3), (4, .int x4), (5, .int x5), (8, .int x8)]) 7 dX12_rains_141 rfl rfl (by decide) rfl ?_
      refine r_goto 78 dX12_rains_144 (by decide) ?_
      refine r_sub (lv' := [(0, .ref (ad 0)), (1, .int x1), (2, .int x2), (3, .int x3), (4, .int x4), (5, .int x5), (6, .int y17), (7, .int (x7 + (1 : Int32)))]) [2, 3, 4, 5, 6, 7, 1, 0] rfl ?_
      exact hk78 _ _ _ _ _ _ _ _ _ h
    · replace h := it_neg c15 h
      refine r_aload_n 0 dX12_rains_93 rfl ?_
      refine r_aload_n 0 dX12_rains_94 rfl ?_
      refine r_bipush (x := (100 : Int32)) dX12_rains_95 (by decide) ?_
      obtain ⟨q19, h19, h⟩ := bd_some h
      refine cvM (st := [.ref (ad 0)]) (cm_draw h19) rfl rfl (Nat.le_of_ble_eq_true rfl) km_draw (tb_in (i := 29) (j := 31) rfl rfl) (by decide) rfl dX12_rains_97 ?_
      refine r_iload_n 3 dX12_rains_100 rfl ?_
      refine r_icmp_ge 108 dX12_rains_101 (by decide) (fun c20 => ?_) (fun c20 => ?_)
      · replace h := it_pos c20 h
        refine r_iconst (x := (0 : Int32)) dX12_rains_108 (by decide) ?_
        refine pM_isRaining rfl rfl rfl dX12_rains_109 ?_
        refine r_iload 5 dX12_rains_112 rfl ?_
        refine r_aload_n 0 dX12_rains_114 rfl ?_
        obtain ⟨q21, h21, h⟩ := bd_some h
        refine cvM (st := [.int x5]) (cm_passes h21) rfl rfl (Nat.le_of_ble_eq_true rfl) km_passes (tb_in (i := 25) (j := 28) rfl rfl) (by decide) rfl dX12_rains_115 ?_
        refine r_iadd dX12_rains_118 ?_
        obtain ⟨y22, e22, h⟩ := lt_some h
        refine r_top e22 ?_
        refine r_istore (lv' := [(5, .int y22), (0, .ref (ad 0)), (1, .int x1), (2, .int x2), (3, .int x3), (4, .int x4), (6, .int x6), (7, .int x7), (8, .int x8)]) dX12_rains_119 (by decide) rfl ?_
        refine r_iinc (y := (x8 + (1 : Int32))) (lv' := [(8, .int (x8 + (1 : Int32))), (5, .int y22), (0, .ref (ad 0)), (1, .int x1), (2, .int x2), (3, .int x3), (4, .int x4), (6, .int x6), (7, .int x7)]) 8 dX12_rains_121 rfl rfl (by decide) rfl ?_
        refine r_goto 87 dX12_rains_124 (by decide) ?_
        refine r_sub (lv' := [(0, .ref (ad 0)), (1, .int x1), (2, .int x2), (3, .int x3), (4, .int x4), (5, .int y22), (6, .int x6), (7, .int x7), (8, .int (x8 + (1 : Int32)))]) [2, 3, 4, 5, 6, 1, 7, 8, 0] rfl ?_
        exact ih _ _ _ _ _ _ _ _ h
      · replace h := it_neg c20 h
        refine r_iconst (x := (1 : Int32)) dX12_rains_104 (by decide) ?_
        refine r_goto 109 dX12_rains_105 (by decide) ?_
        refine pM_isRaining rfl rfl rfl dX12_rains_109 ?_
        refine r_iload 5 dX12_rains_112 rfl ?_
        refine r_aload_n 0 dX12_rains_114 rfl ?_
        obtain ⟨q23, h23, h⟩ := bd_some h
        refine cvM (st := [.int x5]) (cm_passes h23) rfl rfl (Nat.le_of_ble_eq_true rfl) km_passes (tb_in (i := 25) (j := 28) rfl rfl) (by decide) rfl dX12_rains_115 ?_
        refine r_iadd dX12_rains_118 ?_
        obtain ⟨y24, e24, h⟩ := lt_some h
        refine r_top e24 ?_
        refine r_istore (lv' := [(5, .int y24), (0, .ref (ad 0)), (1, .int x1), (2, .int x2), (3, .int x3), (4, .int x4), (6, .int x6), (7, .int x7), (8, .int x8)]) dX12_rains_119 (by decide) rfl ?_
        refine r_iinc (y := (x8 + (1 : Int32))) (lv' := [(8, .int (x8 + (1 : Int32))), (5, .int y24), (0, .ref (ad 0)), (1, .int x1), (2, .int x2), (3, .int x3), (4, .int x4), (6, .int x6), (7, .int x7)]) 8 dX12_rains_121 rfl rfl (by decide) rfl ?_
        refine r_goto 87 dX12_rains_124 (by decide) ?_
        refine r_sub (lv' := [(0, .ref (ad 0)), (1, .int x1), (2, .int x2), (3, .int x3), (4, .int x4), (5, .int y24), (6, .int x6), (7, .int x7), (8, .int (x8 + (1 : Int32)))]) [2, 3, 4, 5, 6, 1, 7, 8, 0] rfl ?_
        exact ih _ _ _ _ _ _ _ _ h
def m_rains_l78 (z_sign : Nat → Int32) (z_clause : Nat → Int32) (z_clauses : Nat → Int32) (z_force : Int32) (z_x : Int32) (z_absent : Int32) (z_kept : Nat → Int32) (x1 : Int32) (x2 : Int32) (x3 : Int32) (x4 : Int32) : Nat → Int32 → Int32 → Int32 → (Nat → Int64) → Int32 → (Nat → Int64) → (Nat → Int32) → Int32 → Int64 → Option (Int32 × (Nat → Int64) × Int32 × (Nat → Int64) × (Nat → Int32) × Int32 × (Nat → Int32) × Int64)
  | 0, _, _, _, _, _, _, _, _, _ => none
  | n + 1, x5, x6, x7, z_stack, z_top, z_word, z_said, z_isRaining, z_drawX => (if x1 ≤ x7 then (if x4 = 0 then some (x5, z_stack, z_top, z_word, z_said, z_isRaining, z_kept, z_drawX) else some (x6, z_stack, z_top, z_word, z_said, z_isRaining, z_kept, z_drawX)) else m_rains_l87 z_sign z_clause z_clauses z_force z_x z_absent z_kept x1 x2 x3 x4 x6 x7 (m_rains_l78 z_sign z_clause z_clauses z_force z_x z_absent z_kept x1 x2 x3 x4 n) FU x5 (0 : Int32) z_stack z_top z_word z_said z_isRaining z_drawX)
set_option maxRecDepth 20000 in
theorem cm_rains_l78 {q : Int32 × (Nat → Int64) × Int32 × (Nat → Int64) × (Nat → Int32) × Int32 × (Nat → Int32) × Int64} {x1 : Int32} {x2 : Int32} {x3 : Int32} {x4 : Int32}  : ∀ (n : Nat) (x5 : Int32) (x6 : Int32) (x7 : Int32) (z_stack : Nat → Int64) (z_top : Int32) (z_word : Nat → Int64) (z_said : Nat → Int32) (z_isRaining : Int32) (z_drawX : Int64), m_rains_l78 z_sign z_clause z_clauses z_force z_x z_absent z_kept x1 x2 x3 x4 n x5 x6 x7 z_stack z_top z_word z_said z_isRaining z_drawX = some q → rW l D Z (ty7 K) Mm_rains 78 [(0, .ref (ad 0)), (1, .int x1), (2, .int x2), (3, .int x3), (4, .int x4), (5, .int x5), (6, .int x6), (7, .int x7)] [] (wM K ad z_tape z_taped z_rules z_sign z_length z_clause z_clauses z_read z_next z_wrong z_number z_text z_made z_deep z_lines z_open z_opened z_stack z_top z_word z_said z_force z_x z_absent z_isRaining z_wasSaid z_undone z_kept z_order z_bestOrder z_hasBy z_wealthThen z_isFit z_tillThen z_drawX z_images z_imageForce z_imageX z_isMade) (wM K ad z_tape z_taped z_rules z_sign z_length z_clause z_clauses z_read z_next z_wrong z_number z_text z_made z_deep z_lines z_open z_opened q.2.1 q.2.2.1 q.2.2.2.1 q.2.2.2.2.1 z_force z_x z_absent q.2.2.2.2.2.1 z_wasSaid z_undone q.2.2.2.2.2.2.1 z_order z_bestOrder z_hasBy z_wealthThen z_isFit z_tillThen q.2.2.2.2.2.2.2 z_images z_imageForce z_imageX z_isMade) (some (.int q.1)) := by
  intro n
  induction n with
  | zero => intro x5 x6 x7 z_stack z_top z_word z_said z_isRaining z_drawX h; unfold m_rains_l78 at h; cases h
  | succ n ih =>
    intro x5 x6 x7 z_stack z_top z_word z_said z_isRaining z_drawX h
    unfold m_rains_l78 at h
    refine r_iload 7 dX12_rains_78 rfl ?_
    refine r_iload_n 1 dX12_rains_80 rfl ?_
    refine r_icmp_ge 147 dX12_rains_81 (by decide) (fun c13 => ?_) (fun c13 => ?_)
    · replace h := it_pos c13 h
      refine r_iload 4 dX12_rains_147 rfl ?_
      refine r_if_ne 157 dX12_rains_149 (by decide) (fun c14 => ?_) (fun c14 => ?_)
      · replace h := it_neg c14 h
        refine r_iload 6 dX12_rains_157 rfl ?_
        have hq := Option.some.inj h
        subst hq
        exact r_iret rfl dX12_rains_159
      · replace h := it_pos c14 h
        refine r_iload 5 dX12_rains_152 rfl ?_
        refine r_goto 159 dX12_rains_154 (by decide) ?_
        have hq := Option.some.inj h
        subst hq
        exact r_iret rfl dX12_rains_159
    · replace h := it_neg c13 h
      refine r_iconst (x := (0 : Int32)) dX12_rains_84 (by decide) ?_
      refine r_istore (lv' := [(8, .int (0 : Int32)), (0, .ref (ad 0)), (1, .int x1), (2, .int x2), (3, .int x3), (4, .int x4), (5, .int x5), (6, .int x6), (7, .int x7)]) dX12_rains_85 (by decide) rfl ?_
      refine r_sub (lv' := [(0, .ref (ad 0)), (1, .int x1), (2, .int x2), (3, .int x3), (4, .int x4), (5, .int x5), (6, .int x6), (7, .int x7), (8, .int (0 : Int32))]) [1, 2, 3, 4, 5, 6, 7, 8, 0] rfl ?_
      exact cm_rains_l87 (ih) FU _ _ _ _ _ _ _ _ h
def m_rains (x1 : Int32) (x2 : Int32) (x3 : Int32) (x4 : Int32) (z_sign : Nat → Int32) (z_clause : Nat → Int32) (z_clauses : Nat → Int32) (z_stack : Nat → Int64) (z_top : Int32) (z_word : Nat → Int64) (z_said : Nat → Int32) (z_force : Int32) (z_x : Int32) (z_absent : Int32) (z_isRaining : Int32) (z_kept : Nat → Int32) (z_drawX : Int64) : Option (Int32 × (Nat → Int64) × Int32 × (Nat → Int64) × (Nat → Int32) × Int32 × (Nat → Int32) × Int64) := (m_isFair z_said).bind (fun q1 => (if q1 = 0 then some ((-1 : Int32), z_stack, z_top, z_word, z_said, z_isRaining, z_kept, z_drawX) else (m_in (x1.toInt64) (1 : Int64) (10 : Int64)).bind (fun q3 => (if q3 = 0 then some ((-1 : Int32), z_stack, z_top, z_word, z_said, z_isRaining, z_kept, z_drawX) else (m_in (x2.toInt64) (1 : Int64) (60 : Int64)).bind (fun q5 => (if q5 = 0 then some ((-1 : Int32), z_stack, z_top, z_word, z_said, z_isRaining, z_kept, z_drawX) else (m_in (x3.toInt64) (0 : Int64) (100 : Int64)).bind (fun q7 => (if q7 = 0 then some ((-1 : Int32), z_stack, z_top, z_word, z_said, z_isRaining, z_kept, z_drawX) else (m_in (x4.toInt64) (0 : Int64) (1 : Int64)).bind (fun q9 => (if q9 = 0 then some ((-1 : Int32), z_stack, z_top, z_word, z_said, z_isRaining, z_kept, z_drawX) else lt (z_x.toInt64) (fun y11 => (m_keeps z_said z_kept).bind (fun q12 => m_rains_l78 z_sign z_clause z_clauses z_force z_x z_absent q12 x1 x2 x3 x4 FU (0 : Int32) (0 : Int32) (0 : Int32) z_stack z_top z_word z_said z_isRaining y11))))))))))))
set_option maxRecDepth 20000 in
theorem cm_rains {q : Int32 × (Nat → Int64) × Int32 × (Nat → Int64) × (Nat → Int32) × Int32 × (Nat → Int32) × Int64} {x1 : Int32} {x2 : Int32} {x3 : Int32} {x4 : Int32} (h : m_rains x1 x2 x3 x4 z_sign z_clause z_clauses z_stack z_top z_word z_said z_force z_x z_absent z_isRaining z_kept z_drawX = some q) : rMet l D Z (ty7 K) Mm_rains [.ref (ad 0), .int x1, .int x2, .int x3, .int x4] (wM K ad z_tape z_taped z_rules z_sign z_length z_clause z_clauses z_read z_next z_wrong z_number z_text z_made z_deep z_lines z_open z_opened z_stack z_top z_word z_said z_force z_x z_absent z_isRaining z_wasSaid z_undone z_kept z_order z_bestOrder z_hasBy z_wealthThen z_isFit z_tillThen z_drawX z_images z_imageForce z_imageX z_isMade) (wM K ad z_tape z_taped z_rules z_sign z_length z_clause z_clauses z_read z_next z_wrong z_number z_text z_made z_deep z_lines z_open z_opened q.2.1 q.2.2.1 q.2.2.2.1 q.2.2.2.2.1 z_force z_x z_absent q.2.2.2.2.2.1 z_wasSaid z_undone q.2.2.2.2.2.2.1 z_order z_bestOrder z_hasBy z_wealthThen z_isFit z_tillThen q.2.2.2.2.2.2.2 z_images z_imageForce z_imageX z_isMade) (some (.int q.1)) := by
  refine rMet.of (by decide) rfl (Nat.le_of_ble_eq_true rfl) ?_
  refine r_sub (lv' := [(0, .ref (ad 0)), (1, .int x1), (2, .int x2), (3, .int x3), (4, .int x4)]) [0, 1, 2, 3, 4] rfl ?_
  unfold m_rains at h
  refine r_aload_n 0 dX12_rains_0 rfl ?_
  obtain ⟨q1, h1, h⟩ := bd_some h
  refine cvM (st := []) (cm_isFair h1) rfl rfl (Nat.le_of_ble_eq_true rfl) km_isFair (tb_in (i := 26) (j := 2) rfl rfl) (by decide) rfl dX12_rains_1 ?_
  refine r_if_eq 54 dX12_rains_4 (by decide) (fun c2 => ?_) (fun c2 => ?_)
  · replace h := it_pos c2 h
    refine r_iconst (x := (-1 : Int32)) dX12_rains_54 (by decide) ?_
    have hq := Option.some.inj h
    subst hq
    exact r_iret rfl dX12_rains_55
  · replace h := it_neg c2 h
    refine r_iload_n 1 dX12_rains_7 rfl ?_
    refine r_i2l dX12_rains_8 ?_
    refine r_lconst (x := (1 : Int64)) dX12_rains_9 (by decide) ?_
    refine r_ldc2 (x := (10 : Int64)) (tb_in (i := 29) (j := 30) rfl rfl) dX12_rains_10 ?_
    obtain ⟨q3, h3, h⟩ := bd_some h
    refine r_callS (st := []) (cm_in h3) rfl rfl (Nat.le_of_ble_eq_true rfl) km_in (tb_in (i := 18) (j := 20) rfl rfl) (by decide) dX12_rains_13 ?_
    refine r_if_eq 54 dX12_rains_16 (by decide) (fun c4 => ?_) (fun c4 => ?_)
    · replace h := it_pos c4 h
      refine r_iconst (x := (-1 : Int32)) dX12_rains_54 (by decide) ?_
      have hq := Option.some.inj h
      subst hq
      exact r_iret rfl dX12_rains_55
    · replace h := it_neg c4 h
      refine r_iload_n 2 dX12_rains_19 rfl ?_
      refine r_i2l dX12_rains_20 ?_
      refine r_lconst (x := (1 : Int64)) dX12_rains_21 (by decide) ?_
      refine r_ldc2 (x := (60 : Int64)) (tb_in (i := 28) (j := 10) rfl rfl) dX12_rains_22 ?_
      obtain ⟨q5, h5, h⟩ := bd_some h
      refine r_callS (st := []) (cm_in h5) rfl rfl (Nat.le_of_ble_eq_true rfl) km_in (tb_in (i := 18) (j := 20) rfl rfl) (by decide) dX12_rains_25 ?_
      refine r_if_eq 54 dX12_rains_28 (by decide) (fun c6 => ?_) (fun c6 => ?_)
      · replace h := it_pos c6 h
        refine r_iconst (x := (-1 : Int32)) dX12_rains_54 (by decide) ?_
        have hq := Option.some.inj h
        subst hq
        exact r_iret rfl dX12_rains_55
      · replace h := it_neg c6 h
        refine r_iload_n 3 dX12_rains_31 rfl ?_
        refine r_i2l dX12_rains_32 ?_
        refine r_lconst (x := (0 : Int64)) dX12_rains_33 (by decide) ?_
        refine r_ldc2 (x := (100 : Int64)) (tb_in (i := 26) (j := 25) rfl rfl) dX12_rains_34 ?_
        obtain ⟨q7, h7, h⟩ := bd_some h
        refine r_callS (st := []) (cm_in h7) rfl rfl (Nat.le_of_ble_eq_true rfl) km_in (tb_in (i := 18) (j := 20) rfl rfl) (by decide) dX12_rains_37 ?_
        refine r_if_eq 54 dX12_rains_40 (by decide) (fun c8 => ?_) (fun c8 => ?_)
        · replace h := it_pos c8 h
          refine r_iconst (x := (-1 : Int32)) dX12_rains_54 (by decide) ?_
          have hq := Option.some.inj h
          subst hq
          exact r_iret rfl dX12_rains_55
        · replace h := it_neg c8 h
          refine r_iload 4 dX12_rains_43 rfl ?_
          refine r_i2l dX12_rains_45 ?_
          refine r_lconst (x := (0 : Int64)) dX12_rains_46 (by decide) ?_
          refine r_lconst (x := (1 : Int64)) dX12_rains_47 (by decide) ?_
          obtain ⟨q9, h9, h⟩ := bd_some h
          refine r_callS (st := []) (cm_in h9) rfl rfl (Nat.le_of_ble_eq_true rfl) km_in (tb_in (i := 18) (j := 20) rfl rfl) (by decide) dX12_rains_48 ?_
          refine r_if_ne 56 dX12_rains_51 (by decide) (fun c10 => ?_) (fun c10 => ?_)
          · replace h := it_neg c10 h
            refine r_aload_n 0 dX12_rains_56 rfl ?_
            refine r_aload_n 0 dX12_rains_57 rfl ?_
            refine gM_x rfl dX12_rains_58 ?_
            refine r_i2l dX12_rains_61 ?_
            obtain ⟨y11, e11, h⟩ := lt_some h
            refine r_topl e11 ?_
            refine pM_drawX rfl dX12_rains_62 ?_
            refine r_iconst (x := (0 : Int32)) dX12_rains_65 (by decide) ?_
            refine r_istore (lv' := [(5, .int (0 : Int32)), (0, .ref (ad 0)), (1, .int x1), (2, .int x2), (3, .int x3), (4, .int x4)]) dX12_rains_66 (by decide) rfl ?_
            refine r_iconst (x := (0 : Int32)) dX12_rains_68 (by decide) ?_
            refine r_istore (lv' := [(6, .int (0 : Int32)), (5, .int (0 : Int32)), (0, .ref (ad 0)), (1, .int x1), (2, .int x2), (3, .int x3), (4, .int x4)]) dX12_rains_69 (by decide) rfl ?_
            refine r_aload_n 2 dX12_rains_71 rfl ?_
            obtain ⟨q12, h12, h⟩ := bd_some h
            refine cvM (st := []) (cm_keeps h12) rfl rfl (Nat.le_of_ble_eq_true rfl) km_keeps (tb_in (i := 26) (j := 26) rfl rfl) (by decide) rfl dX12_rains_72 ?_
            refine r_iconst (x := (0 : Int32)) dX12_rains_75 (by decide) ?_
            refine r_istore (lv' := [(7, .int (0 : Int32)), (6, .int (0 : Int32)), (5, .int (0 : Int32)), (0, .ref (ad 0)), (1, .int x1), (2, .int x2), (3, .int x3), (4, .int x4)]) dX12_rains_76 (by decide) rfl ?_
            refine r_sub (lv' := [(0, .ref (ad 0)), (1, .int x1), (2, .int x2), (3, .int x3), (4, .int x4), (5, .int (0 : Int32)), (6, .int (0 : Int32)), (7, .int (0 : Int32))]) [3, 4, 5, 6, 7, 2, 1, 0] rfl ?_
            exact cm_rains_l78  FU _ _ _ _ _ _ _ _ _ h
          · replace h := it_pos c10 h
            refine r_iconst (x := (-1 : Int32)) dX12_rains_54 (by decide) ?_
            have hq := Option.some.inj h
            subst hq
            exact r_iret rfl dX12_rains_55
end PM5
