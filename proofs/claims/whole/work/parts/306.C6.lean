section PC6
variable {l : Launch} {D : va_G} {Z : (Nat → Nat) × (Nat → Nat)} {K : Nat → ClassId}
theorem dX7_readSign_0 : decode cX7_readSign 0 = .ok (.aload_n 0, 1) := by decide +kernel
theorem dX7_readSign_1 : decode cX7_readSign 1 = .ok (.invokevirtual 16, 3) := by decide +kernel
theorem dX7_readSign_4 : decode cX7_readSign 4 = .ok (.pop, 1) := by decide +kernel
theorem dX7_readSign_5 : decode cX7_readSign 5 = .ok (.aload_n 0, 1) := by decide +kernel
theorem dX7_readSign_6 : decode cX7_readSign 6 = .ok (.getfield 22, 3) := by decide +kernel
theorem dX7_readSign_9 : decode cX7_readSign 9 = .ok (.istore_n 2, 1) := by decide +kernel
theorem dX7_readSign_10 : decode cX7_readSign 10 = .ok (.aload_n 0, 1) := by decide +kernel
theorem dX7_readSign_11 : decode cX7_readSign 11 = .ok (.ldc 90, 2) := by decide +kernel
theorem dX7_readSign_13 : decode cX7_readSign 13 = .ok (.invokevirtual 83, 3) := by decide +kernel
theorem dX7_readSign_16 : decode cX7_readSign 16 = .ok (.istore_n 3, 1) := by decide +kernel
theorem dX7_readSign_17 : decode cX7_readSign 17 = .ok (.iload_n 3, 1) := by decide +kernel
theorem dX7_readSign_18 : decode cX7_readSign 18 = .ok (.iconst (-1), 1) := by decide +kernel
theorem dX7_readSign_19 : decode cX7_readSign 19 = .ok (.if_icmp .ne 11, 3) := by decide +kernel
theorem dX7_readSign_22 : decode cX7_readSign 22 = .ok (.aload_n 0, 1) := by decide +kernel
theorem dX7_readSign_23 : decode cX7_readSign 23 = .ok (.iconst 0, 1) := by decide +kernel
theorem dX7_readSign_24 : decode cX7_readSign 24 = .ok (.iload_n 2, 1) := by decide +kernel
theorem dX7_readSign_25 : decode cX7_readSign 25 = .ok (.invokevirtual 32, 3) := by decide +kernel
theorem dX7_readSign_28 : decode cX7_readSign 28 = .ok (.iconst 0, 1) := by decide +kernel
theorem dX7_readSign_29 : decode cX7_readSign 29 = .ok (.ireturn, 1) := by decide +kernel
theorem dX7_readSign_30 : decode cX7_readSign 30 = .ok (.aload_n 0, 1) := by decide +kernel
theorem dX7_readSign_31 : decode cX7_readSign 31 = .ok (.aload_n 1, 1) := by decide +kernel
theorem dX7_readSign_32 : decode cX7_readSign 32 = .ok (.iload_n 2, 1) := by decide +kernel
theorem dX7_readSign_33 : decode cX7_readSign 33 = .ok (.invokestatic 92, 3) := by decide +kernel
theorem dX7_readSign_36 : decode cX7_readSign 36 = .ok (.iload_n 3, 1) := by decide +kernel
theorem dX7_readSign_37 : decode cX7_readSign 37 = .ok (.iconst 1, 1) := by decide +kernel
theorem dX7_readSign_38 : decode cX7_readSign 38 = .ok (.if_icmp .eq 32, 3) := by decide +kernel
theorem dX7_readSign_41 : decode cX7_readSign 41 = .ok (.aload_n 0, 1) := by decide +kernel
theorem dX7_readSign_42 : decode cX7_readSign 42 = .ok (.getfield 22, 3) := by decide +kernel
theorem dX7_readSign_45 : decode cX7_readSign 45 = .ok (.aload_n 0, 1) := by decide +kernel
theorem dX7_readSign_46 : decode cX7_readSign 46 = .ok (.getfield 95, 3) := by decide +kernel
theorem dX7_readSign_49 : decode cX7_readSign 49 = .ok (.if_icmp .ge 21, 3) := by decide +kernel
theorem dX7_readSign_52 : decode cX7_readSign 52 = .ok (.aload_n 0, 1) := by decide +kernel
theorem dX7_readSign_53 : decode cX7_readSign 53 = .ok (.getfield 96, 3) := by decide +kernel
theorem dX7_readSign_56 : decode cX7_readSign 56 = .ok (.aload_n 0, 1) := by decide +kernel
theorem dX7_readSign_57 : decode cX7_readSign 57 = .ok (.getfield 22, 3) := by decide +kernel
theorem dX7_readSign_60 : decode cX7_readSign 60 = .ok (.baload, 1) := by decide +kernel
theorem dX7_readSign_61 : decode cX7_readSign 61 = .ok (.bipush 61, 2) := by decide +kernel
theorem dX7_readSign_63 : decode cX7_readSign 63 = .ok (.if_icmp .ne 7, 3) := by decide +kernel
theorem dX7_readSign_66 : decode cX7_readSign 66 = .ok (.iconst 1, 1) := by decide +kernel
theorem dX7_readSign_67 : decode cX7_readSign 67 = .ok (.goto 4, 3) := by decide +kernel
theorem dX7_readSign_70 : decode cX7_readSign 70 = .ok (.iconst 0, 1) := by decide +kernel
theorem dX7_readSign_71 : decode cX7_readSign 71 = .ok (.istore 4, 2) := by decide +kernel
theorem dX7_readSign_73 : decode cX7_readSign 73 = .ok (.iload 4, 2) := by decide +kernel
theorem dX7_readSign_75 : decode cX7_readSign 75 = .ok (.ifCond .eq 13, 3) := by decide +kernel
theorem dX7_readSign_78 : decode cX7_readSign 78 = .ok (.aload_n 0, 1) := by decide +kernel
theorem dX7_readSign_79 : decode cX7_readSign 79 = .ok (.dup, 1) := by decide +kernel
theorem dX7_readSign_80 : decode cX7_readSign 80 = .ok (.getfield 22, 3) := by decide +kernel
theorem dX7_readSign_83 : decode cX7_readSign 83 = .ok (.iconst 1, 1) := by decide +kernel
theorem dX7_readSign_84 : decode cX7_readSign 84 = .ok (.iadd, 1) := by decide +kernel
theorem dX7_readSign_85 : decode cX7_readSign 85 = .ok (.putfield 22, 3) := by decide +kernel
theorem dX7_readSign_88 : decode cX7_readSign 88 = .ok (.iconst 1, 1) := by decide +kernel
theorem dX7_readSign_89 : decode cX7_readSign 89 = .ok (.iload_n 3, 1) := by decide +kernel
theorem dX7_readSign_90 : decode cX7_readSign 90 = .ok (.ishl, 1) := by decide +kernel
theorem dX7_readSign_91 : decode cX7_readSign 91 = .ok (.iload 4, 2) := by decide +kernel
theorem dX7_readSign_93 : decode cX7_readSign 93 = .ok (.ifCond .eq 7, 3) := by decide +kernel
theorem dX7_readSign_96 : decode cX7_readSign 96 = .ok (.iconst 2, 1) := by decide +kernel
theorem dX7_readSign_97 : decode cX7_readSign 97 = .ok (.goto 4, 3) := by decide +kernel
theorem dX7_readSign_100 : decode cX7_readSign 100 = .ok (.iconst 0, 1) := by decide +kernel
theorem dX7_readSign_101 : decode cX7_readSign 101 = .ok (.ior, 1) := by decide +kernel
theorem dX7_readSign_102 : decode cX7_readSign 102 = .ok (.ireturn, 1) := by decide +kernel
abbrev MRuleReader_readSign : rx_M := (RX7, yX7_readSign, cX7_readSign, 5, (some .int), 8)
theorem kRuleReader_readSign : rKs MRuleReader_readSign 2 := ⟨tb_in (i := 9) (j := 10) rfl rfl, tb_in (i := 8) (j := 27) rfl rfl, tb_in (i := 9) (j := 2) rfl rfl, ⟨by decide, by decide, by decide +kernel⟩, by decide⟩
section
variable {a0 : Nat → Nat} {a1 : Nat → Nat} {z0_text : Nat → Int32} {z0_size : Int32} {z0_at : Int32} {z0_fault : Int32} {z1_steps : Nat → Int32} {z1_size : Int32} {z1_sumFrom : Nat → Int32} {z1_testFrom : Nat → Int32} {z1_testTo : Nat → Int32} {z1_clauses : Int32} {z1_parts : Int32} {z1_readsTime : Int32} {z1_words : Nat → Int64} {z1_stack : Nat → Int64}
def mRuleReader_readSign_j71 (x3 : Int32) (z0_text : Nat → Int32) (z0_size : Int32) (z0_at : Int32) (z0_fault : Int32) (z1_parts : Int32) (s0 : Int32) : Option (Int32 × Int32 × Int32 × Int32) := (if s0 = 0 then (if s0 = 0 then some ((((1 : Int32) <<< (x3 &&& 31)) ||| (0 : Int32)), z0_at, z0_fault, z1_parts) else some ((((1 : Int32) <<< (x3 &&& 31)) ||| (2 : Int32)), z0_at, z0_fault, z1_parts)) else lt (z0_at + (1 : Int32)) (fun y8 => (if s0 = 0 then some ((((1 : Int32) <<< (x3 &&& 31)) ||| (0 : Int32)), y8, z0_fault, z1_parts) else some ((((1 : Int32) <<< (x3 &&& 31)) ||| (2 : Int32)), y8, z0_fault, z1_parts))))
set_option maxHeartbeats 4000000 in
set_option maxRecDepth 20000 in
theorem cRuleReader_readSign_j71 {q : Int32 × Int32 × Int32 × Int32} {x3 : Int32} {s0 : Int32}  (h : mRuleReader_readSign_j71 x3 z0_text z0_size z0_at z0_fault z1_parts s0 = some q) : rW l D Z (ty7 K) MRuleReader_readSign 71 [(0, .ref (a0 0)), (3, .int x3)] [.int s0] (List.flatten [bCursor K a0 z0_text z0_size z0_at z0_fault, bRule K a1 z1_steps z1_size z1_sumFrom z1_testFrom z1_testTo z1_clauses z1_parts z1_readsTime z1_words z1_stack]) (List.flatten [bCursor K a0 z0_text z0_size q.2.1 q.2.2.1, bRule K a1 z1_steps z1_size z1_sumFrom z1_testFrom z1_testTo z1_clauses q.2.2.2 z1_readsTime z1_words z1_stack]) (some (.int q.1)) := by
  unfold mRuleReader_readSign_j71 at h
  refine r_istore (lv' := [(4, .int s0), (0, .ref (a0 0)), (3, .int x3)]) dX7_readSign_71 (Nat.le_of_ble_eq_true rfl) rfl ?_
  refine r_iload 0 dX7_readSign_73 rfl ?_
  refine r_if_eq 88 dX7_readSign_75 (by decide) (fun c6 => ?_) (fun c6 => ?_)
  · replace h := it_pos c6 h
    refine r_iconst (x := (1 : Int32)) dX7_readSign_88 (by decide) ?_
    refine r_iload_n 2 dX7_readSign_89 rfl ?_
    refine r_ishl dX7_readSign_90 ?_
    refine r_iload 0 dX7_readSign_91 rfl ?_
    refine r_if_eq 100 dX7_readSign_93 (by decide) (fun c7 => ?_) (fun c7 => ?_)
    · replace h := it_pos c7 h
      refine r_iconst (x := (0 : Int32)) dX7_readSign_100 (by decide) ?_
      refine r_ior dX7_readSign_101 ?_
      have hq := Option.some.inj h
      subst hq
      exact r_iret rfl dX7_readSign_102
    · replace h := it_neg c7 h
      refine r_iconst (x := (2 : Int32)) dX7_readSign_96 (by decide) ?_
      refine r_goto 101 dX7_readSign_97 (by decide) ?_
      refine r_ior dX7_readSign_101 ?_
      have hq := Option.some.inj h
      subst hq
      exact r_iret rfl dX7_readSign_102
  · replace h := it_neg c6 h
    refine r_aload_n 1 dX7_readSign_78 rfl ?_
    refine r_dup dX7_readSign_79 rfl ?_
    refine gCursor_atN 0 rfl (List.mem_of_getElem? (i := 5) rfl) dX7_readSign_80 ?_
    refine r_iconst (x := (1 : Int32)) dX7_readSign_83 (by decide) ?_
    refine r_iadd dX7_readSign_84 ?_
    obtain ⟨y8, e8, h⟩ := lt_some h
    refine r_top e8 ?_
    refine pCursor_atN (bs1 := [bCursor K a0 z0_text z0_size y8 z0_fault, bRule K a1 z1_steps z1_size z1_sumFrom z1_testFrom z1_testTo z1_clauses z1_parts z1_readsTime z1_words z1_stack]) 0 rfl rfl (List.mem_of_getElem? (i := 5) rfl) dX7_readSign_85 ?_
    refine r_iconst (x := (1 : Int32)) dX7_readSign_88 (by decide) ?_
    refine r_iload_n 2 dX7_readSign_89 rfl ?_
    refine r_ishl dX7_readSign_90 ?_
    refine r_iload 0 dX7_readSign_91 rfl ?_
    refine r_if_eq 100 dX7_readSign_93 (by decide) (fun c9 => ?_) (fun c9 => ?_)
    · replace h := it_pos c9 h
      refine r_iconst (x := (0 : Int32)) dX7_readSign_100 (by decide) ?_
      refine r_ior dX7_readSign_101 ?_
      have hq := Option.some.inj h
      subst hq
      exact r_iret rfl dX7_readSign_102
    · replace h := it_neg c9 h
      refine r_iconst (x := (2 : Int32)) dX7_readSign_96 (by decide) ?_
      refine r_goto 101 dX7_readSign_97 (by decide) ?_
      refine r_ior dX7_readSign_101 ?_
      have hq := Option.some.inj h
      subst hq
      exact r_iret rfl dX7_readSign_102
def mRuleReader_readSign_j70 (x3 : Int32) (z0_text : Nat → Int32) (z0_size : Int32) (z0_at : Int32) (z0_fault : Int32) (z1_parts : Int32) : Option (Int32 × Int32 × Int32 × Int32) := mRuleReader_readSign_j71 x3 z0_text z0_size z0_at z0_fault z1_parts (0 : Int32)
set_option maxHeartbeats 4000000 in
set_option maxRecDepth 20000 in
theorem cRuleReader_readSign_j70 {q : Int32 × Int32 × Int32 × Int32} {x3 : Int32}  (h : mRuleReader_readSign_j70 x3 z0_text z0_size z0_at z0_fault z1_parts = some q) : rW l D Z (ty7 K) MRuleReader_readSign 70 [(0, .ref (a0 0)), (3, .int x3)] [] (List.flatten [bCursor K a0 z0_text z0_size z0_at z0_fault, bRule K a1 z1_steps z1_size z1_sumFrom z1_testFrom z1_testTo z1_clauses z1_parts z1_readsTime z1_words z1_stack]) (List.flatten [bCursor K a0 z0_text z0_size q.2.1 q.2.2.1, bRule K a1 z1_steps z1_size z1_sumFrom z1_testFrom z1_testTo z1_clauses q.2.2.2 z1_readsTime z1_words z1_stack]) (some (.int q.1)) := by
  unfold mRuleReader_readSign_j70 at h
  refine r_iconst (x := (0 : Int32)) dX7_readSign_70 (by decide) ?_
  exact cRuleReader_readSign_j71   h
def mRuleReader_readSign (z0_text : Nat → Int32) (z0_size : Int32) (z0_at : Int32) (z0_fault : Int32) (z1_parts : Int32) : Option (Int32 × Int32 × Int32 × Int32) := (mCursor_peek z0_text z0_size z0_at).bind (fun q1 => (mCursor_takeSign 9 z0_text z0_size q1.2).bind (fun q2 => (if q2.1 = (-1 : Int32) then (mCursor_fail (0 : Int32) q1.2 z0_fault).bind (fun q13 => some ((0 : Int32), q2.2, q13, z1_parts)) else (mRuleReader_countPart q1.2 z0_fault z1_parts).bind (fun q4 => (if q2.1 = (1 : Int32) then mRuleReader_readSign_j70 q2.1 z0_text z0_size q2.2 q4.1 q4.2 else (if z0_size ≤ q2.2 then mRuleReader_readSign_j70 q2.1 z0_text z0_size q2.2 q4.1 q4.2 else rq (inb q2.2 400) ((if (z0_text q2.2.toNatClampNeg) = (61 : Int32) then mRuleReader_readSign_j71 q2.1 z0_text z0_size q2.2 q4.1 q4.2 (1 : Int32) else mRuleReader_readSign_j70 q2.1 z0_text z0_size q2.2 q4.1 q4.2))))))))
set_option maxHeartbeats 4000000 in
set_option maxRecDepth 20000 in
theorem cRuleReader_readSign {q : Int32 × Int32 × Int32 × Int32}  (h : mRuleReader_readSign z0_text z0_size z0_at z0_fault z1_parts = some q) : rMet l D Z (ty7 K) MRuleReader_readSign [.ref (a0 0), .ref (a1 0)] (List.flatten [bCursor K a0 z0_text z0_size z0_at z0_fault, bRule K a1 z1_steps z1_size z1_sumFrom z1_testFrom z1_testTo z1_clauses z1_parts z1_readsTime z1_words z1_stack]) (List.flatten [bCursor K a0 z0_text z0_size q.2.1 q.2.2.1, bRule K a1 z1_steps z1_size z1_sumFrom z1_testFrom z1_testTo z1_clauses q.2.2.2 z1_readsTime z1_words z1_stack]) (some (.int q.1)) := by
  refine rMet.of (by decide) rfl (Nat.le_of_ble_eq_true rfl) ?_
  refine r_sub (lv' := [(0, .ref (a0 0)), (1, .ref (a1 0))]) [0, 1] rfl ?_
  unfold mRuleReader_readSign at h
  refine r_aload_n 0 dX7_readSign_0 rfl ?_
  obtain ⟨q1, h1, h⟩ := bd_some h
  refine b_callVN (isC := [0]) (ci := 0)  (st := []) (bs1 := [bCursor K a0 z0_text z0_size q1.2 z0_fault, bRule K a1 z1_steps z1_size z1_sumFrom z1_testFrom z1_testTo z1_clauses z1_parts z1_readsTime z1_words z1_stack]) (cCursor_peek (a0 := a0) (z0_text := z0_text) (z0_size := z0_size) (z0_at := z0_at) (z0_fault := z0_fault) h1) rfl rfl (Nat.le_of_ble_eq_true rfl) kCursor_peek (List.mem_of_getElem? (i := 33) rfl) (by decide) (by decide) rfl rfl rfl rfl rfl rfl rfl dX7_readSign_1 ?_
  refine r_pop dX7_readSign_4 rfl ?_
  refine r_aload_n 0 dX7_readSign_5 rfl ?_
  refine gCursor_atN 0 rfl (List.mem_of_getElem? (i := 5) rfl) dX7_readSign_6 ?_
  refine r_istore_n (lv' := [(2, .int q1.2), (0, .ref (a0 0)), (1, .ref (a1 0))]) dX7_readSign_9 (Nat.le_of_ble_eq_true rfl) rfl ?_
  refine r_aload_n 1 dX7_readSign_10 rfl ?_
  refine r_ldcS (tx := "<=>") (i := 9) (List.mem_of_getElem? (i := 9) rfl) dX7_readSign_11 ?_
  obtain ⟨q2, h2, h⟩ := bd_some h
  refine b_callVN (isC := [0]) (ci := 0)  (st := []) (bs1 := [bCursor K a0 z0_text z0_size q2.2 z0_fault, bRule K a1 z1_steps z1_size z1_sumFrom z1_testFrom z1_testTo z1_clauses z1_parts z1_readsTime z1_words z1_stack]) (cCursor_takeSign (a0 := a0) (z0_text := z0_text) (z0_size := z0_size) (z0_at := q1.2) (z0_fault := z0_fault) h2) rfl rfl (Nat.le_of_ble_eq_true rfl) kCursor_takeSign (List.mem_of_getElem? (i := 40) rfl) (by decide) (by decide) rfl rfl rfl rfl rfl rfl rfl dX7_readSign_13 ?_
  refine r_istore_n (lv' := [(3, .int q2.1), (2, .int q1.2), (0, .ref (a0 0)), (1, .ref (a1 0))]) dX7_readSign_16 (Nat.le_of_ble_eq_true rfl) rfl ?_
  refine r_iload_n 0 dX7_readSign_17 rfl ?_
  refine r_iconst (x := (-1 : Int32)) dX7_readSign_18 (by decide) ?_
  refine r_icmp_ne 30 dX7_readSign_19 (by decide) (fun c3 => ?_) (fun c3 => ?_)
  · replace h := it_neg c3 h
    refine r_aload_n 2 dX7_readSign_30 rfl ?_
    refine r_aload_n 3 dX7_readSign_31 rfl ?_
    refine r_iload_n 1 dX7_readSign_32 rfl ?_
    obtain ⟨q4, h4, h⟩ := bd_some h
    refine b_callS (isC := [0, 1]) (st := []) (bs1 := [bCursor K a0 z0_text z0_size q2.2 q4.1, bRule K a1 z1_steps z1_size z1_sumFrom z1_testFrom z1_testTo z1_clauses q4.2 z1_readsTime z1_words z1_stack]) (cRuleReader_countPart (a0 := a0) (a1 := a1) (z0_text := z0_text) (z0_size := z0_size) (z0_at := q2.2) (z0_fault := z0_fault) (z1_steps := z1_steps) (z1_size := z1_size) (z1_sumFrom := z1_sumFrom) (z1_testFrom := z1_testFrom) (z1_testTo := z1_testTo) (z1_clauses := z1_clauses) (z1_parts := z1_parts) (z1_readsTime := z1_readsTime) (z1_words := z1_words) (z1_stack := z1_stack) h4) rfl rfl (Nat.le_of_ble_eq_true rfl) kRuleReader_countPart (tb_in (i := 8) (j := 25) rfl rfl) (by decide) (by decide) rfl rfl rfl dX7_readSign_33 ?_
    refine r_iload_n 0 dX7_readSign_36 rfl ?_
    refine r_iconst (x := (1 : Int32)) dX7_readSign_37 (by decide) ?_
    refine r_icmp_eq 70 dX7_readSign_38 (by decide) (fun c5 => ?_) (fun c5 => ?_)
    · replace h := it_pos c5 h
      refine r_sub (lv' := [(0, .ref (a0 0)), (3, .int q2.1)]) [2, 0] rfl ?_
      exact cRuleReader_readSign_j70   h
    · replace h := it_neg c5 h
      refine r_aload_n 2 dX7_readSign_41 rfl ?_
      refine gCursor_atN 0 rfl (List.mem_of_getElem? (i := 5) rfl) dX7_readSign_42 ?_
      refine r_aload_n 2 dX7_readSign_45 rfl ?_
      refine gCursor_sizeN 0 rfl (List.mem_of_getElem? (i := 4) rfl) dX7_readSign_46 ?_
      refine r_icmp_ge 70 dX7_readSign_49 (by decide) (fun c10 => ?_) (fun c10 => ?_)
      · replace h := it_pos c10 h
        refine r_sub (lv' := [(0, .ref (a0 0)), (3, .int q2.1)]) [2, 0] rfl ?_
        exact cRuleReader_readSign_j70   h
      · replace h := it_neg c10 h
        refine r_aload_n 2 dX7_readSign_52 rfl ?_
        refine gCursor_textN 0 rfl (List.mem_of_getElem? (i := 3) rfl) dX7_readSign_53 ?_
        refine r_aload_n 2 dX7_readSign_56 rfl ?_
        refine gCursor_atN 0 rfl (List.mem_of_getElem? (i := 5) rfl) dX7_readSign_57 ?_
        obtain ⟨h11, h⟩ := rq_some h
        refine lCursor_text 0 rfl (inb_in h11) dX7_readSign_60 ?_
        refine r_bipush (x := (61 : Int32)) dX7_readSign_61 (by decide) ?_
        refine r_icmp_ne 70 dX7_readSign_63 (by decide) (fun c12 => ?_) (fun c12 => ?_)
        · replace h := it_neg c12 h
          refine r_sub (lv' := [(0, .ref (a0 0)), (3, .int q2.1)]) [2, 0] rfl ?_
          exact cRuleReader_readSign_j70   h
        · replace h := it_pos c12 h
          refine r_iconst (x := (1 : Int32)) dX7_readSign_66 (by decide) ?_
          refine r_goto 71 dX7_readSign_67 (by decide) ?_
          refine r_sub (lv' := [(0, .ref (a0 0)), (3, .int q2.1)]) [2, 0] rfl ?_
          exact cRuleReader_readSign_j71   h
  · replace h := it_pos c3 h
    refine r_aload_n 2 dX7_readSign_22 rfl ?_
    refine r_iconst (x := (0 : Int32)) dX7_readSign_23 (by decide) ?_
    refine r_iload_n 1 dX7_readSign_24 rfl ?_
    obtain ⟨q13, h13, h⟩ := bd_some h
    refine b_callVN (isC := [0]) (ci := 0)  (st := []) (bs1 := [bCursor K a0 z0_text z0_size q2.2 q13, bRule K a1 z1_steps z1_size z1_sumFrom z1_testFrom z1_testTo z1_clauses z1_parts z1_readsTime z1_words z1_stack]) (cCursor_fail (a0 := a0) (z0_text := z0_text) (z0_size := z0_size) (z0_at := q2.2) (z0_fault := z0_fault) h13) rfl rfl (Nat.le_of_ble_eq_true rfl) kCursor_fail (List.mem_of_getElem? (i := 35) rfl) (by decide) (by decide) rfl rfl rfl rfl rfl rfl rfl dX7_readSign_25 ?_
    refine r_iconst (x := (0 : Int32)) dX7_readSign_28 (by decide) ?_
    have hq := Option.some.inj h
    subst hq
    exact r_iret rfl dX7_readSign_29
end
theorem dX6_clear_0 : decode cX6_clear 0 = .ok (.aload_n 0, 1) := by decide +kernel
theorem dX6_clear_1 : decode cX6_clear 1 = .ok (.iconst 0, 1) := by decide +kernel
theorem dX6_clear_2 : decode cX6_clear 2 = .ok (.putfield 15, 3) := by decide +kernel
theorem dX6_clear_5 : decode cX6_clear 5 = .ok (.aload_n 0, 1) := by decide +kernel
theorem dX6_clear_6 : decode cX6_clear 6 = .ok (.iconst 0, 1) := by decide +kernel
theorem dX6_clear_7 : decode cX6_clear 7 = .ok (.putfield 30, 3) := by decide +kernel
theorem dX6_clear_10 : decode cX6_clear 10 = .ok (.aload_n 0, 1) := by decide +kernel
theorem dX6_clear_11 : decode cX6_clear 11 = .ok (.iconst 0, 1) := by decide +kernel
theorem dX6_clear_12 : decode cX6_clear 12 = .ok (.putfield 33, 3) := by decide +kernel
theorem dX6_clear_15 : decode cX6_clear 15 = .ok (.aload_n 0, 1) := by decide +kernel
theorem dX6_clear_16 : decode cX6_clear 16 = .ok (.iconst 0, 1) := by decide +kernel
theorem dX6_clear_17 : decode cX6_clear 17 = .ok (.putfield 36, 3) := by decide +kernel
theorem dX6_clear_20 : decode cX6_clear 20 = .ok (.return_, 1) := by decide +kernel
abbrev MRule_clear : rx_M := (RX6, yX6_clear, cX6_clear, 1, none, 1)
theorem kRule_clear : rKv MRule_clear 0 := ⟨tb_in (i := 9) (j := 13) rfl rfl, tb_in (i := 9) (j := 14) rfl rfl, tb_in (i := 5) (j := 1) rfl rfl, tb_in (i := 8) (j := 21) rfl rfl, ⟨by decide, by decide, by decide +kernel⟩, by decide⟩
section
variable {a0 : Nat → Nat} {z0_steps : Nat → Int32} {z0_size : Int32} {z0_sumFrom : Nat → Int32} {z0_testFrom : Nat → Int32} {z0_testTo : Nat → Int32} {z0_clauses : Int32} {z0_parts : Int32} {z0_readsTime : Int32} {z0_words : Nat → Int64} {z0_stack : Nat → Int64}
def mRule_clear (z0_size : Int32) (z0_clauses : Int32) (z0_parts : Int32) (z0_readsTime : Int32) : Option (Int32 × Int32 × Int32 × Int32) := some ((0 : Int32), (0 : Int32), (0 : Int32), (0 : Int32))
set_option maxHeartbeats 4000000 in
set_option maxRecDepth 20000 in
theorem cRule_clear {q : Int32 × Int32 × Int32 × Int32}  (h : mRule_clear z0_size z0_clauses z0_parts z0_readsTime = some q) : rMet l D Z (ty7 K) MRule_clear [.ref (a0 0)] (List.flatten [bRule K a0 z0_steps z0_size z0_sumFrom z0_testFrom z0_testTo z0_clauses z0_parts z0_readsTime z0_words z0_stack]) (List.flatten [bRule K a0 z0_steps q.1 z0_sumFrom z0_testFrom z0_testTo q.2.1 q.2.2.1 q.2.2.2 z0_words z0_stack]) none := by
  refine rMet.of (by decide) rfl (Nat.le_of_ble_eq_true rfl) ?_
  refine r_sub (lv' := [(0, .ref (a0 0))]) [0] rfl ?_
  unfold mRule_clear at h
  refine r_aload_n 0 dX6_clear_0 rfl ?_
  refine r_iconst (x := (0 : Int32)) dX6_clear_1 (by decide) ?_
  refine pRule_size (bs1 := [bRule K a0 z0_steps (0 : Int32) z0_sumFrom z0_testFrom z0_testTo z0_clauses z0_parts z0_readsTime z0_words z0_stack]) 0 rfl rfl (tb_in (i := 4) (j := 22) rfl rfl) dX6_clear_2 ?_
  refine r_aload_n 0 dX6_clear_5 rfl ?_
  refine r_iconst (x := (0 : Int32)) dX6_clear_6 (by decide) ?_
  refine pRule_clauses (bs1 := [bRule K a0 z0_steps (0 : Int32) z0_sumFrom z0_testFrom z0_testTo (0 : Int32) z0_parts z0_readsTime z0_words z0_stack]) 0 rfl rfl (tb_in (i := 4) (j := 26) rfl rfl) dX6_clear_7 ?_
  refine r_aload_n 0 dX6_clear_10 rfl ?_
  refine r_iconst (x := (0 : Int32)) dX6_clear_11 (by decide) ?_
  refine pRule_parts (bs1 := [bRule K a0 z0_steps (0 : Int32) z0_sumFrom z0_testFrom z0_testTo (0 : Int32) (0 : Int32) z0_readsTime z0_words z0_stack]) 0 rfl rfl (tb_in (i := 8) (j := 18) rfl rfl) dX6_clear_12 ?_
  refine r_aload_n 0 dX6_clear_15 rfl ?_
  refine r_iconst (x := (0 : Int32)) dX6_clear_16 (by decide) ?_
  refine pRule_readsTime (bs1 := [bRule K a0 z0_steps (0 : Int32) z0_sumFrom z0_testFrom z0_testTo (0 : Int32) (0 : Int32) (0 : Int32) z0_words z0_stack]) 0 rfl rfl rfl rfl (tb_in (i := 8) (j := 19) rfl rfl) dX6_clear_17 ?_
  have hq := Option.some.inj h
  subst hq
  exact r_vret rfl dX6_clear_20
end
theorem dX7_readTest_0 : decode cX7_readTest 0 = .ok (.iconst 1, 1) := by decide +kernel
theorem dX7_readTest_1 : decode cX7_readTest 1 = .ok (.istore_n 3, 1) := by decide +kernel
theorem dX7_readTest_2 : decode cX7_readTest 2 = .ok (.iconst 0, 1) := by decide +kernel
theorem dX7_readTest_3 : decode cX7_readTest 3 = .ok (.istore 4, 2) := by decide +kernel
theorem dX7_readTest_5 : decode cX7_readTest 5 = .ok (.iconst 1, 1) := by decide +kernel
theorem dX7_readTest_6 : decode cX7_readTest 6 = .ok (.istore 5, 2) := by decide +kernel
theorem dX7_readTest_8 : decode cX7_readTest 8 = .ok (.iconst 0, 1) := by decide +kernel
theorem dX7_readTest_9 : decode cX7_readTest 9 = .ok (.istore 6, 2) := by decide +kernel
theorem dX7_readTest_11 : decode cX7_readTest 11 = .ok (.iload 6, 2) := by decide +kernel
theorem dX7_readTest_13 : decode cX7_readTest 13 = .ok (.sipush 400, 3) := by decide +kernel
theorem dX7_readTest_16 : decode cX7_readTest 16 = .ok (.if_icmp .ge 99, 3) := by decide +kernel
theorem dX7_readTest_19 : decode cX7_readTest 19 = .ok (.iload 5, 2) := by decide +kernel
theorem dX7_readTest_21 : decode cX7_readTest 21 = .ok (.ifCond .eq 94, 3) := by decide +kernel
theorem dX7_readTest_24 : decode cX7_readTest 24 = .ok (.aload_n 0, 1) := by decide +kernel
theorem dX7_readTest_25 : decode cX7_readTest 25 = .ok (.aload_n 1, 1) := by decide +kernel
theorem dX7_readTest_26 : decode cX7_readTest 26 = .ok (.iload_n 2, 1) := by decide +kernel
theorem dX7_readTest_27 : decode cX7_readTest 27 = .ok (.invokestatic 69, 3) := by decide +kernel
theorem dX7_readTest_30 : decode cX7_readTest 30 = .ok (.iload 4, 2) := by decide +kernel
theorem dX7_readTest_32 : decode cX7_readTest 32 = .ok (.ifCond .eq 9, 3) := by decide +kernel
theorem dX7_readTest_35 : decode cX7_readTest 35 = .ok (.aload_n 1, 1) := by decide +kernel
theorem dX7_readTest_36 : decode cX7_readTest 36 = .ok (.iconst 3, 1) := by decide +kernel
theorem dX7_readTest_37 : decode cX7_readTest 37 = .ok (.iconst 0, 1) := by decide +kernel
theorem dX7_readTest_38 : decode cX7_readTest 38 = .ok (.invokevirtual 72, 3) := by decide +kernel
theorem dX7_readTest_41 : decode cX7_readTest 41 = .ok (.aload_n 0, 1) := by decide +kernel
theorem dX7_readTest_42 : decode cX7_readTest 42 = .ok (.invokevirtual 50, 3) := by decide +kernel
theorem dX7_readTest_45 : decode cX7_readTest 45 = .ok (.ifCond .eq 17, 3) := by decide +kernel
theorem dX7_readTest_48 : decode cX7_readTest 48 = .ok (.aload_n 0, 1) := by decide +kernel
theorem dX7_readTest_49 : decode cX7_readTest 49 = .ok (.ldc 75, 2) := by decide +kernel
theorem dX7_readTest_51 : decode cX7_readTest 51 = .ok (.invokevirtual 28, 3) := by decide +kernel
theorem dX7_readTest_54 : decode cX7_readTest 54 = .ok (.iconst (-1), 1) := by decide +kernel
theorem dX7_readTest_55 : decode cX7_readTest 55 = .ok (.if_icmp .eq 7, 3) := by decide +kernel
theorem dX7_readTest_58 : decode cX7_readTest 58 = .ok (.iconst 1, 1) := by decide +kernel
theorem dX7_readTest_59 : decode cX7_readTest 59 = .ok (.goto 4, 3) := by decide +kernel
theorem dX7_readTest_62 : decode cX7_readTest 62 = .ok (.iconst 0, 1) := by decide +kernel
theorem dX7_readTest_63 : decode cX7_readTest 63 = .ok (.istore 4, 2) := by decide +kernel
theorem dX7_readTest_65 : decode cX7_readTest 65 = .ok (.iload 4, 2) := by decide +kernel
theorem dX7_readTest_67 : decode cX7_readTest 67 = .ok (.ifCond .eq 6, 3) := by decide +kernel
theorem dX7_readTest_70 : decode cX7_readTest 70 = .ok (.goto 39, 3) := by decide +kernel
theorem dX7_readTest_73 : decode cX7_readTest 73 = .ok (.iload_n 3, 1) := by decide +kernel
theorem dX7_readTest_74 : decode cX7_readTest 74 = .ok (.ifCond .ne 9, 3) := by decide +kernel
theorem dX7_readTest_77 : decode cX7_readTest 77 = .ok (.aload_n 1, 1) := by decide +kernel
theorem dX7_readTest_78 : decode cX7_readTest 78 = .ok (.iconst 4, 1) := by decide +kernel
theorem dX7_readTest_79 : decode cX7_readTest 79 = .ok (.iconst 0, 1) := by decide +kernel
theorem dX7_readTest_80 : decode cX7_readTest 80 = .ok (.invokevirtual 72, 3) := by decide +kernel
theorem dX7_readTest_83 : decode cX7_readTest 83 = .ok (.iconst 0, 1) := by decide +kernel
theorem dX7_readTest_84 : decode cX7_readTest 84 = .ok (.istore_n 3, 1) := by decide +kernel
theorem dX7_readTest_85 : decode cX7_readTest 85 = .ok (.aload_n 0, 1) := by decide +kernel
theorem dX7_readTest_86 : decode cX7_readTest 86 = .ok (.invokevirtual 50, 3) := by decide +kernel
theorem dX7_readTest_89 : decode cX7_readTest 89 = .ok (.ifCond .eq 17, 3) := by decide +kernel
theorem dX7_readTest_92 : decode cX7_readTest 92 = .ok (.aload_n 0, 1) := by decide +kernel
theorem dX7_readTest_93 : decode cX7_readTest 93 = .ok (.ldc 77, 2) := by decide +kernel
theorem dX7_readTest_95 : decode cX7_readTest 95 = .ok (.invokevirtual 28, 3) := by decide +kernel
theorem dX7_readTest_98 : decode cX7_readTest 98 = .ok (.iconst (-1), 1) := by decide +kernel
theorem dX7_readTest_99 : decode cX7_readTest 99 = .ok (.if_icmp .eq 7, 3) := by decide +kernel
theorem dX7_readTest_102 : decode cX7_readTest 102 = .ok (.iconst 1, 1) := by decide +kernel
theorem dX7_readTest_103 : decode cX7_readTest 103 = .ok (.goto 4, 3) := by decide +kernel
theorem dX7_readTest_106 : decode cX7_readTest 106 = .ok (.iconst 0, 1) := by decide +kernel
theorem dX7_readTest_107 : decode cX7_readTest 107 = .ok (.istore 5, 2) := by decide +kernel
theorem dX7_readTest_109 : decode cX7_readTest 109 = .ok (.iinc 6 1, 3) := by decide +kernel
theorem dX7_readTest_112 : decode cX7_readTest 112 = .ok (.goto (-101), 3) := by decide +kernel
theorem dX7_readTest_115 : decode cX7_readTest 115 = .ok (.return_, 1) := by decide +kernel
theorem dX7_readFact_0 : decode cX7_readFact 0 = .ok (.aload_n 0, 1) := by decide +kernel
theorem dX7_readFact_1 : decode cX7_readFact 1 = .ok (.invokevirtual 16, 3) := by decide +kernel
theorem dX7_readFact_4 : decode cX7_readFact 4 = .ok (.bipush 91, 2) := by decide +kernel
theorem dX7_readFact_6 : decode cX7_readFact 6 = .ok (.if_icmp .ne 7, 3) := by decide +kernel
theorem dX7_readFact_9 : decode cX7_readFact 9 = .ok (.iconst 1, 1) := by decide +kernel
theorem dX7_readFact_10 : decode cX7_readFact 10 = .ok (.goto 4, 3) := by decide +kernel
theorem dX7_readFact_13 : decode cX7_readFact 13 = .ok (.iconst 0, 1) := by decide +kernel
theorem dX7_readFact_14 : decode cX7_readFact 14 = .ok (.istore_n 3, 1) := by decide +kernel
theorem dX7_readFact_15 : decode cX7_readFact 15 = .ok (.aload_n 0, 1) := by decide +kernel
theorem dX7_readFact_16 : decode cX7_readFact 16 = .ok (.getfield 22, 3) := by decide +kernel
theorem dX7_readFact_19 : decode cX7_readFact 19 = .ok (.istore 4, 2) := by decide +kernel
theorem dX7_readFact_21 : decode cX7_readFact 21 = .ok (.aload_n 0, 1) := by decide +kernel
theorem dX7_readFact_22 : decode cX7_readFact 22 = .ok (.ldc 79, 2) := by decide +kernel
theorem dX7_readFact_24 : decode cX7_readFact 24 = .ok (.invokevirtual 28, 3) := by decide +kernel
theorem dX7_readFact_27 : decode cX7_readFact 27 = .ok (.iconst (-1), 1) := by decide +kernel
theorem dX7_readFact_28 : decode cX7_readFact 28 = .ok (.if_icmp .eq 7, 3) := by decide +kernel
theorem dX7_readFact_31 : decode cX7_readFact 31 = .ok (.iconst 1, 1) := by decide +kernel
theorem dX7_readFact_32 : decode cX7_readFact 32 = .ok (.goto 4, 3) := by decide +kernel
theorem dX7_readFact_35 : decode cX7_readFact 35 = .ok (.iconst 0, 1) := by decide +kernel
theorem dX7_readFact_36 : decode cX7_readFact 36 = .ok (.istore 5, 2) := by decide +kernel
theorem dX7_readFact_38 : decode cX7_readFact 38 = .ok (.iload_n 3, 1) := by decide +kernel
theorem dX7_readFact_39 : decode cX7_readFact 39 = .ok (.ifCond .ne 8, 3) := by decide +kernel
theorem dX7_readFact_42 : decode cX7_readFact 42 = .ok (.iload 5, 2) := by decide +kernel
theorem dX7_readFact_44 : decode cX7_readFact 44 = .ok (.ifCond .eq 19, 3) := by decide +kernel
theorem dX7_readFact_47 : decode cX7_readFact 47 = .ok (.iload_n 2, 1) := by decide +kernel
theorem dX7_readFact_48 : decode cX7_readFact 48 = .ok (.bipush 10, 2) := by decide +kernel
theorem dX7_readFact_50 : decode cX7_readFact 50 = .ok (.if_icmp .lt 13, 3) := by decide +kernel
theorem dX7_readFact_53 : decode cX7_readFact 53 = .ok (.aload_n 0, 1) := by decide +kernel
theorem dX7_readFact_54 : decode cX7_readFact 54 = .ok (.iconst 2, 1) := by decide +kernel
theorem dX7_readFact_55 : decode cX7_readFact 55 = .ok (.iload 4, 2) := by decide +kernel
theorem dX7_readFact_57 : decode cX7_readFact 57 = .ok (.invokevirtual 32, 3) := by decide +kernel
theorem dX7_readFact_60 : decode cX7_readFact 60 = .ok (.goto 108, 3) := by decide +kernel
theorem dX7_readFact_63 : decode cX7_readFact 63 = .ok (.iload 5, 2) := by decide +kernel
theorem dX7_readFact_65 : decode cX7_readFact 65 = .ok (.ifCond .eq 20, 3) := by decide +kernel
theorem dX7_readFact_68 : decode cX7_readFact 68 = .ok (.aload_n 0, 1) := by decide +kernel
theorem dX7_readFact_69 : decode cX7_readFact 69 = .ok (.aload_n 1, 1) := by decide +kernel
theorem dX7_readFact_70 : decode cX7_readFact 70 = .ok (.iload_n 2, 1) := by decide +kernel
theorem dX7_readFact_71 : decode cX7_readFact 71 = .ok (.iconst 1, 1) := by decide +kernel
theorem dX7_readFact_72 : decode cX7_readFact 72 = .ok (.iadd, 1) := by decide +kernel
theorem dX7_readFact_73 : decode cX7_readFact 73 = .ok (.invokestatic 69, 3) := by decide +kernel
theorem dX7_readFact_76 : decode cX7_readFact 76 = .ok (.aload_n 1, 1) := by decide +kernel
theorem dX7_readFact_77 : decode cX7_readFact 77 = .ok (.iconst 2, 1) := by decide +kernel
theorem dX7_readFact_78 : decode cX7_readFact 78 = .ok (.iconst 0, 1) := by decide +kernel
theorem dX7_readFact_79 : decode cX7_readFact 79 = .ok (.invokevirtual 72, 3) := by decide +kernel
theorem dX7_readFact_82 : decode cX7_readFact 82 = .ok (.goto 86, 3) := by decide +kernel
theorem dX7_readFact_85 : decode cX7_readFact 85 = .ok (.iload_n 3, 1) := by decide +kernel
theorem dX7_readFact_86 : decode cX7_readFact 86 = .ok (.ifCond .eq 50, 3) := by decide +kernel
theorem dX7_readFact_89 : decode cX7_readFact 89 = .ok (.aload_n 0, 1) := by decide +kernel
theorem dX7_readFact_90 : decode cX7_readFact 90 = .ok (.dup, 1) := by decide +kernel
theorem dX7_readFact_91 : decode cX7_readFact 91 = .ok (.getfield 22, 3) := by decide +kernel
theorem dX7_readFact_94 : decode cX7_readFact 94 = .ok (.iconst 1, 1) := by decide +kernel
theorem dX7_readFact_95 : decode cX7_readFact 95 = .ok (.iadd, 1) := by decide +kernel
theorem dX7_readFact_96 : decode cX7_readFact 96 = .ok (.putfield 22, 3) := by decide +kernel
theorem dX7_readFact_99 : decode cX7_readFact 99 = .ok (.aload_n 0, 1) := by decide +kernel
theorem dX7_readFact_100 : decode cX7_readFact 100 = .ok (.aload_n 1, 1) := by decide +kernel
theorem dX7_readFact_101 : decode cX7_readFact 101 = .ok (.iload_n 2, 1) := by decide +kernel
theorem dX7_readFact_102 : decode cX7_readFact 102 = .ok (.iconst 1, 1) := by decide +kernel
theorem dX7_readFact_103 : decode cX7_readFact 103 = .ok (.iadd, 1) := by decide +kernel
theorem dX7_readFact_104 : decode cX7_readFact 104 = .ok (.invokestatic 56, 3) := by decide +kernel
theorem dX7_readFact_107 : decode cX7_readFact 107 = .ok (.aload_n 0, 1) := by decide +kernel
theorem dX7_readFact_108 : decode cX7_readFact 108 = .ok (.invokevirtual 50, 3) := by decide +kernel
theorem dX7_readFact_111 : decode cX7_readFact 111 = .ok (.ifCond .eq 57, 3) := by decide +kernel
theorem dX7_readFact_114 : decode cX7_readFact 114 = .ok (.aload_n 0, 1) := by decide +kernel
theorem dX7_readFact_115 : decode cX7_readFact 115 = .ok (.ldc 81, 2) := by decide +kernel
theorem dX7_readFact_117 : decode cX7_readFact 117 = .ok (.invokevirtual 83, 3) := by decide +kernel
theorem dX7_readFact_120 : decode cX7_readFact 120 = .ok (.iconst (-1), 1) := by decide +kernel
theorem dX7_readFact_121 : decode cX7_readFact 121 = .ok (.if_icmp .ne 47, 3) := by decide +kernel
theorem dX7_readFact_124 : decode cX7_readFact 124 = .ok (.aload_n 0, 1) := by decide +kernel
theorem dX7_readFact_125 : decode cX7_readFact 125 = .ok (.iconst 0, 1) := by decide +kernel
theorem dX7_readFact_126 : decode cX7_readFact 126 = .ok (.aload_n 0, 1) := by decide +kernel
theorem dX7_readFact_127 : decode cX7_readFact 127 = .ok (.getfield 22, 3) := by decide +kernel
theorem dX7_readFact_130 : decode cX7_readFact 130 = .ok (.invokevirtual 32, 3) := by decide +kernel
theorem dX7_readFact_133 : decode cX7_readFact 133 = .ok (.goto 35, 3) := by decide +kernel
theorem dX7_readFact_136 : decode cX7_readFact 136 = .ok (.aload_n 0, 1) := by decide +kernel
theorem dX7_readFact_137 : decode cX7_readFact 137 = .ok (.aload_n 1, 1) := by decide +kernel
theorem dX7_readFact_138 : decode cX7_readFact 138 = .ok (.invokestatic 43, 3) := by decide +kernel
theorem dX7_readFact_141 : decode cX7_readFact 141 = .ok (.aload_n 0, 1) := by decide +kernel
theorem dX7_readFact_142 : decode cX7_readFact 142 = .ok (.aload_n 1, 1) := by decide +kernel
theorem dX7_readFact_143 : decode cX7_readFact 143 = .ok (.invokestatic 86, 3) := by decide +kernel
theorem dX7_readFact_146 : decode cX7_readFact 146 = .ok (.istore 6, 2) := by decide +kernel
theorem dX7_readFact_148 : decode cX7_readFact 148 = .ok (.aload_n 0, 1) := by decide +kernel
theorem dX7_readFact_149 : decode cX7_readFact 149 = .ok (.invokevirtual 50, 3) := by decide +kernel
theorem dX7_readFact_152 : decode cX7_readFact 152 = .ok (.ifCond .eq 16, 3) := by decide +kernel
theorem dX7_readFact_155 : decode cX7_readFact 155 = .ok (.aload_n 0, 1) := by decide +kernel
theorem dX7_readFact_156 : decode cX7_readFact 156 = .ok (.aload_n 1, 1) := by decide +kernel
theorem dX7_readFact_157 : decode cX7_readFact 157 = .ok (.invokestatic 43, 3) := by decide +kernel
theorem dX7_readFact_160 : decode cX7_readFact 160 = .ok (.aload_n 1, 1) := by decide +kernel
theorem dX7_readFact_161 : decode cX7_readFact 161 = .ok (.bipush 10, 2) := by decide +kernel
theorem dX7_readFact_163 : decode cX7_readFact 163 = .ok (.iload 6, 2) := by decide +kernel
theorem dX7_readFact_165 : decode cX7_readFact 165 = .ok (.invokevirtual 72, 3) := by decide +kernel
theorem dX7_readFact_168 : decode cX7_readFact 168 = .ok (.return_, 1) := by decide +kernel
abbrev MRuleReader_readTest (d : Nat) : rx_M := (RX7, yX7_readTest, cX7_readTest, 7, none, 10 + d)
theorem kRuleReader_readTest (d : Nat) : rKs (MRuleReader_readTest d) 3 := ⟨tb_in (i := 9) (j := 6) rfl rfl, tb_in (i := 8) (j := 27) rfl rfl, tb_in (i := 9) (j := 11) rfl rfl, ⟨by show yX7_readTest.cls ≠ _; decide, by show yX7_readTest.cls ≠ _; decide, by show (parseMethodDescriptor yX7_readTest.desc).map _ = _; decide +kernel⟩, by show 7 ≤ 41; decide⟩
abbrev MRuleReader_readFact (d : Nat) : rx_M := (RX7, yX7_readFact, cX7_readFact, 7, none, 10 + d)
theorem kRuleReader_readFact (d : Nat) : rKs (MRuleReader_readFact d) 3 := ⟨tb_in (i := 9) (j := 4) rfl rfl, tb_in (i := 8) (j := 27) rfl rfl, tb_in (i := 9) (j := 12) rfl rfl, ⟨by show yX7_readFact.cls ≠ _; decide, by show yX7_readFact.cls ≠ _; decide, by show (parseMethodDescriptor yX7_readFact.desc).map _ = _; decide +kernel⟩, by show 7 ≤ 41; decide⟩
section
variable {d : Nat} {a0 : Nat → Nat} {a1 : Nat → Nat} {z0_text : Nat → Int32} {z0_size : Int32} {z0_at : Int32} {z0_fault : Int32} {z1_steps : Nat → Int32} {z1_size : Int32} {z1_sumFrom : Nat → Int32} {z1_testFrom : Nat → Int32} {z1_testTo : Nat → Int32} {z1_clauses : Int32} {z1_parts : Int32} {z1_readsTime : Int32} {z1_words : Nat → Int64} {z1_stack : Nat → Int64}
def mRuleReader_readTestB_j83 (rT : Int32 → (Nat → Int32) → Int32 → Int32 → Int32 → (Nat → Int32) → Int32 → Int32 → Int32 → Option (Int32 × Int32 × (Nat → Int32) × Int32 × Int32 × Int32)) (rF : Int32 → (Nat → Int32) → Int32 → Int32 → Int32 → (Nat → Int32) → Int32 → Int32 → Int32 → Option (Int32 × Int32 × (Nat → Int32) × Int32 × Int32 × Int32)) (k11 : Int32 → Int32 → Int32 → Int32 → Int32 → Int32 → (Nat → Int32) → Int32 → Int32 → Int32 → Option (Int32 × Int32 × (Nat → Int32) × Int32 × Int32 × Int32)) (x2 : Int32) (x4 : Int32) (x6 : Int32) (z0_text : Nat → Int32) (z0_size : Int32) (z0_at : Int32) (z0_fault : Int32) (z1_steps : Nat → Int32) (z1_size : Int32) (z1_parts : Int32) (z1_readsTime : Int32) : Option (Int32 × Int32 × (Nat → Int32) × Int32 × Int32 × Int32) := (mCursor_isFine z0_fault).bind (fun q9 => (if q9 = 0 then k11 (0 : Int32) x4 (0 : Int32) (x6 + (1 : Int32)) z0_at z0_fault z1_steps z1_size z1_parts z1_readsTime else (mCursor_takeWord 11 z0_text z0_size z0_at).bind (fun q11 => (if q11.1 = (-1 : Int32) then k11 (0 : Int32) x4 (0 : Int32) (x6 + (1 : Int32)) q11.2 z0_fault z1_steps z1_size z1_parts z1_readsTime else k11 (0 : Int32) x4 (1 : Int32) (x6 + (1 : Int32)) q11.2 z0_fault z1_steps z1_size z1_parts z1_readsTime))))
set_option maxHeartbeats 4000000 in
set_option maxRecDepth 20000 in
theorem cRuleReader_readTestB_j83 {q : Int32 × Int32 × (Nat → Int32) × Int32 × Int32 × Int32} {x2 : Int32} {x4 : Int32} {x6 : Int32} {rT : Int32 → (Nat → Int32) → Int32 → Int32 → Int32 → (Nat → Int32) → Int32 → Int32 → Int32 → Option (Int32 × Int32 × (Nat → Int32) × Int32 × Int32 × Int32)} (hrT : ∀ (x2 : Int32) (z0_text : Nat → Int32) (z0_size : Int32) (z0_at : Int32) (z0_fault : Int32) (z1_steps : Nat → Int32) (z1_size : Int32) (z1_parts : Int32) (z1_readsTime : Int32) (q' : Int32 × Int32 × (Nat → Int32) × Int32 × Int32 × Int32), rT x2 z0_text z0_size z0_at z0_fault z1_steps z1_size z1_parts z1_readsTime = some q' → rMet l D Z (ty7 K) (MRuleReader_readTest d) [.ref (a0 0), .ref (a1 0), .int x2] (List.flatten [bCursor K a0 z0_text z0_size z0_at z0_fault, bRule K a1 z1_steps z1_size z1_sumFrom z1_testFrom z1_testTo z1_clauses z1_parts z1_readsTime z1_words z1_stack]) (List.flatten [bCursor K a0 z0_text z0_size q'.1 q'.2.1, bRule K a1 q'.2.2.1 q'.2.2.2.1 z1_sumFrom z1_testFrom z1_testTo z1_clauses q'.2.2.2.2.1 q'.2.2.2.2.2 z1_words z1_stack]) none) {rF : Int32 → (Nat → Int32) → Int32 → Int32 → Int32 → (Nat → Int32) → Int32 → Int32 → Int32 → Option (Int32 × Int32 × (Nat → Int32) × Int32 × Int32 × Int32)} (hrF : ∀ (x2 : Int32) (z0_text : Nat → Int32) (z0_size : Int32) (z0_at : Int32) (z0_fault : Int32) (z1_steps : Nat → Int32) (z1_size : Int32) (z1_parts : Int32) (z1_readsTime : Int32) (q' : Int32 × Int32 × (Nat → Int32) × Int32 × Int32 × Int32), rF x2 z0_text z0_size z0_at z0_fault z1_steps z1_size z1_parts z1_readsTime = some q' → rMet l D Z (ty7 K) (MRuleReader_readFact d) [.ref (a0 0), .ref (a1 0), .int x2] (List.flatten [bCursor K a0 z0_text z0_size z0_at z0_fault, bRule K a1 z1_steps z1_size z1_sumFrom z1_testFrom z1_testTo z1_clauses z1_parts z1_readsTime z1_words z1_stack]) (List.flatten [bCursor K a0 z0_text z0_size q'.1 q'.2.1, bRule K a1 q'.2.2.1 q'.2.2.2.1 z1_sumFrom z1_testFrom z1_testTo z1_clauses q'.2.2.2.2.1 q'.2.2.2.2.2 z1_words z1_stack]) none) {k11 : Int32 → Int32 → Int32 → Int32 → Int32 → Int32 → (Nat → Int32) → Int32 → Int32 → Int32 → Option (Int32 × Int32 × (Nat → Int32) × Int32 × Int32 × Int32)} (hk11 : ∀ (x3 : Int32) (x4 : Int32) (x5 : Int32) (x6 : Int32) (z0_at : Int32) (z0_fault : Int32) (z1_steps : Nat → Int32) (z1_size : Int32) (z1_parts : Int32) (z1_readsTime : Int32), k11 x3 x4 x5 x6 z0_at z0_fault z1_steps z1_size z1_parts z1_readsTime = some q → rW l D Z (ty7 K) (MRuleReader_readTest (d + 1)) 11 [(0, .ref (a0 0)), (1, .ref (a1 0)), (2, .int x2), (3, .int x3), (4, .int x4), (5, .int x5), (6, .int x6)] [] (List.flatten [bCursor K a0 z0_text z0_size z0_at z0_fault, bRule K a1 z1_steps z1_size z1_sumFrom z1_testFrom z1_testTo z1_clauses z1_parts z1_readsTime z1_words z1_stack]) (List.flatten [bCursor K a0 z0_text z0_size q.1 q.2.1, bRule K a1 q.2.2.1 q.2.2.2.1 z1_sumFrom z1_testFrom z1_testTo z1_clauses q.2.2.2.2.1 q.2.2.2.2.2 z1_words z1_stack]) none) (h : mRuleReader_readTestB_j83 rT rF k11 x2 x4 x6 z0_text z0_size z0_at z0_fault z1_steps z1_size z1_parts z1_readsTime = some q) : rW l D Z (ty7 K) (MRuleReader_readTest (d + 1)) 83 [(0, .ref (a0 0)), (1, .ref (a1 0)), (2, .int x2), (4, .int x4), (6, .int x6)] [] (List.flatten [bCursor K a0 z0_text z0_size z0_at z0_fault, bRule K a1 z1_steps z1_size z1_sumFrom z1_testFrom z1_testTo z1_clauses z1_parts z1_readsTime z1_words z1_stack]) (List.flatten [bCursor K a0 z0_text z0_size q.1 q.2.1, bRule K a1 q.2.2.1 q.2.2.2.1 z1_sumFrom z1_testFrom z1_testTo z1_clauses q.2.2.2.2.1 q.2.2.2.2.2 z1_words z1_stack]) none := by
  unfold mRuleReader_readTestB_j83 at h
  refine r_iconst (x := (0 : Int32)) dX7_readTest_83 (by decide) ?_
  refine r_istore_n (lv' := [(3, .int (0 : Int32)), (0, .ref (a0 0)), (1, .ref (a1 0)), (2, .int x2), (4, .int x4), (6, .int x6)]) dX7_readTest_84 (Nat.le_of_ble_eq_true rfl) rfl ?_
  refine r_aload_n 1 dX7_readTest_85 rfl ?_
  obtain ⟨q9, h9, h⟩ := bd_some h
  refine b_callVN (isC := [0]) (ci := 0)  (st := []) (bs1 := [bCursor K a0 z0_text z0_size z0_at z0_fault, bRule K a1 z1_steps z1_size z1_sumFrom z1_testFrom z1_testTo z1_clauses z1_parts z1_readsTime z1_words z1_stack]) (cCursor_isFine (a0 := a0) (z0_text := z0_text) (z0_size := z0_size) (z0_at := z0_at) (z0_fault := z0_fault) h9) rfl rfl (Nat.le_of_ble_eq_true rfl) kCursor_isFine (List.mem_of_getElem? (i := 38) rfl) (by show 1 < 10 + (d + 1); omega) (by decide) rfl rfl rfl rfl rfl rfl rfl dX7_readTest_86 ?_
  refine r_if_eq 106 dX7_readTest_89 (by decide) (fun c10 => ?_) (fun c10 => ?_)
  · replace h := it_pos c10 h
    refine r_iconst (x := (0 : Int32)) dX7_readTest_106 (by decide) ?_
    refine r_istore (lv' := [(5, .int (0 : Int32)), (3, .int (0 : Int32)), (0, .ref (a0 0)), (1, .ref (a1 0)), (2, .int x2), (4, .int x4), (6, .int x6)]) dX7_readTest_107 (Nat.le_of_ble_eq_true rfl) rfl ?_
    refine r_iinc (y := (x6 + (1 : Int32))) (lv' := [(6, .int (x6 + (1 : Int32))), (5, .int (0 : Int32)), (3, .int (0 : Int32)), (0, .ref (a0 0)), (1, .ref (a1 0)), (2, .int x2), (4, .int x4)]) 6 dX7_readTest_109 rfl rfl (Nat.le_of_ble_eq_true rfl) rfl ?_
    refine r_goto 11 dX7_readTest_112 (by decide) ?_
    refine r_sub (lv' := [(0, .ref (a0 0)), (1, .ref (a1 0)), (2, .int x2), (3, .int (0 : Int32)), (4, .int x4), (5, .int (0 : Int32)), (6, .int (x6 + (1 : Int32)))]) [3, 4, 5, 2, 6, 1, 0] rfl ?_
    exact hk11 (0 : Int32) x4 (0 : Int32) (x6 + (1 : Int32)) z0_at z0_fault z1_steps z1_size z1_parts z1_readsTime h
  · replace h := it_neg c10 h
    refine r_aload_n 1 dX7_readTest_92 rfl ?_
    refine r_ldcS (tx := "or ") (i := 11) (List.mem_of_getElem? (i := 11) rfl) dX7_readTest_93 ?_
    obtain ⟨q11, h11, h⟩ := bd_some h
    refine b_callVN (isC := [0]) (ci := 0)  (st := []) (bs1 := [bCursor K a0 z0_text z0_size q11.2 z0_fault, bRule K a1 z1_steps z1_size z1_sumFrom z1_testFrom z1_testTo z1_clauses z1_parts z1_readsTime z1_words z1_stack]) (cCursor_takeWord (a0 := a0) (z0_text := z0_text) (z0_size := z0_size) (z0_at := z0_at) (z0_fault := z0_fault) h11) rfl rfl (Nat.le_of_ble_eq_true rfl) kCursor_takeWord (List.mem_of_getElem? (i := 34) rfl) (by show 7 < 10 + (d + 1); omega) (by decide) rfl rfl rfl rfl rfl rfl rfl dX7_readTest_95 ?_
    refine r_iconst (x := (-1 : Int32)) dX7_readTest_98 (by decide) ?_
    refine r_icmp_eq 106 dX7_readTest_99 (by decide) (fun c12 => ?_) (fun c12 => ?_)
    · replace h := it_pos c12 h
      refine r_iconst (x := (0 : Int32)) dX7_readTest_106 (by decide) ?_
      refine r_istore (lv' := [(5, .int (0 : Int32)), (3, .int (0 : Int32)), (0, .ref (a0 0)), (1, .ref (a1 0)), (2, .int x2), (4, .int x4), (6, .int x6)]) dX7_readTest_107 (Nat.le_of_ble_eq_true rfl) rfl ?_
      refine r_iinc (y := (x6 + (1 : Int32))) (lv' := [(6, .int (x6 + (1 : Int32))), (5, .int (0 : Int32)), (3, .int (0 : Int32)), (0, .ref (a0 0)), (1, .ref (a1 0)), (2, .int x2), (4, .int x4)]) 6 dX7_readTest_109 rfl rfl (Nat.le_of_ble_eq_true rfl) rfl ?_
      refine r_goto 11 dX7_readTest_112 (by decide) ?_
      refine r_sub (lv' := [(0, .ref (a0 0)), (1, .ref (a1 0)), (2, .int x2), (3, .int (0 : Int32)), (4, .int x4), (5, .int (0 : Int32)), (6, .int (x6 + (1 : Int32)))]) [3, 4, 5, 2, 6, 1, 0] rfl ?_
      exact hk11 (0 : Int32) x4 (0 : Int32) (x6 + (1 : Int32)) q11.2 z0_fault z1_steps z1_size z1_parts z1_readsTime h
    · replace h := it_neg c12 h
      refine r_iconst (x := (1 : Int32)) dX7_readTest_102 (by decide) ?_
      refine r_goto 107 dX7_readTest_103 (by decide) ?_
      refine r_istore (lv' := [(5, .int (1 : Int32)), (3, .int (0 : Int32)), (0, .ref (a0 0)), (1, .ref (a1 0)), (2, .int x2), (4, .int x4), (6, .int x6)]) dX7_readTest_107 (Nat.le_of_ble_eq_true rfl) rfl ?_
      refine r_iinc (y := (x6 + (1 : Int32))) (lv' := [(6, .int (x6 + (1 : Int32))), (5, .int (1 : Int32)), (3, .int (0 : Int32)), (0, .ref (a0 0)), (1, .ref (a1 0)), (2, .int x2), (4, .int x4)]) 6 dX7_readTest_109 rfl rfl (Nat.le_of_ble_eq_true rfl) rfl ?_
      refine r_goto 11 dX7_readTest_112 (by decide) ?_
      refine r_sub (lv' := [(0, .ref (a0 0)), (1, .ref (a1 0)), (2, .int x2), (3, .int (0 : Int32)), (4, .int x4), (5, .int (1 : Int32)), (6, .int (x6 + (1 : Int32)))]) [3, 4, 5, 2, 6, 1, 0] rfl ?_
      exact hk11 (0 : Int32) x4 (1 : Int32) (x6 + (1 : Int32)) q11.2 z0_fault z1_steps z1_size z1_parts z1_readsTime h
def mRuleReader_readTestB_j63 (rT : Int32 → (Nat → Int32) → Int32 → Int32 → Int32 → (Nat → Int32) → Int32 → Int32 → Int32 → Option (Int32 × Int32 × (Nat → Int32) × Int32 × Int32 × Int32)) (rF : Int32 → (Nat → Int32) → Int32 → Int32 → Int32 → (Nat → Int32) → Int32 → Int32 → Int32 → Option (Int32 × Int32 × (Nat → Int32) × Int32 × Int32 × Int32)) (k11 : Int32 → Int32 → Int32 → Int32 → Int32 → Int32 → (Nat → Int32) → Int32 → Int32 → Int32 → Option (Int32 × Int32 × (Nat → Int32) × Int32 × Int32 × Int32)) (x2 : Int32) (x3 : Int32) (x5 : Int32) (x6 : Int32) (z0_text : Nat → Int32) (z0_size : Int32) (z0_at : Int32) (z0_fault : Int32) (z1_steps : Nat → Int32) (z1_size : Int32) (z1_parts : Int32) (z1_readsTime : Int32) (s0 : Int32) : Option (Int32 × Int32 × (Nat → Int32) × Int32 × Int32 × Int32) := (if s0 = 0 then (if x3 = 0 then (mRule_add (4 : Int32) (0 : Int32) z1_steps z1_size z1_readsTime).bind (fun q13 => mRuleReader_readTestB_j83 rT rF k11 x2 s0 x6 z0_text z0_size z0_at z0_fault q13.1 q13.2.1 z1_parts q13.2.2) else mRuleReader_readTestB_j83 rT rF k11 x2 s0 x6 z0_text z0_size z0_at z0_fault z1_steps z1_size z1_parts z1_readsTime) else k11 x3 s0 x5 (x6 + (1 : Int32)) z0_at z0_fault z1_steps z1_size z1_parts z1_readsTime)
set_option maxHeartbeats 4000000 in
set_option maxRecDepth 20000 in
theorem cRuleReader_readTestB_j63 {q : Int32 × Int32 × (Nat → Int32) × Int32 × Int32 × Int32} {x2 : Int32} {x3 : Int32} {x5 : Int32} {x6 : Int32} {s0 : Int32} {rT : Int32 → (Nat → Int32) → Int32 → Int32 → Int32 → (Nat → Int32) → Int32 → Int32 → Int32 → Option (Int32 × Int32 × (Nat → Int32) × Int32 × Int32 × Int32)} (hrT : ∀ (x2 : Int32) (z0_text : Nat → Int32) (z0_size : Int32) (z0_at : Int32) (z0_fault : Int32) (z1_steps : Nat → Int32) (z1_size : Int32) (z1_parts : Int32) (z1_readsTime : Int32) (q' : Int32 × Int32 × (Nat → Int32) × Int32 × Int32 × Int32), rT x2 z0_text z0_size z0_at z0_fault z1_steps z1_size z1_parts z1_readsTime = some q' → rMet l D Z (ty7 K) (MRuleReader_readTest d) [.ref (a0 0), .ref (a1 0), .int x2] (List.flatten [bCursor K a0 z0_text z0_size z0_at z0_fault, bRule K a1 z1_steps z1_size z1_sumFrom z1_testFrom z1_testTo z1_clauses z1_parts z1_readsTime z1_words z1_stack]) (List.flatten [bCursor K a0 z0_text z0_size q'.1 q'.2.1, bRule K a1 q'.2.2.1 q'.2.2.2.1 z1_sumFrom z1_testFrom z1_testTo z1_clauses q'.2.2.2.2.1 q'.2.2.2.2.2 z1_words z1_stack]) none) {rF : Int32 → (Nat → Int32) → Int32 → Int32 → Int32 → (Nat → Int32) → Int32 → Int32 → Int32 → Option (Int32 × Int32 × (Nat → Int32) × Int32 × Int32 × Int32)} (hrF : ∀ (x2 : Int32) (z0_text : Nat → Int32) (z0_size : Int32) (z0_at : Int32) (z0_fault : Int32) (z1_steps : Nat → Int32) (z1_size : Int32) (z1_parts : Int32) (z1_readsTime : Int32) (q' : Int32 × Int32 × (Nat → Int32) × Int32 × Int32 × Int32), rF x2 z0_text z0_size z0_at z0_fault z1_steps z1_size z1_parts z1_readsTime = some q' → rMet l D Z (ty7 K) (MRuleReader_readFact d) [.ref (a0 0), .ref (a1 0), .int x2] (List.flatten [bCursor K a0 z0_text z0_size z0_at z0_fault, bRule K a1 z1_steps z1_size z1_sumFrom z1_testFrom z1_testTo z1_clauses z1_parts z1_readsTime z1_words z1_stack]) (List.flatten [bCursor K a0 z0_text z0_size q'.1 q'.2.1, bRule K a1 q'.2.2.1 q'.2.2.2.1 z1_sumFrom z1_testFrom z1_testTo z1_clauses q'.2.2.2.2.1 q'.2.2.2.2.2 z1_words z1_stack]) none) {k11 : Int32 → Int32 → Int32 → Int32 → Int32 → Int32 → (Nat → Int32) → Int32 → Int32 → Int32 → Option (Int32 × Int32 × (Nat → Int32) × Int32 × Int32 × Int32)} (hk11 : ∀ (x3 : Int32) (x4 : Int32) (x5 : Int32) (x6 : Int32) (z0_at : Int32) (z0_fault : Int32) (z1_steps : Nat → Int32) (z1_size : Int32) (z1_parts : Int32) (z1_readsTime : Int32), k11 x3 x4 x5 x6 z0_at z0_fault z1_steps z1_size z1_parts z1_readsTime = some q → rW l D Z (ty7 K) (MRuleReader_readTest (d + 1)) 11 [(0, .ref (a0 0)), (1, .ref (a1 0)), (2, .int x2), (3, .int x3), (4, .int x4), (5, .int x5), (6, .int x6)] [] (List.flatten [bCursor K a0 z0_text z0_size z0_at z0_fault, bRule K a1 z1_steps z1_size z1_sumFrom z1_testFrom z1_testTo z1_clauses z1_parts z1_readsTime z1_words z1_stack]) (List.flatten [bCursor K a0 z0_text z0_size q.1 q.2.1, bRule K a1 q.2.2.1 q.2.2.2.1 z1_sumFrom z1_testFrom z1_testTo z1_clauses q.2.2.2.2.1 q.2.2.2.2.2 z1_words z1_stack]) none) (h : mRuleReader_readTestB_j63 rT rF k11 x2 x3 x5 x6 z0_text z0_size z0_at z0_fault z1_steps z1_size z1_parts z1_readsTime s0 = some q) : rW l D Z (ty7 K) (MRuleReader_readTest (d + 1)) 63 [(0, .ref (a0 0)), (1, .ref (a1 0)), (2, .int x2), (3, .int x3), (5, .int x5), (6, .int x6)] [.int s0] (List.flatten [bCursor K a0 z0_text z0_size z0_at z0_fault, bRule K a1 z1_steps z1_size z1_sumFrom z1_testFrom z1_testTo z1_clauses z1_parts z1_readsTime z1_words z1_stack]) (List.flatten [bCursor K a0 z0_text z0_size q.1 q.2.1, bRule K a1 q.2.2.1 q.2.2.2.1 z1_sumFrom z1_testFrom z1_testTo z1_clauses q.2.2.2.2.1 q.2.2.2.2.2 z1_words z1_stack]) none := by
  unfold mRuleReader_readTestB_j63 at h
  refine r_istore (lv' := [(4, .int s0), (0, .ref (a0 0)), (1, .ref (a1 0)), (2, .int x2), (3, .int x3), (5, .int x5), (6, .int x6)]) dX7_readTest_63 (Nat.le_of_ble_eq_true rfl) rfl ?_
  refine r_iload 0 dX7_readTest_65 rfl ?_
  refine r_if_eq 73 dX7_readTest_67 (by decide) (fun c7 => ?_) (fun c7 => ?_)
  · replace h := it_pos c7 h
    refine r_iload_n 4 dX7_readTest_73 rfl ?_
    refine r_if_ne 83 dX7_readTest_74 (by decide) (fun c8 => ?_) (fun c8 => ?_)
    · replace h := it_neg c8 h
      refine r_sub (lv' := [(0, .ref (a0 0)), (1, .ref (a1 0)), (2, .int x2), (4, .int s0), (6, .int x6)]) [1, 2, 3, 0, 6] rfl ?_
      exact cRuleReader_readTestB_j83  hrT hrF (hk11) h
    · replace h := it_pos c8 h
      refine r_aload_n 2 dX7_readTest_77 rfl ?_
      refine r_iconst (x := (4 : Int32)) dX7_readTest_78 (by decide) ?_
      refine r_iconst (x := (0 : Int32)) dX7_readTest_79 (by decide) ?_
      obtain ⟨q13, h13, h⟩ := bd_some h
      refine b_callVN (isC := [1]) (ci := 5)  (st := []) (bs1 := [bCursor K a0 z0_text z0_size z0_at z0_fault, bRule K a1 q13.1 q13.2.1 z1_sumFrom z1_testFrom z1_testTo z1_clauses z1_parts q13.2.2 z1_words z1_stack]) (cRule_add (a0 := a1) (z0_steps := z1_steps) (z0_size := z1_size) (z0_sumFrom := z1_sumFrom) (z0_testFrom := z1_testFrom) (z0_testTo := z1_testTo) (z0_clauses := z1_clauses) (z0_parts := z1_parts) (z0_readsTime := z1_readsTime) (z0_words := z1_words) (z0_stack := z1_stack) h13) rfl rfl (Nat.le_of_ble_eq_true rfl) kRule_add (List.mem_of_getElem? (i := 39) rfl) (by show 1 < 10 + (d + 1); omega) (by decide) rfl rfl rfl rfl rfl rfl rfl dX7_readTest_80 ?_
      refine r_sub (lv' := [(0, .ref (a0 0)), (1, .ref (a1 0)), (2, .int x2), (4, .int s0), (6, .int x6)]) [1, 2, 3, 0, 6] rfl ?_
      exact cRuleReader_readTestB_j83  hrT hrF (hk11) h
  · replace h := it_neg c7 h
    refine r_goto 109 dX7_readTest_70 (by decide) ?_
    refine r_iinc (y := (x6 + (1 : Int32))) (lv' := [(6, .int (x6 + (1 : Int32))), (4, .int s0), (0, .ref (a0 0)), (1, .ref (a1 0)), (2, .int x2), (3, .int x3), (5, .int x5)]) 6 dX7_readTest_109 rfl rfl (Nat.le_of_ble_eq_true rfl) rfl ?_
    refine r_goto 11 dX7_readTest_112 (by decide) ?_
    refine r_sub (lv' := [(0, .ref (a0 0)), (1, .ref (a1 0)), (2, .int x2), (3, .int x3), (4, .int s0), (5, .int x5), (6, .int (x6 + (1 : Int32)))]) [2, 3, 4, 5, 1, 6, 0] rfl ?_
    exact hk11 x3 s0 x5 (x6 + (1 : Int32)) z0_at z0_fault z1_steps z1_size z1_parts z1_readsTime h
def mRuleReader_readTestB_j62 (rT : Int32 → (Nat → Int32) → Int32 → Int32 → Int32 → (Nat → Int32) → Int32 → Int32 → Int32 → Option (Int32 × Int32 × (Nat → Int32) × Int32 × Int32 × Int32)) (rF : Int32 → (Nat → Int32) → Int32 → Int32 → Int32 → (Nat → Int32) → Int32 → Int32 → Int32 → Option (Int32 × Int32 × (Nat → Int32) × Int32 × Int32 × Int32)) (k11 : Int32 → Int32 → Int32 → Int32 → Int32 → Int32 → (Nat → Int32) → Int32 → Int32 → Int32 → Option (Int32 × Int32 × (Nat → Int32) × Int32 × Int32 × Int32)) (x2 : Int32) (x3 : Int32) (x5 : Int32) (x6 : Int32) (z0_text : Nat → Int32) (z0_size : Int32) (z0_at : Int32) (z0_fault : Int32) (z1_steps : Nat → Int32) (z1_size : Int32) (z1_parts : Int32) (z1_readsTime : Int32) : Option (Int32 × Int32 × (Nat → Int32) × Int32 × Int32 × Int32) := mRuleReader_readTestB_j63 rT rF k11 x2 x3 x5 x6 z0_text z0_size z0_at z0_fault z1_steps z1_size z1_parts z1_readsTime (0 : Int32)
set_option maxHeartbeats 4000000 in
set_option maxRecDepth 20000 in
theorem cRuleReader_readTestB_j62 {q : Int32 × Int32 × (Nat → Int32) × Int32 × Int32 × Int32} {x2 : Int32} {x3 : Int32} {x5 : Int32} {x6 : Int32} {rT : Int32 → (Nat → Int32) → Int32 → Int32 → Int32 → (Nat → Int32) → Int32 → Int32 → Int32 → Option (Int32 × Int32 × (Nat → Int32) × Int32 × Int32 × Int32)} (hrT : ∀ (x2 : Int32) (z0_text : Nat → Int32) (z0_size : Int32) (z0_at : Int32) (z0_fault : Int32) (z1_steps : Nat → Int32) (z1_size : Int32) (z1_parts : Int32) (z1_readsTime : Int32) (q' : Int32 × Int32 × (Nat → Int32) × Int32 × Int32 × Int32), rT x2 z0_text z0_size z0_at z0_fault z1_steps z1_size z1_parts z1_readsTime = some q' → rMet l D Z (ty7 K) (MRuleReader_readTest d) [.ref (a0 0), .ref (a1 0), .int x2] (List.flatten [bCursor K a0 z0_text z0_size z0_at z0_fault, bRule K a1 z1_steps z1_size z1_sumFrom z1_testFrom z1_testTo z1_clauses z1_parts z1_readsTime z1_words z1_stack]) (List.flatten [bCursor K a0 z0_text z0_size q'.1 q'.2.1, bRule K a1 q'.2.2.1 q'.2.2.2.1 z1_sumFrom z1_testFrom z1_testTo z1_clauses q'.2.2.2.2.1 q'.2.2.2.2.2 z1_words z1_stack]) none) {rF : Int32 → (Nat → Int32) → Int32 → Int32 → Int32 → (Nat → Int32) → Int32 → Int32 → Int32 → Option (Int32 × Int32 × (Nat → Int32) × Int32 × Int32 × Int32)} (hrF : ∀ (x2 : Int32) (z0_text : Nat → Int32) (z0_size : Int32) (z0_at : Int32) (z0_fault : Int32) (z1_steps : Nat → Int32) (z1_size : Int32) (z1_parts : Int32) (z1_readsTime : Int32) (q' : Int32 × Int32 × (Nat → Int32) × Int32 × Int32 × Int32), rF x2 z0_text z0_size z0_at z0_fault z1_steps z1_size z1_parts z1_readsTime = some q' → rMet l D Z (ty7 K) (MRuleReader_readFact d) [.ref (a0 0), .ref (a1 0), .int x2] (List.flatten [bCursor K a0 z0_text z0_size z0_at z0_fault, bRule K a1 z1_steps z1_size z1_sumFrom z1_testFrom z1_testTo z1_clauses z1_parts z1_readsTime z1_words z1_stack]) (List.flatten [bCursor K a0 z0_text z0_size q'.1 q'.2.1, bRule K a1 q'.2.2.1 q'.2.2.2.1 z1_sumFrom z1_testFrom z1_testTo z1_clauses q'.2.2.2.2.1 q'.2.2.2.2.2 z1_words z1_stack]) none) {k11 : Int32 → Int32 → Int32 → Int32 → Int32 → Int32 → (Nat → Int32) → Int32 → Int32 → Int32 → Option (Int32 × Int32 × (Nat → Int32) × Int32 × Int32 × Int32)} (hk11 : ∀ (x3 : Int32) (x4 : Int32) (x5 : Int32) (x6 : Int32) (z0_at : Int32) (z0_fault : Int32) (z1_steps : Nat → Int32) (z1_size : Int32) (z1_parts : Int32) (z1_readsTime : Int32), k11 x3 x4 x5 x6 z0_at z0_fault z1_steps z1_size z1_parts z1_readsTime = some q → rW l D Z (ty7 K) (MRuleReader_readTest (d + 1)) 11 [(0, .ref (a0 0)), (1, .ref (a1 0)), (2, .int x2), (3, .int x3), (4, .int x4), (5, .int x5), (6, .int x6)] [] (List.flatten [bCursor K a0 z0_text z0_size z0_at z0_fault, bRule K a1 z1_steps z1_size z1_sumFrom z1_testFrom z1_testTo z1_clauses z1_parts z1_readsTime z1_words z1_stack]) (List.flatten [bCursor K a0 z0_text z0_size q.1 q.2.1, bRule K a1 q.2.2.1 q.2.2.2.1 z1_sumFrom z1_testFrom z1_testTo z1_clauses q.2.2.2.2.1 q.2.2.2.2.2 z1_words z1_stack]) none) (h : mRuleReader_readTestB_j62 rT rF k11 x2 x3 x5 x6 z0_text z0_size z0_at z0_fault z1_steps z1_size z1_parts z1_readsTime = some q) : rW l D Z (ty7 K) (MRuleReader_readTest (d + 1)) 62 [(0, .ref (a0 0)), (1, .ref (a1 0)), (2, .int x2), (3, .int x3), (5, .int x5), (6, .int x6)] [] (List.flatten [bCursor K a0 z0_text z0_size z0_at z0_fault, bRule K a1 z1_steps z1_size z1_sumFrom z1_testFrom z1_testTo z1_clauses z1_parts z1_readsTime z1_words z1_stack]) (List.flatten [bCursor K a0 z0_text z0_size q.1 q.2.1, bRule K a1 q.2.2.1 q.2.2.2.1 z1_sumFrom z1_testFrom z1_testTo z1_clauses q.2.2.2.2.1 q.2.2.2.2.2 z1_words z1_stack]) none := by
  unfold mRuleReader_readTestB_j62 at h
  refine r_iconst (x := (0 : Int32)) dX7_readTest_62 (by decide) ?_
  exact cRuleReader_readTestB_j63  hrT hrF (hk11) h
def mRuleReader_readTestB_j41 (rT : Int32 → (Nat → Int32) → Int32 → Int32 → Int32 → (Nat → Int32) → Int32 → Int32 → Int32 → Option (Int32 × Int32 × (Nat → Int32) × Int32 × Int32 × Int32)) (rF : Int32 → (Nat → Int32) → Int32 → Int32 → Int32 → (Nat → Int32) → Int32 → Int32 → Int32 → Option (Int32 × Int32 × (Nat → Int32) × Int32 × Int32 × Int32)) (k11 : Int32 → Int32 → Int32 → Int32 → Int32 → Int32 → (Nat → Int32) → Int32 → Int32 → Int32 → Option (Int32 × Int32 × (Nat → Int32) × Int32 × Int32 × Int32)) (x2 : Int32) (x3 : Int32) (x5 : Int32) (x6 : Int32) (z0_text : Nat → Int32) (z0_size : Int32) (z0_at : Int32) (z0_fault : Int32) (z1_steps : Nat → Int32) (z1_size : Int32) (z1_parts : Int32) (z1_readsTime : Int32) : Option (Int32 × Int32 × (Nat → Int32) × Int32 × Int32 × Int32) := (mCursor_isFine z0_fault).bind (fun q5 => (if q5 = 0 then mRuleReader_readTestB_j62 rT rF k11 x2 x3 x5 x6 z0_text z0_size z0_at z0_fault z1_steps z1_size z1_parts z1_readsTime else (mCursor_takeWord 10 z0_text z0_size z0_at).bind (fun q14 => (if q14.1 = (-1 : Int32) then mRuleReader_readTestB_j62 rT rF k11 x2 x3 x5 x6 z0_text z0_size q14.2 z0_fault z1_steps z1_size z1_parts z1_readsTime else mRuleReader_readTestB_j63 rT rF k11 x2 x3 x5 x6 z0_text z0_size q14.2 z0_fault z1_steps z1_size z1_parts z1_readsTime (1 : Int32)))))
set_option maxHeartbeats 4000000 in
set_option maxRecDepth 20000 in
theorem cRuleReader_readTestB_j41 {q : Int32 × Int32 × (Nat → Int32) × Int32 × Int32 × Int32} {x2 : Int32} {x3 : Int32} {x5 : Int32} {x6 : Int32} {rT : Int32 → (Nat → Int32) → Int32 → Int32 → Int32 → (Nat → Int32) → Int32 → Int32 → Int32 → Option (Int32 × Int32 × (Nat → Int32) × Int32 × Int32 × Int32)} (hrT : ∀ (x2 : Int32) (z0_text : Nat → Int32) (z0_size : Int32) (z0_at : Int32) (z0_fault : Int32) (z1_steps : Nat → Int32) (z1_size : Int32) (z1_parts : Int32) (z1_readsTime : Int32) (q' : Int32 × Int32 × (Nat → Int32) × Int32 × Int32 × Int32), rT x2 z0_text z0_size z0_at z0_fault z1_steps z1_size z1_parts z1_readsTime = some q' → rMet l D Z (ty7 K) (MRuleReader_readTest d) [.ref (a0 0), .ref (a1 0), .int x2] (List.flatten [bCursor K a0 z0_text z0_size z0_at z0_fault, bRule K a1 z1_steps z1_size z1_sumFrom z1_testFrom z1_testTo z1_clauses z1_parts z1_readsTime z1_words z1_stack]) (List.flatten [bCursor K a0 z0_text z0_size q'.1 q'.2.1, bRule K a1 q'.2.2.1 q'.2.2.2.1 z1_sumFrom z1_testFrom z1_testTo z1_clauses q'.2.2.2.2.1 q'.2.2.2.2.2 z1_words z1_stack]) none) {rF : Int32 → (Nat → Int32) → Int32 → Int32 → Int32 → (Nat → Int32) → Int32 → Int32 → Int32 → Option (Int32 × Int32 × (Nat → Int32) × Int32 × Int32 × Int32)} (hrF : ∀ (x2 : Int32) (z0_text : Nat → Int32) (z0_size : Int32) (z0_at : Int32) (z0_fault : Int32) (z1_steps : Nat → Int32) (z1_size : Int32) (z1_parts : Int32) (z1_readsTime : Int32) (q' : Int32 × Int32 × (Nat → Int32) × Int32 × Int32 × Int32), rF x2 z0_text z0_size z0_at z0_fault z1_steps z1_size z1_parts z1_readsTime = some q' → rMet l D Z (ty7 K) (MRuleReader_readFact d) [.ref (a0 0), .ref (a1 0), .int x2] (List.flatten [bCursor K a0 z0_text z0_size z0_at z0_fault, bRule K a1 z1_steps z1_size z1_sumFrom z1_testFrom z1_testTo z1_clauses z1_parts z1_readsTime z1_words z1_stack]) (List.flatten [bCursor K a0 z0_text z0_size q'.1 q'.2.1, bRule K a1 q'.2.2.1 q'.2.2.2.1 z1_sumFrom z1_testFrom z1_testTo z1_clauses q'.2.2.2.2.1 q'.2.2.2.2.2 z1_words z1_stack]) none) {k11 : Int32 → Int32 → Int32 → Int32 → Int32 → Int32 → (Nat → Int32) → Int32 → Int32 → Int32 → Option (Int32 × Int32 × (Nat → Int32) × Int32 × Int32 × Int32)} (hk11 : ∀ (x3 : Int32) (x4 : Int32) (x5 : Int32) (x6 : Int32) (z0_at : Int32) (z0_fault : Int32) (z1_steps : Nat → Int32) (z1_size : Int32) (z1_parts : Int32) (z1_readsTime : Int32), k11 x3 x4 x5 x6 z0_at z0_fault z1_steps z1_size z1_parts z1_readsTime = some q → rW l D Z (ty7 K) (MRuleReader_readTest (d + 1)) 11 [(0, .ref (a0 0)), (1, .ref (a1 0)), (2, .int x2), (3, .int x3), (4, .int x4), (5, .int x5), (6, .int x6)] [] (List.flatten [bCursor K a0 z0_text z0_size z0_at z0_fault, bRule K a1 z1_steps z1_size z1_sumFrom z1_testFrom z1_testTo z1_clauses z1_parts z1_readsTime z1_words z1_stack]) (List.flatten [bCursor K a0 z0_text z0_size q.1 q.2.1, bRule K a1 q.2.2.1 q.2.2.2.1 z1_sumFrom z1_testFrom z1_testTo z1_clauses q.2.2.2.2.1 q.2.2.2.2.2 z1_words z1_stack]) none) (h : mRuleReader_readTestB_j41 rT rF k11 x2 x3 x5 x6 z0_text z0_size z0_at z0_fault z1_steps z1_size z1_parts z1_readsTime = some q) : rW l D Z (ty7 K) (MRuleReader_readTest (d + 1)) 41 [(0, .ref (a0 0)), (1, .ref (a1 0)), (2, .int x2), (3, .int x3), (5, .int x5), (6, .int x6)] [] (List.flatten [bCursor K a0 z0_text z0_size z0_at z0_fault, bRule K a1 z1_steps z1_size z1_sumFrom z1_testFrom z1_testTo z1_clauses z1_parts z1_readsTime z1_words z1_stack]) (List.flatten [bCursor K a0 z0_text z0_size q.1 q.2.1, bRule K a1 q.2.2.1 q.2.2.2.1 z1_sumFrom z1_testFrom z1_testTo z1_clauses q.2.2.2.2.1 q.2.2.2.2.2 z1_words z1_stack]) none := by
  unfold mRuleReader_readTestB_j41 at h
  refine r_aload_n 0 dX7_readTest_41 rfl ?_
  obtain ⟨q5, h5, h⟩ := bd_some h
  refine b_callVN (isC := [0]) (ci := 0)  (st := []) (bs1 := [bCursor K a0 z0_text z0_size z0_at z0_fault, bRule K a1 z1_steps z1_size z1_sumFrom z1_testFrom z1_testTo z1_clauses z1_parts z1_readsTime z1_words z1_stack]) (cCursor_isFine (a0 := a0) (z0_text := z0_text) (z0_size := z0_size) (z0_at := z0_at) (z0_fault := z0_fault) h5) rfl rfl (Nat.le_of_ble_eq_true rfl) kCursor_isFine (List.mem_of_getElem? (i := 38) rfl) (by show 1 < 10 + (d + 1); omega) (by decide) rfl rfl rfl rfl rfl rfl rfl dX7_readTest_42 ?_
  refine r_if_eq 62 dX7_readTest_45 (by decide) (fun c6 => ?_) (fun c6 => ?_)
  · replace h := it_pos c6 h
    exact cRuleReader_readTestB_j62  hrT hrF (hk11) h
  · replace h := it_neg c6 h
    refine r_aload_n 0 dX7_readTest_48 rfl ?_
    refine r_ldcS (tx := "and ") (i := 10) (List.mem_of_getElem? (i := 10) rfl) dX7_readTest_49 ?_
    obtain ⟨q14, h14, h⟩ := bd_some h
    refine b_callVN (isC := [0]) (ci := 0)  (st := []) (bs1 := [bCursor K a0 z0_text z0_size q14.2 z0_fault, bRule K a1 z1_steps z1_size z1_sumFrom z1_testFrom z1_testTo z1_clauses z1_parts z1_readsTime z1_words z1_stack]) (cCursor_takeWord (a0 := a0) (z0_text := z0_text) (z0_size := z0_size) (z0_at := z0_at) (z0_fault := z0_fault) h14) rfl rfl (Nat.le_of_ble_eq_true rfl) kCursor_takeWord (List.mem_of_getElem? (i := 34) rfl) (by show 7 < 10 + (d + 1); omega) (by decide) rfl rfl rfl rfl rfl rfl rfl dX7_readTest_51 ?_
    refine r_iconst (x := (-1 : Int32)) dX7_readTest_54 (by decide) ?_
    refine r_icmp_eq 62 dX7_readTest_55 (by decide) (fun c15 => ?_) (fun c15 => ?_)
    · replace h := it_pos c15 h
      exact cRuleReader_readTestB_j62  hrT hrF (hk11) h
    · replace h := it_neg c15 h
      refine r_iconst (x := (1 : Int32)) dX7_readTest_58 (by decide) ?_
      refine r_goto 63 dX7_readTest_59 (by decide) ?_
      exact cRuleReader_readTestB_j63  hrT hrF (hk11) h
def mRuleReader_readTestB_l11 (rT : Int32 → (Nat → Int32) → Int32 → Int32 → Int32 → (Nat → Int32) → Int32 → Int32 → Int32 → Option (Int32 × Int32 × (Nat → Int32) × Int32 × Int32 × Int32)) (rF : Int32 → (Nat → Int32) → Int32 → Int32 → Int32 → (Nat → Int32) → Int32 → Int32 → Int32 → Option (Int32 × Int32 × (Nat → Int32) × Int32 × Int32 × Int32)) (z0_text : Nat → Int32) (z0_size : Int32) (x2 : Int32) : Nat → Int32 → Int32 → Int32 → Int32 → Int32 → Int32 → (Nat → Int32) → Int32 → Int32 → Int32 → Option (Int32 × Int32 × (Nat → Int32) × Int32 × Int32 × Int32)
  | 0, _, _, _, _, _, _, _, _, _, _ => none
  | n + 1, x3, x4, x5, x6, z0_at, z0_fault, z1_steps, z1_size, z1_parts, z1_readsTime => (if (400 : Int32) ≤ x6 then some (z0_at, z0_fault, z1_steps, z1_size, z1_parts, z1_readsTime) else (if x5 = 0 then some (z0_at, z0_fault, z1_steps, z1_size, z1_parts, z1_readsTime) else (rF x2 z0_text z0_size z0_at z0_fault z1_steps z1_size z1_parts z1_readsTime).bind (fun q3 => (if x4 = 0 then mRuleReader_readTestB_j41 rT rF (mRuleReader_readTestB_l11 rT rF z0_text z0_size x2 n) x2 x3 x5 x6 z0_text z0_size q3.1 q3.2.1 q3.2.2.1 q3.2.2.2.1 q3.2.2.2.2.1 q3.2.2.2.2.2 else (mRule_add (3 : Int32) (0 : Int32) q3.2.2.1 q3.2.2.2.1 q3.2.2.2.2.2).bind (fun q16 => mRuleReader_readTestB_j41 rT rF (mRuleReader_readTestB_l11 rT rF z0_text z0_size x2 n) x2 x3 x5 x6 z0_text z0_size q3.1 q3.2.1 q16.1 q16.2.1 q3.2.2.2.2.1 q16.2.2)))))
set_option maxHeartbeats 4000000 in
set_option maxRecDepth 20000 in
theorem cRuleReader_readTestB_l11 {q : Int32 × Int32 × (Nat → Int32) × Int32 × Int32 × Int32} {x2 : Int32} {rT : Int32 → (Nat → Int32) → Int32 → Int32 → Int32 → (Nat → Int32) → Int32 → Int32 → Int32 → Option (Int32 × Int32 × (Nat → Int32) × Int32 × Int32 × Int32)} (hrT : ∀ (x2 : Int32) (z0_text : Nat → Int32) (z0_size : Int32) (z0_at : Int32) (z0_fault : Int32) (z1_steps : Nat → Int32) (z1_size : Int32) (z1_parts : Int32) (z1_readsTime : Int32) (q' : Int32 × Int32 × (Nat → Int32) × Int32 × Int32 × Int32), rT x2 z0_text z0_size z0_at z0_fault z1_steps z1_size z1_parts z1_readsTime = some q' → rMet l D Z (ty7 K) (MRuleReader_readTest d) [.ref (a0 0), .ref (a1 0), .int x2] (List.flatten [bCursor K a0 z0_text z0_size z0_at z0_fault, bRule K a1 z1_steps z1_size z1_sumFrom z1_testFrom z1_testTo z1_clauses z1_parts z1_readsTime z1_words z1_stack]) (List.flatten [bCursor K a0 z0_text z0_size q'.1 q'.2.1, bRule K a1 q'.2.2.1 q'.2.2.2.1 z1_sumFrom z1_testFrom z1_testTo z1_clauses q'.2.2.2.2.1 q'.2.2.2.2.2 z1_words z1_stack]) none) {rF : Int32 → (Nat → Int32) → Int32 → Int32 → Int32 → (Nat → Int32) → Int32 → Int32 → Int32 → Option (Int32 × Int32 × (Nat → Int32) × Int32 × Int32 × Int32)} (hrF : ∀ (x2 : Int32) (z0_text : Nat → Int32) (z0_size : Int32) (z0_at : Int32) (z0_fault : Int32) (z1_steps : Nat → Int32) (z1_size : Int32) (z1_parts : Int32) (z1_readsTime : Int32) (q' : Int32 × Int32 × (Nat → Int32) × Int32 × Int32 × Int32), rF x2 z0_text z0_size z0_at z0_fault z1_steps z1_size z1_parts z1_readsTime = some q' → rMet l D Z (ty7 K) (MRuleReader_readFact d) [.ref (a0 0), .ref (a1 0), .int x2] (List.flatten [bCursor K a0 z0_text z0_size z0_at z0_fault, bRule K a1 z1_steps z1_size z1_sumFrom z1_testFrom z1_testTo z1_clauses z1_parts z1_readsTime z1_words z1_stack]) (List.flatten [bCursor K a0 z0_text z0_size q'.1 q'.2.1, bRule K a1 q'.2.2.1 q'.2.2.2.1 z1_sumFrom z1_testFrom z1_testTo z1_clauses q'.2.2.2.2.1 q'.2.2.2.2.2 z1_words z1_stack]) none)  : ∀ (n : Nat) (x3 : Int32) (x4 : Int32) (x5 : Int32) (x6 : Int32) (z0_at : Int32) (z0_fault : Int32) (z1_steps : Nat → Int32) (z1_size : Int32) (z1_parts : Int32) (z1_readsTime : Int32), mRuleReader_readTestB_l11 rT rF z0_text z0_size x2 n x3 x4 x5 x6 z0_at z0_fault z1_steps z1_size z1_parts z1_readsTime = some q → rW l D Z (ty7 K) (MRuleReader_readTest (d + 1)) 11 [(0, .ref (a0 0)), (1, .ref (a1 0)), (2, .int x2), (3, .int x3), (4, .int x4), (5, .int x5), (6, .int x6)] [] (List.flatten [bCursor K a0 z0_text z0_size z0_at z0_fault, bRule K a1 z1_steps z1_size z1_sumFrom z1_testFrom z1_testTo z1_clauses z1_parts z1_readsTime z1_words z1_stack]) (List.flatten [bCursor K a0 z0_text z0_size q.1 q.2.1, bRule K a1 q.2.2.1 q.2.2.2.1 z1_sumFrom z1_testFrom z1_testTo z1_clauses q.2.2.2.2.1 q.2.2.2.2.2 z1_words z1_stack]) none := by
  intro n
  induction n with
  | zero => intro x3 x4 x5 x6 z0_at z0_fault z1_steps z1_size z1_parts z1_readsTime h; unfold mRuleReader_readTestB_l11 at h; cases h
  | succ n ih =>
    intro x3 x4 x5 x6 z0_at z0_fault z1_steps z1_size z1_parts z1_readsTime h
    unfold mRuleReader_readTestB_l11 at h
    refine r_iload 6 dX7_readTest_11 rfl ?_
    refine r_sipush (x := (400 : Int32)) dX7_readTest_13 (by decide) ?_
    refine r_icmp_ge 115 dX7_readTest_16 (by decide) (fun c1 => ?_) (fun c1 => ?_)
    · replace h := it_pos c1 h
      have hq := Option.some.inj h
      subst hq
      exact r_vret rfl dX7_readTest_115
    · replace h := it_neg c1 h
      refine r_iload 5 dX7_readTest_19 rfl ?_
      refine r_if_eq 115 dX7_readTest_21 (by decide) (fun c2 => ?_) (fun c2 => ?_)
      · replace h := it_pos c2 h
        have hq := Option.some.inj h
        subst hq
        exact r_vret rfl dX7_readTest_115
      · replace h := it_neg c2 h
        refine r_aload_n 0 dX7_readTest_24 rfl ?_
        refine r_aload_n 1 dX7_readTest_25 rfl ?_
        refine r_iload_n 2 dX7_readTest_26 rfl ?_
        obtain ⟨q3, h3, h⟩ := bd_some h
        refine b_callS (isC := [0, 1]) (st := []) (bs1 := [bCursor K a0 z0_text z0_size q3.1 q3.2.1, bRule K a1 q3.2.2.1 q3.2.2.2.1 z1_sumFrom z1_testFrom z1_testTo z1_clauses q3.2.2.2.2.1 q3.2.2.2.2.2 z1_words z1_stack]) (hrF _ _ _ _ _ _ _ _ _ _ h3) rfl rfl (Nat.le_of_ble_eq_true rfl) (kRuleReader_readFact d) (tb_in (i := 9) (j := 3) rfl rfl) (by show 10 + d < 10 + (d + 1); omega) (by decide) rfl rfl rfl dX7_readTest_27 ?_
        refine r_iload 4 dX7_readTest_30 rfl ?_
        refine r_if_eq 41 dX7_readTest_32 (by decide) (fun c4 => ?_) (fun c4 => ?_)
        · replace h := it_pos c4 h
          refine r_sub (lv' := [(0, .ref (a0 0)), (1, .ref (a1 0)), (2, .int x2), (3, .int x3), (5, .int x5), (6, .int x6)]) [0, 1, 2, 3, 5, 6] rfl ?_
          exact cRuleReader_readTestB_j41  hrT hrF (ih) h
        · replace h := it_neg c4 h
          refine r_aload_n 1 dX7_readTest_35 rfl ?_
          refine r_iconst (x := (3 : Int32)) dX7_readTest_36 (by decide) ?_
          refine r_iconst (x := (0 : Int32)) dX7_readTest_37 (by decide) ?_
          obtain ⟨q16, h16, h⟩ := bd_some h
          refine b_callVN (isC := [1]) (ci := 5)  (st := []) (bs1 := [bCursor K a0 z0_text z0_size q3.1 q3.2.1, bRule K a1 q16.1 q16.2.1 z1_sumFrom z1_testFrom z1_testTo z1_clauses q3.2.2.2.2.1 q16.2.2 z1_words z1_stack]) (cRule_add (a0 := a1) (z0_steps := q3.2.2.1) (z0_size := q3.2.2.2.1) (z0_sumFrom := z1_sumFrom) (z0_testFrom := z1_testFrom) (z0_testTo := z1_testTo) (z0_clauses := z1_clauses) (z0_parts := q3.2.2.2.2.1) (z0_readsTime := q3.2.2.2.2.2) (z0_words := z1_words) (z0_stack := z1_stack) h16) rfl rfl (Nat.le_of_ble_eq_true rfl) kRule_add (List.mem_of_getElem? (i := 39) rfl) (by show 1 < 10 + (d + 1); omega) (by decide) rfl rfl rfl rfl rfl rfl rfl dX7_readTest_38 ?_
          refine r_sub (lv' := [(0, .ref (a0 0)), (1, .ref (a1 0)), (2, .int x2), (3, .int x3), (5, .int x5), (6, .int x6)]) [0, 1, 2, 3, 5, 6] rfl ?_
          exact cRuleReader_readTestB_j41  hrT hrF (ih) h
def mRuleReader_readTestB (rT : Int32 → (Nat → Int32) → Int32 → Int32 → Int32 → (Nat → Int32) → Int32 → Int32 → Int32 → Option (Int32 × Int32 × (Nat → Int32) × Int32 × Int32 × Int32)) (rF : Int32 → (Nat → Int32) → Int32 → Int32 → Int32 → (Nat → Int32) → Int32 → Int32 → Int32 → Option (Int32 × Int32 × (Nat → Int32) × Int32 × Int32 × Int32)) (x2 : Int32) (z0_text : Nat → Int32) (z0_size : Int32) (z0_at : Int32) (z0_fault : Int32) (z1_steps : Nat → Int32) (z1_size : Int32) (z1_parts : Int32) (z1_readsTime : Int32) : Option (Int32 × Int32 × (Nat → Int32) × Int32 × Int32 × Int32) := mRuleReader_readTestB_l11 rT rF z0_text z0_size x2 FU (1 : Int32) (0 : Int32) (1 : Int32) (0 : Int32) z0_at z0_fault z1_steps z1_size z1_parts z1_readsTime
set_option maxHeartbeats 4000000 in
set_option maxRecDepth 20000 in
theorem cRuleReader_readTestB {q : Int32 × Int32 × (Nat → Int32) × Int32 × Int32 × Int32} {x2 : Int32} {rT : Int32 → (Nat → Int32) → Int32 → Int32 → Int32 → (Nat → Int32) → Int32 → Int32 → Int32 → Option (Int32 × Int32 × (Nat → Int32) × Int32 × Int32 × Int32)} (hrT : ∀ (x2 : Int32) (z0_text : Nat → Int32) (z0_size : Int32) (z0_at : Int32) (z0_fault : Int32) (z1_steps : Nat → Int32) (z1_size : Int32) (z1_parts : Int32) (z1_readsTime : Int32) (q' : Int32 × Int32 × (Nat → Int32) × Int32 × Int32 × Int32), rT x2 z0_text z0_size z0_at z0_fault z1_steps z1_size z1_parts z1_readsTime = some q' → rMet l D Z (ty7 K) (MRuleReader_readTest d) [.ref (a0 0), .ref (a1 0), .int x2] (List.flatten [bCursor K a0 z0_text z0_size z0_at z0_fault, bRule K a1 z1_steps z1_size z1_sumFrom z1_testFrom z1_testTo z1_clauses z1_parts z1_readsTime z1_words z1_stack]) (List.flatten [bCursor K a0 z0_text z0_size q'.1 q'.2.1, bRule K a1 q'.2.2.1 q'.2.2.2.1 z1_sumFrom z1_testFrom z1_testTo z1_clauses q'.2.2.2.2.1 q'.2.2.2.2.2 z1_words z1_stack]) none) {rF : Int32 → (Nat → Int32) → Int32 → Int32 → Int32 → (Nat → Int32) → Int32 → Int32 → Int32 → Option (Int32 × Int32 × (Nat → Int32) × Int32 × Int32 × Int32)} (hrF : ∀ (x2 : Int32) (z0_text : Nat → Int32) (z0_size : Int32) (z0_at : Int32) (z0_fault : Int32) (z1_steps : Nat → Int32) (z1_size : Int32) (z1_parts : Int32) (z1_readsTime : Int32) (q' : Int32 × Int32 × (Nat → Int32) × Int32 × Int32 × Int32), rF x2 z0_text z0_size z0_at z0_fault z1_steps z1_size z1_parts z1_readsTime = some q' → rMet l D Z (ty7 K) (MRuleReader_readFact d) [.ref (a0 0), .ref (a1 0), .int x2] (List.flatten [bCursor K a0 z0_text z0_size z0_at z0_fault, bRule K a1 z1_steps z1_size z1_sumFrom z1_testFrom z1_testTo z1_clauses z1_parts z1_readsTime z1_words z1_stack]) (List.flatten [bCursor K a0 z0_text z0_size q'.1 q'.2.1, bRule K a1 q'.2.2.1 q'.2.2.2.1 z1_sumFrom z1_testFrom z1_testTo z1_clauses q'.2.2.2.2.1 q'.2.2.2.2.2 z1_words z1_stack]) none) (h : mRuleReader_readTestB rT rF x2 z0_text z0_size z0_at z0_fault z1_steps z1_size z1_parts z1_readsTime = some q) : rMet l D Z (ty7 K) (MRuleReader_readTest (d + 1)) [.ref (a0 0), .ref (a1 0), .int x2] (List.flatten [bCursor K a0 z0_text z0_size z0_at z0_fault, bRule K a1 z1_steps z1_size z1_sumFrom z1_testFrom z1_testTo z1_clauses z1_parts z1_readsTime z1_words z1_stack]) (List.flatten [bCursor K a0 z0_text z0_size q.1 q.2.1, bRule K a1 q.2.2.1 q.2.2.2.1 z1_sumFrom z1_testFrom z1_testTo z1_clauses q.2.2.2.2.1 q.2.2.2.2.2 z1_words z1_stack]) none := by
  refine rMet.of (by show plainName yX7_readTest.cls = true; decide) rfl (Nat.le_of_ble_eq_true rfl) ?_
  refine r_sub (lv' := [(0, .ref (a0 0)), (1, .ref (a1 0)), (2, .int x2)]) [0, 1, 2] rfl ?_
  unfold mRuleReader_readTestB at h
  refine r_iconst (x := (1 : Int32)) dX7_readTest_0 (by decide) ?_
  refine r_istore_n (lv' := [(3, .int (1 : Int32)), (0, .ref (a0 0)), (1, .ref (a1 0)), (2, .int x2)]) dX7_readTest_1 (Nat.le_of_ble_eq_true rfl) rfl ?_
  refine r_iconst (x := (0 : Int32)) dX7_readTest_2 (by decide) ?_
  refine r_istore (lv' := [(4, .int (0 : Int32)), (3, .int (1 : Int32)), (0, .ref (a0 0)), (1, .ref (a1 0)), (2, .int x2)]) dX7_readTest_3 (Nat.le_of_ble_eq_true rfl) rfl ?_
  refine r_iconst (x := (1 : Int32)) dX7_readTest_5 (by decide) ?_
  refine r_istore (lv' := [(5, .int (1 : Int32)), (4, .int (0 : Int32)), (3, .int (1 : Int32)), (0, .ref (a0 0)), (1, .ref (a1 0)), (2, .int x2)]) dX7_readTest_6 (Nat.le_of_ble_eq_true rfl) rfl ?_
  refine r_iconst (x := (0 : Int32)) dX7_readTest_8 (by decide) ?_
  refine r_istore (lv' := [(6, .int (0 : Int32)), (5, .int (1 : Int32)), (4, .int (0 : Int32)), (3, .int (1 : Int32)), (0, .ref (a0 0)), (1, .ref (a1 0)), (2, .int x2)]) dX7_readTest_9 (Nat.le_of_ble_eq_true rfl) rfl ?_
  refine r_sub (lv' := [(0, .ref (a0 0)), (1, .ref (a1 0)), (2, .int x2), (3, .int (1 : Int32)), (4, .int (0 : Int32)), (5, .int (1 : Int32)), (6, .int (0 : Int32))]) [4, 5, 6, 3, 2, 1, 0] rfl ?_
  exact cRuleReader_readTestB_l11  hrT hrF FU (1 : Int32) (0 : Int32) (1 : Int32) (0 : Int32) z0_at z0_fault z1_steps z1_size z1_parts z1_readsTime h
end
section
variable {d : Nat} {a0 : Nat → Nat} {a1 : Nat → Nat} {z0_text : Nat → Int32} {z0_size : Int32} {z0_at : Int32} {z0_fault : Int32} {z1_steps : Nat → Int32} {z1_size : Int32} {z1_sumFrom : Nat → Int32} {z1_testFrom : Nat → Int32} {z1_testTo : Nat → Int32} {z1_clauses : Int32} {z1_parts : Int32} {z1_readsTime : Int32} {z1_words : Nat → Int64} {z1_stack : Nat → Int64}
def mRuleReader_readFactB_j63 (rT : Int32 → (Nat → Int32) → Int32 → Int32 → Int32 → (Nat → Int32) → Int32 → Int32 → Int32 → Option (Int32 × Int32 × (Nat → Int32) × Int32 × Int32 × Int32)) (rF : Int32 → (Nat → Int32) → Int32 → Int32 → Int32 → (Nat → Int32) → Int32 → Int32 → Int32 → Option (Int32 × Int32 × (Nat → Int32) × Int32 × Int32 × Int32)) (x2 : Int32) (x3 : Int32) (x5 : Int32) (z0_text : Nat → Int32) (z0_size : Int32) (z0_at : Int32) (z0_fault : Int32) (z1_steps : Nat → Int32) (z1_size : Int32) (z1_parts : Int32) (z1_readsTime : Int32) : Option (Int32 × Int32 × (Nat → Int32) × Int32 × Int32 × Int32) := (if x5 = 0 then (if x3 = 0 then (mRuleReader_readSum z0_text z0_size z0_at z0_fault z1_steps z1_size z1_parts z1_readsTime).bind (fun q9 => (mRuleReader_readSign z0_text z0_size q9.1 q9.2.1 q9.2.2.2.2.1).bind (fun q10 => (mCursor_isFine q10.2.2.1).bind (fun q11 => (if q11 = 0 then some (q10.2.1, q10.2.2.1, q9.2.2.1, q9.2.2.2.1, q10.2.2.2, q9.2.2.2.2.2) else (mRuleReader_readSum z0_text z0_size q10.2.1 q10.2.2.1 q9.2.2.1 q9.2.2.2.1 q10.2.2.2 q9.2.2.2.2.2).bind (fun q13 => (mRule_add (10 : Int32) q10.1 q13.2.2.1 q13.2.2.2.1 q13.2.2.2.2.2).bind (fun q14 => some (q13.1, q13.2.1, q14.1, q14.2.1, q13.2.2.2.2.1, q14.2.2))))))) else lt (z0_at + (1 : Int32)) (fun y15 => (rT (x2 + (1 : Int32)) z0_text z0_size y15 z0_fault z1_steps z1_size z1_parts z1_readsTime).bind (fun q16 => (mCursor_isFine q16.2.1).bind (fun q17 => (if q17 = 0 then some (q16.1, q16.2.1, q16.2.2.1, q16.2.2.2.1, q16.2.2.2.2.1, q16.2.2.2.2.2) else (mCursor_takeSign 8 z0_text z0_size q16.1).bind (fun q19 => (if q19.1 = (-1 : Int32) then (mCursor_fail (0 : Int32) q19.2 q16.2.1).bind (fun q21 => some (q19.2, q21, q16.2.2.1, q16.2.2.2.1, q16.2.2.2.2.1, q16.2.2.2.2.2)) else some (q19.2, q16.2.1, q16.2.2.1, q16.2.2.2.1, q16.2.2.2.2.1, q16.2.2.2.2.2)))))))) else (rF (x2 + (1 : Int32)) z0_text z0_size z0_at z0_fault z1_steps z1_size z1_parts z1_readsTime).bind (fun q22 => (mRule_add (2 : Int32) (0 : Int32) q22.2.2.1 q22.2.2.2.1 q22.2.2.2.2.2).bind (fun q23 => some (q22.1, q22.2.1, q23.1, q23.2.1, q22.2.2.2.2.1, q23.2.2))))
set_option maxHeartbeats 4000000 in
set_option maxRecDepth 20000 in
theorem cRuleReader_readFactB_j63 {q : Int32 × Int32 × (Nat → Int32) × Int32 × Int32 × Int32} {x2 : Int32} {x3 : Int32} {x5 : Int32} {rT : Int32 → (Nat → Int32) → Int32 → Int32 → Int32 → (Nat → Int32) → Int32 → Int32 → Int32 → Option (Int32 × Int32 × (Nat → Int32) × Int32 × Int32 × Int32)} (hrT : ∀ (x2 : Int32) (z0_text : Nat → Int32) (z0_size : Int32) (z0_at : Int32) (z0_fault : Int32) (z1_steps : Nat → Int32) (z1_size : Int32) (z1_parts : Int32) (z1_readsTime : Int32) (q' : Int32 × Int32 × (Nat → Int32) × Int32 × Int32 × Int32), rT x2 z0_text z0_size z0_at z0_fault z1_steps z1_size z1_parts z1_readsTime = some q' → rMet l D Z (ty7 K) (MRuleReader_readTest d) [.ref (a0 0), .ref (a1 0), .int x2] (List.flatten [bCursor K a0 z0_text z0_size z0_at z0_fault, bRule K a1 z1_steps z1_size z1_sumFrom z1_testFrom z1_testTo z1_clauses z1_parts z1_readsTime z1_words z1_stack]) (List.flatten [bCursor K a0 z0_text z0_size q'.1 q'.2.1, bRule K a1 q'.2.2.1 q'.2.2.2.1 z1_sumFrom z1_testFrom z1_testTo z1_clauses q'.2.2.2.2.1 q'.2.2.2.2.2 z1_words z1_stack]) none) {rF : Int32 → (Nat → Int32) → Int32 → Int32 → Int32 → (Nat → Int32) → Int32 → Int32 → Int32 → Option (Int32 × Int32 × (Nat → Int32) × Int32 × Int32 × Int32)} (hrF : ∀ (x2 : Int32) (z0_text : Nat → Int32) (z0_size : Int32) (z0_at : Int32) (z0_fault : Int32) (z1_steps : Nat → Int32) (z1_size : Int32) (z1_parts : Int32) (z1_readsTime : Int32) (q' : Int32 × Int32 × (Nat → Int32) × Int32 × Int32 × Int32), rF x2 z0_text z0_size z0_at z0_fault z1_steps z1_size z1_parts z1_readsTime = some q' → rMet l D Z (ty7 K) (MRuleReader_readFact d) [.ref (a0 0), .ref (a1 0), .int x2] (List.flatten [bCursor K a0 z0_text z0_size z0_at z0_fault, bRule K a1 z1_steps z1_size z1_sumFrom z1_testFrom z1_testTo z1_clauses z1_parts z1_readsTime z1_words z1_stack]) (List.flatten [bCursor K a0 z0_text z0_size q'.1 q'.2.1, bRule K a1 q'.2.2.1 q'.2.2.2.1 z1_sumFrom z1_testFrom z1_testTo z1_clauses q'.2.2.2.2.1 q'.2.2.2.2.2 z1_words z1_stack]) none)  (h : mRuleReader_readFactB_j63 rT rF x2 x3 x5 z0_text z0_size z0_at z0_fault z1_steps z1_size z1_parts z1_readsTime = some q) : rW l D Z (ty7 K) (MRuleReader_readFact (d + 1)) 63 [(0, .ref (a0 0)), (1, .ref (a1 0)), (2, .int x2), (3, .int x3), (5, .int x5)] [] (List.flatten [bCursor K a0 z0_text z0_size z0_at z0_fault, bRule K a1 z1_steps z1_size z1_sumFrom z1_testFrom z1_testTo z1_clauses z1_parts z1_readsTime z1_words z1_stack]) (List.flatten [bCursor K a0 z0_text z0_size q.1 q.2.1, bRule K a1 q.2.2.1 q.2.2.2.1 z1_sumFrom z1_testFrom z1_testTo z1_clauses q.2.2.2.2.1 q.2.2.2.2.2 z1_words z1_stack]) none := by
  unfold mRuleReader_readFactB_j63 at h
  refine r_iload 4 dX7_readFact_63 rfl ?_
  refine r_if_eq 85 dX7_readFact_65 (by decide) (fun c7 => ?_) (fun c7 => ?_)
  · replace h := it_pos c7 h
    refine r_iload_n 3 dX7_readFact_85 rfl ?_
    refine r_if_eq 136 dX7_readFact_86 (by decide) (fun c8 => ?_) (fun c8 => ?_)
    · replace h := it_pos c8 h
      refine r_aload_n 0 dX7_readFact_136 rfl ?_
      refine r_aload_n 1 dX7_readFact_137 rfl ?_
      obtain ⟨q9, h9, h⟩ := bd_some h
      refine b_callS (isC := [0, 1]) (st := []) (bs1 := [bCursor K a0 z0_text z0_size q9.1 q9.2.1, bRule K a1 q9.2.2.1 q9.2.2.2.1 z1_sumFrom z1_testFrom z1_testTo z1_clauses q9.2.2.2.2.1 q9.2.2.2.2.2 z1_words z1_stack]) (cRuleReader_readSum (a0 := a0) (a1 := a1) (z0_text := z0_text) (z0_size := z0_size) (z0_at := z0_at) (z0_fault := z0_fault) (z1_steps := z1_steps) (z1_size := z1_size) (z1_sumFrom := z1_sumFrom) (z1_testFrom := z1_testFrom) (z1_testTo := z1_testTo) (z1_clauses := z1_clauses) (z1_parts := z1_parts) (z1_readsTime := z1_readsTime) (z1_words := z1_words) (z1_stack := z1_stack) h9) rfl rfl (Nat.le_of_ble_eq_true rfl) kRuleReader_readSum (tb_in (i := 9) (j := 7) rfl rfl) (by show 9 < 10 + (d + 1); omega) (by decide) rfl rfl rfl dX7_readFact_138 ?_
      refine r_aload_n 0 dX7_readFact_141 rfl ?_
      refine r_aload_n 1 dX7_readFact_142 rfl ?_
      obtain ⟨q10, h10, h⟩ := bd_some h
      refine b_callS (isC := [0, 1]) (st := []) (bs1 := [bCursor K a0 z0_text z0_size q10.2.1 q10.2.2.1, bRule K a1 q9.2.2.1 q9.2.2.2.1 z1_sumFrom z1_testFrom z1_testTo z1_clauses q10.2.2.2 q9.2.2.2.2.2 z1_words z1_stack]) (cRuleReader_readSign (a0 := a0) (a1 := a1) (z0_text := z0_text) (z0_size := z0_size) (z0_at := q9.1) (z0_fault := q9.2.1) (z1_steps := q9.2.2.1) (z1_size := q9.2.2.2.1) (z1_sumFrom := z1_sumFrom) (z1_testFrom := z1_testFrom) (z1_testTo := z1_testTo) (z1_clauses := z1_clauses) (z1_parts := q9.2.2.2.2.1) (z1_readsTime := q9.2.2.2.2.2) (z1_words := z1_words) (z1_stack := z1_stack) h10) rfl rfl (Nat.le_of_ble_eq_true rfl) kRuleReader_readSign (tb_in (i := 9) (j := 9) rfl rfl) (by show 8 < 10 + (d + 1); omega) (by decide) rfl rfl rfl dX7_readFact_143 ?_
      refine r_istore (lv' := [(6, .int q10.1), (0, .ref (a0 0)), (1, .ref (a1 0)), (2, .int x2), (3, .int x3), (5, .int x5)]) dX7_readFact_146 (Nat.le_of_ble_eq_true rfl) rfl ?_
      refine r_aload_n 1 dX7_readFact_148 rfl ?_
      obtain ⟨q11, h11, h⟩ := bd_some h
      refine b_callVN (isC := [0]) (ci := 0)  (st := []) (bs1 := [bCursor K a0 z0_text z0_size q10.2.1 q10.2.2.1, bRule K a1 q9.2.2.1 q9.2.2.2.1 z1_sumFrom z1_testFrom z1_testTo z1_clauses q10.2.2.2 q9.2.2.2.2.2 z1_words z1_stack]) (cCursor_isFine (a0 := a0) (z0_text := z0_text) (z0_size := z0_size) (z0_at := q10.2.1) (z0_fault := q10.2.2.1) h11) rfl rfl (Nat.le_of_ble_eq_true rfl) kCursor_isFine (List.mem_of_getElem? (i := 38) rfl) (by show 1 < 10 + (d + 1); omega) (by decide) rfl rfl rfl rfl rfl rfl rfl dX7_readFact_149 ?_
      refine r_if_eq 168 dX7_readFact_152 (by decide) (fun c12 => ?_) (fun c12 => ?_)
      · replace h := it_pos c12 h
        have hq := Option.some.inj h
        subst hq
        exact r_vret rfl dX7_readFact_168
      · replace h := it_neg c12 h
        refine r_aload_n 1 dX7_readFact_155 rfl ?_
        refine r_aload_n 2 dX7_readFact_156 rfl ?_
        obtain ⟨q13, h13, h⟩ := bd_some h
        refine b_callS (isC := [0, 1]) (st := []) (bs1 := [bCursor K a0 z0_text z0_size q13.1 q13.2.1, bRule K a1 q13.2.2.1 q13.2.2.2.1 z1_sumFrom z1_testFrom z1_testTo z1_clauses q13.2.2.2.2.1 q13.2.2.2.2.2 z1_words z1_stack]) (cRuleReader_readSum (a0 := a0) (a1 := a1) (z0_text := z0_text) (z0_size := z0_size) (z0_at := q10.2.1) (z0_fault := q10.2.2.1) (z1_steps := q9.2.2.1) (z1_size := q9.2.2.2.1) (z1_sumFrom := z1_sumFrom) (z1_testFrom := z1_testFrom) (z1_testTo := z1_testTo) (z1_clauses := z1_clauses) (z1_parts := q10.2.2.2) (z1_readsTime := q9.2.2.2.2.2) (z1_words := z1_words) (z1_stack := z1_stack) h13) rfl rfl (Nat.le_of_ble_eq_true rfl) kRuleReader_readSum (tb_in (i := 9) (j := 7) rfl rfl) (by show 9 < 10 + (d + 1); omega) (by decide) rfl rfl rfl dX7_readFact_157 ?_
        refine r_aload_n 2 dX7_readFact_160 rfl ?_
        refine r_bipush (x := (10 : Int32)) dX7_readFact_161 (by decide) ?_
        refine r_iload 0 dX7_readFact_163 rfl ?_
        obtain ⟨q14, h14, h⟩ := bd_some h
        refine b_callVN (isC := [1]) (ci := 5)  (st := []) (bs1 := [bCursor K a0 z0_text z0_size q13.1 q13.2.1, bRule K a1 q14.1 q14.2.1 z1_sumFrom z1_testFrom z1_testTo z1_clauses q13.2.2.2.2.1 q14.2.2 z1_words z1_stack]) (cRule_add (a0 := a1) (z0_steps := q13.2.2.1) (z0_size := q13.2.2.2.1) (z0_sumFrom := z1_sumFrom) (z0_testFrom := z1_testFrom) (z0_testTo := z1_testTo) (z0_clauses := z1_clauses) (z0_parts := q13.2.2.2.2.1) (z0_readsTime := q13.2.2.2.2.2) (z0_words := z1_words) (z0_stack := z1_stack) h14) rfl rfl (Nat.le_of_ble_eq_true rfl) kRule_add (List.mem_of_getElem? (i := 39) rfl) (by show 1 < 10 + (d + 1); omega) (by decide) rfl rfl rfl rfl rfl rfl rfl dX7_readFact_165 ?_
        have hq := Option.some.inj h
        subst hq
        exact r_vret rfl dX7_readFact_168
    · replace h := it_neg c8 h
      refine r_aload_n 0 dX7_readFact_89 rfl ?_
      refine r_dup dX7_readFact_90 rfl ?_
      refine gCursor_atN 0 rfl (List.mem_of_getElem? (i := 5) rfl) dX7_readFact_91 ?_
      refine r_iconst (x := (1 : Int32)) dX7_readFact_94 (by decide) ?_
      refine r_iadd dX7_readFact_95 ?_
      obtain ⟨y15, e15, h⟩ := lt_some h
      refine r_top e15 ?_
      refine pCursor_atN (bs1 := [bCursor K a0 z0_text z0_size y15 z0_fault, bRule K a1 z1_steps z1_size z1_sumFrom z1_testFrom z1_testTo z1_clauses z1_parts z1_readsTime z1_words z1_stack]) 0 rfl rfl (List.mem_of_getElem? (i := 5) rfl) dX7_readFact_96 ?_
      refine r_aload_n 0 dX7_readFact_99 rfl ?_
      refine r_aload_n 1 dX7_readFact_100 rfl ?_
      refine r_iload_n 2 dX7_readFact_101 rfl ?_
      refine r_iconst (x := (1 : Int32)) dX7_readFact_102 (by decide) ?_
      refine r_iadd dX7_readFact_103 ?_
      obtain ⟨q16, h16, h⟩ := bd_some h
      refine b_callS (isC := [0, 1]) (st := []) (bs1 := [bCursor K a0 z0_text z0_size q16.1 q16.2.1, bRule K a1 q16.2.2.1 q16.2.2.2.1 z1_sumFrom z1_testFrom z1_testTo z1_clauses q16.2.2.2.2.1 q16.2.2.2.2.2 z1_words z1_stack]) (hrT _ _ _ _ _ _ _ _ _ _ h16) rfl rfl (Nat.le_of_ble_eq_true rfl) (kRuleReader_readTest d) (tb_in (i := 9) (j := 5) rfl rfl) (by show 10 + d < 10 + (d + 1); omega) (by decide) rfl rfl rfl dX7_readFact_104 ?_
      refine r_aload_n 0 dX7_readFact_107 rfl ?_
      obtain ⟨q17, h17, h⟩ := bd_some h
      refine b_callVN (isC := [0]) (ci := 0)  (st := []) (bs1 := [bCursor K a0 z0_text z0_size q16.1 q16.2.1, bRule K a1 q16.2.2.1 q16.2.2.2.1 z1_sumFrom z1_testFrom z1_testTo z1_clauses q16.2.2.2.2.1 q16.2.2.2.2.2 z1_words z1_stack]) (cCursor_isFine (a0 := a0) (z0_text := z0_text) (z0_size := z0_size) (z0_at := q16.1) (z0_fault := q16.2.1) h17) rfl rfl (Nat.le_of_ble_eq_true rfl) kCursor_isFine (List.mem_of_getElem? (i := 38) rfl) (by show 1 < 10 + (d + 1); omega) (by decide) rfl rfl rfl rfl rfl rfl rfl dX7_readFact_108 ?_
      refine r_if_eq 168 dX7_readFact_111 (by decide) (fun c18 => ?_) (fun c18 => ?_)
      · replace h := it_pos c18 h
        have hq := Option.some.inj h
        subst hq
        exact r_vret rfl dX7_readFact_168
      · replace h := it_neg c18 h
        refine r_aload_n 0 dX7_readFact_114 rfl ?_
        refine r_ldcS (tx := "]") (i := 8) (List.mem_of_getElem? (i := 8) rfl) dX7_readFact_115 ?_
        obtain ⟨q19, h19, h⟩ := bd_some h
        refine b_callVN (isC := [0]) (ci := 0)  (st := []) (bs1 := [bCursor K a0 z0_text z0_size q19.2 q16.2.1, bRule K a1 q16.2.2.1 q16.2.2.2.1 z1_sumFrom z1_testFrom z1_testTo z1_clauses q16.2.2.2.2.1 q16.2.2.2.2.2 z1_words z1_stack]) (cCursor_takeSign (a0 := a0) (z0_text := z0_text) (z0_size := z0_size) (z0_at := q16.1) (z0_fault := q16.2.1) h19) rfl rfl (Nat.le_of_ble_eq_true rfl) kCursor_takeSign (List.mem_of_getElem? (i := 40) rfl) (by show 7 < 10 + (d + 1); omega) (by decide) rfl rfl rfl rfl rfl rfl rfl dX7_readFact_117 ?_
        refine r_iconst (x := (-1 : Int32)) dX7_readFact_120 (by decide) ?_
        refine r_icmp_ne 168 dX7_readFact_121 (by decide) (fun c20 => ?_) (fun c20 => ?_)
        · replace h := it_neg c20 h
          have hq := Option.some.inj h
          subst hq
          exact r_vret rfl dX7_readFact_168
        · replace h := it_pos c20 h
          refine r_aload_n 0 dX7_readFact_124 rfl ?_
          refine r_iconst (x := (0 : Int32)) dX7_readFact_125 (by decide) ?_
          refine r_aload_n 0 dX7_readFact_126 rfl ?_
          refine gCursor_atN 0 rfl (List.mem_of_getElem? (i := 5) rfl) dX7_readFact_127 ?_
          obtain ⟨q21, h21, h⟩ := bd_some h
          refine b_callVN (isC := [0]) (ci := 0)  (st := []) (bs1 := [bCursor K a0 z0_text z0_size q19.2 q21, bRule K a1 q16.2.2.1 q16.2.2.2.1 z1_sumFrom z1_testFrom z1_testTo z1_clauses q16.2.2.2.2.1 q16.2.2.2.2.2 z1_words z1_stack]) (cCursor_fail (a0 := a0) (z0_text := z0_text) (z0_size := z0_size) (z0_at := q19.2) (z0_fault := q16.2.1) h21) rfl rfl (Nat.le_of_ble_eq_true rfl) kCursor_fail (List.mem_of_getElem? (i := 35) rfl) (by show 1 < 10 + (d + 1); omega) (by decide) rfl rfl rfl rfl rfl rfl rfl dX7_readFact_130 ?_
          refine r_goto 168 dX7_readFact_133 (by decide) ?_
          have hq := Option.some.inj h
          subst hq
          exact r_vret rfl dX7_readFact_168
  · replace h := it_neg c7 h
    refine r_aload_n 0 dX7_readFact_68 rfl ?_
    refine r_aload_n 1 dX7_readFact_69 rfl ?_
    refine r_iload_n 2 dX7_readFact_70 rfl ?_
    refine r_iconst (x := (1 : Int32)) dX7_readFact_71 (by decide) ?_
    refine r_iadd dX7_readFact_72 ?_
    obtain ⟨q22, h22, h⟩ := bd_some h
    refine b_callS (isC := [0, 1]) (st := []) (bs1 := [bCursor K a0 z0_text z0_size q22.1 q22.2.1, bRule K a1 q22.2.2.1 q22.2.2.2.1 z1_sumFrom z1_testFrom z1_testTo z1_clauses q22.2.2.2.2.1 q22.2.2.2.2.2 z1_words z1_stack]) (hrF _ _ _ _ _ _ _ _ _ _ h22) rfl rfl (Nat.le_of_ble_eq_true rfl) (kRuleReader_readFact d) (tb_in (i := 9) (j := 3) rfl rfl) (by show 10 + d < 10 + (d + 1); omega) (by decide) rfl rfl rfl dX7_readFact_73 ?_
    refine r_aload_n 1 dX7_readFact_76 rfl ?_
    refine r_iconst (x := (2 : Int32)) dX7_readFact_77 (by decide) ?_
    refine r_iconst (x := (0 : Int32)) dX7_readFact_78 (by decide) ?_
    obtain ⟨q23, h23, h⟩ := bd_some h
    refine b_callVN (isC := [1]) (ci := 5)  (st := []) (bs1 := [bCursor K a0 z0_text z0_size q22.1 q22.2.1, bRule K a1 q23.1 q23.2.1 z1_sumFrom z1_testFrom z1_testTo z1_clauses q22.2.2.2.2.1 q23.2.2 z1_words z1_stack]) (cRule_add (a0 := a1) (z0_steps := q22.2.2.1) (z0_size := q22.2.2.2.1) (z0_sumFrom := z1_sumFrom) (z0_testFrom := z1_testFrom) (z0_testTo := z1_testTo) (z0_clauses := z1_clauses) (z0_parts := q22.2.2.2.2.1) (z0_readsTime := q22.2.2.2.2.2) (z0_words := z1_words) (z0_stack := z1_stack) h23) rfl rfl (Nat.le_of_ble_eq_true rfl) kRule_add (List.mem_of_getElem? (i := 39) rfl) (by show 1 < 10 + (d + 1); omega) (by decide) rfl rfl rfl rfl rfl rfl rfl dX7_readFact_79 ?_
    refine r_goto 168 dX7_readFact_82 (by decide) ?_
    have hq := Option.some.inj h
    subst hq
    exact r_vret rfl dX7_readFact_168
def mRuleReader_readFactB_j47 (rT : Int32 → (Nat → Int32) → Int32 → Int32 → Int32 → (Nat → Int32) → Int32 → Int32 → Int32 → Option (Int32 × Int32 × (Nat → Int32) × Int32 × Int32 × Int32)) (rF : Int32 → (Nat → Int32) → Int32 → Int32 → Int32 → (Nat → Int32) → Int32 → Int32 → Int32 → Option (Int32 × Int32 × (Nat → Int32) × Int32 × Int32 × Int32)) (x2 : Int32) (x3 : Int32) (x4 : Int32) (x5 : Int32) (z0_text : Nat → Int32) (z0_size : Int32) (z0_at : Int32) (z0_fault : Int32) (z1_steps : Nat → Int32) (z1_size : Int32) (z1_parts : Int32) (z1_readsTime : Int32) : Option (Int32 × Int32 × (Nat → Int32) × Int32 × Int32 × Int32) := (if x2 < (10 : Int32) then mRuleReader_readFactB_j63 rT rF x2 x3 x5 z0_text z0_size z0_at z0_fault z1_steps z1_size z1_parts z1_readsTime else (mCursor_fail (2 : Int32) x4 z0_fault).bind (fun q24 => some (z0_at, q24, z1_steps, z1_size, z1_parts, z1_readsTime)))
set_option maxHeartbeats 4000000 in
set_option maxRecDepth 20000 in
theorem cRuleReader_readFactB_j47 {q : Int32 × Int32 × (Nat → Int32) × Int32 × Int32 × Int32} {x2 : Int32} {x3 : Int32} {x4 : Int32} {x5 : Int32} {rT : Int32 → (Nat → Int32) → Int32 → Int32 → Int32 → (Nat → Int32) → Int32 → Int32 → Int32 → Option (Int32 × Int32 × (Nat → Int32) × Int32 × Int32 × Int32)} (hrT : ∀ (x2 : Int32) (z0_text : Nat → Int32) (z0_size : Int32) (z0_at : Int32) (z0_fault : Int32) (z1_steps : Nat → Int32) (z1_size : Int32) (z1_parts : Int32) (z1_readsTime : Int32) (q' : Int32 × Int32 × (Nat → Int32) × Int32 × Int32 × Int32), rT x2 z0_text z0_size z0_at z0_fault z1_steps z1_size z1_parts z1_readsTime = some q' → rMet l D Z (ty7 K) (MRuleReader_readTest d) [.ref (a0 0), .ref (a1 0), .int x2] (List.flatten [bCursor K a0 z0_text z0_size z0_at z0_fault, bRule K a1 z1_steps z1_size z1_sumFrom z1_testFrom z1_testTo z1_clauses z1_parts z1_readsTime z1_words z1_stack]) (List.flatten [bCursor K a0 z0_text z0_size q'.1 q'.2.1, bRule K a1 q'.2.2.1 q'.2.2.2.1 z1_sumFrom z1_testFrom z1_testTo z1_clauses q'.2.2.2.2.1 q'.2.2.2.2.2 z1_words z1_stack]) none) {rF : Int32 → (Nat → Int32) → Int32 → Int32 → Int32 → (Nat → Int32) → Int32 → Int32 → Int32 → Option (Int32 × Int32 × (Nat → Int32) × Int32 × Int32 × Int32)} (hrF : ∀ (x2 : Int32) (z0_text : Nat → Int32) (z0_size : Int32) (z0_at : Int32) (z0_fault : Int32) (z1_steps : Nat → Int32) (z1_size : Int32) (z1_parts : Int32) (z1_readsTime : Int32) (q' : Int32 × Int32 × (Nat → Int32) × Int32 × Int32 × Int32), rF x2 z0_text z0_size z0_at z0_fault z1_steps z1_size z1_parts z1_readsTime = some q' → rMet l D Z (ty7 K) (MRuleReader_readFact d) [.ref (a0 0), .ref (a1 0), .int x2] (List.flatten [bCursor K a0 z0_text z0_size z0_at z0_fault, bRule K a1 z1_steps z1_size z1_sumFrom z1_testFrom z1_testTo z1_clauses z1_parts z1_readsTime z1_words z1_stack]) (List.flatten [bCursor K a0 z0_text z0_size q'.1 q'.2.1, bRule K a1 q'.2.2.1 q'.2.2.2.1 z1_sumFrom z1_testFrom z1_testTo z1_clauses q'.2.2.2.2.1 q'.2.2.2.2.2 z1_words z1_stack]) none)  (h : mRuleReader_readFactB_j47 rT rF x2 x3 x4 x5 z0_text z0_size z0_at z0_fault z1_steps z1_size z1_parts z1_readsTime = some q) : rW l D Z (ty7 K) (MRuleReader_readFact (d + 1)) 47 [(0, .ref (a0 0)), (1, .ref (a1 0)), (2, .int x2), (3, .int x3), (4, .int x4), (5, .int x5)] [] (List.flatten [bCursor K a0 z0_text z0_size z0_at z0_fault, bRule K a1 z1_steps z1_size z1_sumFrom z1_testFrom z1_testTo z1_clauses z1_parts z1_readsTime z1_words z1_stack]) (List.flatten [bCursor K a0 z0_text z0_size q.1 q.2.1, bRule K a1 q.2.2.1 q.2.2.2.1 z1_sumFrom z1_testFrom z1_testTo z1_clauses q.2.2.2.2.1 q.2.2.2.2.2 z1_words z1_stack]) none := by
  unfold mRuleReader_readFactB_j47 at h
  refine r_iload_n 2 dX7_readFact_47 rfl ?_
  refine r_bipush (x := (10 : Int32)) dX7_readFact_48 (by decide) ?_
  refine r_icmp_lt 63 dX7_readFact_50 (by decide) (fun c6 => ?_) (fun c6 => ?_)
  · replace h := it_pos c6 h
    refine r_sub (lv' := [(0, .ref (a0 0)), (1, .ref (a1 0)), (2, .int x2), (3, .int x3), (5, .int x5)]) [0, 1, 2, 3, 5] rfl ?_
    exact cRuleReader_readFactB_j63  hrT hrF h
  · replace h := it_neg c6 h
    refine r_aload_n 0 dX7_readFact_53 rfl ?_
    refine r_iconst (x := (2 : Int32)) dX7_readFact_54 (by decide) ?_
    refine r_iload 4 dX7_readFact_55 rfl ?_
    obtain ⟨q24, h24, h⟩ := bd_some h
    refine b_callVN (isC := [0]) (ci := 0)  (st := []) (bs1 := [bCursor K a0 z0_text z0_size z0_at q24, bRule K a1 z1_steps z1_size z1_sumFrom z1_testFrom z1_testTo z1_clauses z1_parts z1_readsTime z1_words z1_stack]) (cCursor_fail (a0 := a0) (z0_text := z0_text) (z0_size := z0_size) (z0_at := z0_at) (z0_fault := z0_fault) h24) rfl rfl (Nat.le_of_ble_eq_true rfl) kCursor_fail (List.mem_of_getElem? (i := 35) rfl) (by show 1 < 10 + (d + 1); omega) (by decide) rfl rfl rfl rfl rfl rfl rfl dX7_readFact_57 ?_
    refine r_goto 168 dX7_readFact_60 (by decide) ?_
    have hq := Option.some.inj h
    subst hq
    exact r_vret rfl dX7_readFact_168
def mRuleReader_readFactB_j36 (rT : Int32 → (Nat → Int32) → Int32 → Int32 → Int32 → (Nat → Int32) → Int32 → Int32 → Int32 → Option (Int32 × Int32 × (Nat → Int32) × Int32 × Int32 × Int32)) (rF : Int32 → (Nat → Int32) → Int32 → Int32 → Int32 → (Nat → Int32) → Int32 → Int32 → Int32 → Option (Int32 × Int32 × (Nat → Int32) × Int32 × Int32 × Int32)) (x2 : Int32) (x3 : Int32) (x4 : Int32) (z0_text : Nat → Int32) (z0_size : Int32) (z0_at : Int32) (z0_fault : Int32) (z1_steps : Nat → Int32) (z1_size : Int32) (z1_parts : Int32) (z1_readsTime : Int32) (s0 : Int32) : Option (Int32 × Int32 × (Nat → Int32) × Int32 × Int32 × Int32) := (if x3 = 0 then (if s0 = 0 then mRuleReader_readFactB_j63 rT rF x2 x3 s0 z0_text z0_size z0_at z0_fault z1_steps z1_size z1_parts z1_readsTime else mRuleReader_readFactB_j47 rT rF x2 x3 x4 s0 z0_text z0_size z0_at z0_fault z1_steps z1_size z1_parts z1_readsTime) else mRuleReader_readFactB_j47 rT rF x2 x3 x4 s0 z0_text z0_size z0_at z0_fault z1_steps z1_size z1_parts z1_readsTime)
set_option maxHeartbeats 4000000 in
set_option maxRecDepth 20000 in
theorem cRuleReader_readFactB_j36 {q : Int32 × Int32 × (Nat → Int32) × Int32 × Int32 × Int32} {x2 : Int32} {x3 : Int32} {x4 : Int32} {s0 : Int32} {rT : Int32 → (Nat → Int32) → Int32 → Int32 → Int32 → (Nat → Int32) → Int32 → Int32 → Int32 → Option (Int32 × Int32 × (Nat → Int32) × Int32 × Int32 × Int32)} (hrT : ∀ (x2 : Int32) (z0_text : Nat → Int32) (z0_size : Int32) (z0_at : Int32) (z0_fault : Int32) (z1_steps : Nat → Int32) (z1_size : Int32) (z1_parts : Int32) (z1_readsTime : Int32) (q' : Int32 × Int32 × (Nat → Int32) × Int32 × Int32 × Int32), rT x2 z0_text z0_size z0_at z0_fault z1_steps z1_size z1_parts z1_readsTime = some q' → rMet l D Z (ty7 K) (MRuleReader_readTest d) [.ref (a0 0), .ref (a1 0), .int x2] (List.flatten [bCursor K a0 z0_text z0_size z0_at z0_fault, bRule K a1 z1_steps z1_size z1_sumFrom z1_testFrom z1_testTo z1_clauses z1_parts z1_readsTime z1_words z1_stack]) (List.flatten [bCursor K a0 z0_text z0_size q'.1 q'.2.1, bRule K a1 q'.2.2.1 q'.2.2.2.1 z1_sumFrom z1_testFrom z1_testTo z1_clauses q'.2.2.2.2.1 q'.2.2.2.2.2 z1_words z1_stack]) none) {rF : Int32 → (Nat → Int32) → Int32 → Int32 → Int32 → (Nat → Int32) → Int32 → Int32 → Int32 → Option (Int32 × Int32 × (Nat → Int32) × Int32 × Int32 × Int32)} (hrF : ∀ (x2 : Int32) (z0_text : Nat → Int32) (z0_size : Int32) (z0_at : Int32) (z0_fault : Int32) (z1_steps : Nat → Int32) (z1_size : Int32) (z1_parts : Int32) (z1_readsTime : Int32) (q' : Int32 × Int32 × (Nat → Int32) × Int32 × Int32 × Int32), rF x2 z0_text z0_size z0_at z0_fault z1_steps z1_size z1_parts z1_readsTime = some q' → rMet l D Z (ty7 K) (MRuleReader_readFact d) [.ref (a0 0), .ref (a1 0), .int x2] (List.flatten [bCursor K a0 z0_text z0_size z0_at z0_fault, bRule K a1 z1_steps z1_size z1_sumFrom z1_testFrom z1_testTo z1_clauses z1_parts z1_readsTime z1_words z1_stack]) (List.flatten [bCursor K a0 z0_text z0_size q'.1 q'.2.1, bRule K a1 q'.2.2.1 q'.2.2.2.1 z1_sumFrom z1_testFrom z1_testTo z1_clauses q'.2.2.2.2.1 q'.2.2.2.2.2 z1_words z1_stack]) none)  (h : mRuleReader_readFactB_j36 rT rF x2 x3 x4 z0_text z0_size z0_at z0_fault z1_steps z1_size z1_parts z1_readsTime s0 = some q) : rW l D Z (ty7 K) (MRuleReader_readFact (d + 1)) 36 [(0, .ref (a0 0)), (1, .ref (a1 0)), (2, .int x2), (3, .int x3), (4, .int x4)] [.int s0] (List.flatten [bCursor K a0 z0_text z0_size z0_at z0_fault, bRule K a1 z1_steps z1_size z1_sumFrom z1_testFrom z1_testTo z1_clauses z1_parts z1_readsTime z1_words z1_stack]) (List.flatten [bCursor K a0 z0_text z0_size q.1 q.2.1, bRule K a1 q.2.2.1 q.2.2.2.1 z1_sumFrom z1_testFrom z1_testTo z1_clauses q.2.2.2.2.1 q.2.2.2.2.2 z1_words z1_stack]) none := by
  unfold mRuleReader_readFactB_j36 at h
  refine r_istore (lv' := [(5, .int s0), (0, .ref (a0 0)), (1, .ref (a1 0)), (2, .int x2), (3, .int x3), (4, .int x4)]) dX7_readFact_36 (Nat.le_of_ble_eq_true rfl) rfl ?_
  refine r_iload_n 4 dX7_readFact_38 rfl ?_
  refine r_if_ne 47 dX7_readFact_39 (by decide) (fun c5 => ?_) (fun c5 => ?_)
  · replace h := it_neg c5 h
    refine r_sub (lv' := [(0, .ref (a0 0)), (1, .ref (a1 0)), (2, .int x2), (3, .int x3), (4, .int x4), (5, .int s0)]) [1, 2, 3, 4, 5, 0] rfl ?_
    exact cRuleReader_readFactB_j47  hrT hrF h
  · replace h := it_pos c5 h
    refine r_iload 0 dX7_readFact_42 rfl ?_
    refine r_if_eq 63 dX7_readFact_44 (by decide) (fun c25 => ?_) (fun c25 => ?_)
    · replace h := it_pos c25 h
      refine r_sub (lv' := [(0, .ref (a0 0)), (1, .ref (a1 0)), (2, .int x2), (3, .int x3), (5, .int s0)]) [1, 2, 3, 4, 0] rfl ?_
      exact cRuleReader_readFactB_j63  hrT hrF h
    · replace h := it_neg c25 h
      refine r_sub (lv' := [(0, .ref (a0 0)), (1, .ref (a1 0)), (2, .int x2), (3, .int x3), (4, .int x4), (5, .int s0)]) [1, 2, 3, 4, 5, 0] rfl ?_
      exact cRuleReader_readFactB_j47  hrT hrF h
def mRuleReader_readFactB_j14 (rT : Int32 → (Nat → Int32) → Int32 → Int32 → Int32 → (Nat → Int32) → Int32 → Int32 → Int32 → Option (Int32 × Int32 × (Nat → Int32) × Int32 × Int32 × Int32)) (rF : Int32 → (Nat → Int32) → Int32 → Int32 → Int32 → (Nat → Int32) → Int32 → Int32 → Int32 → Option (Int32 × Int32 × (Nat → Int32) × Int32 × Int32 × Int32)) (x2 : Int32) (z0_text : Nat → Int32) (z0_size : Int32) (z0_at : Int32) (z0_fault : Int32) (z1_steps : Nat → Int32) (z1_size : Int32) (z1_parts : Int32) (z1_readsTime : Int32) (s0 : Int32) : Option (Int32 × Int32 × (Nat → Int32) × Int32 × Int32 × Int32) := (mCursor_takeWord 7 z0_text z0_size z0_at).bind (fun q3 => (if q3.1 = (-1 : Int32) then mRuleReader_readFactB_j36 rT rF x2 s0 z0_at z0_text z0_size q3.2 z0_fault z1_steps z1_size z1_parts z1_readsTime (0 : Int32) else mRuleReader_readFactB_j36 rT rF x2 s0 z0_at z0_text z0_size q3.2 z0_fault z1_steps z1_size z1_parts z1_readsTime (1 : Int32)))
set_option maxHeartbeats 4000000 in
set_option maxRecDepth 20000 in
theorem cRuleReader_readFactB_j14 {q : Int32 × Int32 × (Nat → Int32) × Int32 × Int32 × Int32} {x2 : Int32} {s0 : Int32} {rT : Int32 → (Nat → Int32) → Int32 → Int32 → Int32 → (Nat → Int32) → Int32 → Int32 → Int32 → Option (Int32 × Int32 × (Nat → Int32) × Int32 × Int32 × Int32)} (hrT : ∀ (x2 : Int32) (z0_text : Nat → Int32) (z0_size : Int32) (z0_at : Int32) (z0_fault : Int32) (z1_steps : Nat → Int32) (z1_size : Int32) (z1_parts : Int32) (z1_readsTime : Int32) (q' : Int32 × Int32 × (Nat → Int32) × Int32 × Int32 × Int32), rT x2 z0_text z0_size z0_at z0_fault z1_steps z1_size z1_parts z1_readsTime = some q' → rMet l D Z (ty7 K) (MRuleReader_readTest d) [.ref (a0 0), .ref (a1 0), .int x2] (List.flatten [bCursor K a0 z0_text z0_size z0_at z0_fault, bRule K a1 z1_steps z1_size z1_sumFrom z1_testFrom z1_testTo z1_clauses z1_parts z1_readsTime z1_words z1_stack]) (List.flatten [bCursor K a0 z0_text z0_size q'.1 q'.2.1, bRule K a1 q'.2.2.1 q'.2.2.2.1 z1_sumFrom z1_testFrom z1_testTo z1_clauses q'.2.2.2.2.1 q'.2.2.2.2.2 z1_words z1_stack]) none) {rF : Int32 → (Nat → Int32) → Int32 → Int32 → Int32 → (Nat → Int32) → Int32 → Int32 → Int32 → Option (Int32 × Int32 × (Nat → Int32) × Int32 × Int32 × Int32)} (hrF : ∀ (x2 : Int32) (z0_text : Nat → Int32) (z0_size : Int32) (z0_at : Int32) (z0_fault : Int32) (z1_steps : Nat → Int32) (z1_size : Int32) (z1_parts : Int32) (z1_readsTime : Int32) (q' : Int32 × Int32 × (Nat → Int32) × Int32 × Int32 × Int32), rF x2 z0_text z0_size z0_at z0_fault z1_steps z1_size z1_parts z1_readsTime = some q' → rMet l D Z (ty7 K) (MRuleReader_readFact d) [.ref (a0 0), .ref (a1 0), .int x2] (List.flatten [bCursor K a0 z0_text z0_size z0_at z0_fault, bRule K a1 z1_steps z1_size z1_sumFrom z1_testFrom z1_testTo z1_clauses z1_parts z1_readsTime z1_words z1_stack]) (List.flatten [bCursor K a0 z0_text z0_size q'.1 q'.2.1, bRule K a1 q'.2.2.1 q'.2.2.2.1 z1_sumFrom z1_testFrom z1_testTo z1_clauses q'.2.2.2.2.1 q'.2.2.2.2.2 z1_words z1_stack]) none)  (h : mRuleReader_readFactB_j14 rT rF x2 z0_text z0_size z0_at z0_fault z1_steps z1_size z1_parts z1_readsTime s0 = some q) : rW l D Z (ty7 K) (MRuleReader_readFact (d + 1)) 14 [(0, .ref (a0 0)), (1, .ref (a1 0)), (2, .int x2)] [.int s0] (List.flatten [bCursor K a0 z0_text z0_size z0_at z0_fault, bRule K a1 z1_steps z1_size z1_sumFrom z1_testFrom z1_testTo z1_clauses z1_parts z1_readsTime z1_words z1_stack]) (List.flatten [bCursor K a0 z0_text z0_size q.1 q.2.1, bRule K a1 q.2.2.1 q.2.2.2.1 z1_sumFrom z1_testFrom z1_testTo z1_clauses q.2.2.2.2.1 q.2.2.2.2.2 z1_words z1_stack]) none := by
  unfold mRuleReader_readFactB_j14 at h
  refine r_istore_n (lv' := [(3, .int s0), (0, .ref (a0 0)), (1, .ref (a1 0)), (2, .int x2)]) dX7_readFact_14 (Nat.le_of_ble_eq_true rfl) rfl ?_
  refine r_aload_n 1 dX7_readFact_15 rfl ?_
  refine gCursor_atN 0 rfl (List.mem_of_getElem? (i := 5) rfl) dX7_readFact_16 ?_
  refine r_istore (lv' := [(4, .int z0_at), (3, .int s0), (0, .ref (a0 0)), (1, .ref (a1 0)), (2, .int x2)]) dX7_readFact_19 (Nat.le_of_ble_eq_true rfl) rfl ?_
  refine r_aload_n 2 dX7_readFact_21 rfl ?_
  refine r_ldcS (tx := "not ") (i := 7) (List.mem_of_getElem? (i := 7) rfl) dX7_readFact_22 ?_
  obtain ⟨q3, h3, h⟩ := bd_some h
  refine b_callVN (isC := [0]) (ci := 0)  (st := []) (bs1 := [bCursor K a0 z0_text z0_size q3.2 z0_fault, bRule K a1 z1_steps z1_size z1_sumFrom z1_testFrom z1_testTo z1_clauses z1_parts z1_readsTime z1_words z1_stack]) (cCursor_takeWord (a0 := a0) (z0_text := z0_text) (z0_size := z0_size) (z0_at := z0_at) (z0_fault := z0_fault) h3) rfl rfl (Nat.le_of_ble_eq_true rfl) kCursor_takeWord (List.mem_of_getElem? (i := 34) rfl) (by show 7 < 10 + (d + 1); omega) (by decide) rfl rfl rfl rfl rfl rfl rfl dX7_readFact_24 ?_
  refine r_iconst (x := (-1 : Int32)) dX7_readFact_27 (by decide) ?_
  refine r_icmp_eq 35 dX7_readFact_28 (by decide) (fun c4 => ?_) (fun c4 => ?_)
  · replace h := it_pos c4 h
    refine r_iconst (x := (0 : Int32)) dX7_readFact_35 (by decide) ?_
    refine r_sub (lv' := [(0, .ref (a0 0)), (1, .ref (a1 0)), (2, .int x2), (3, .int s0), (4, .int z0_at)]) [2, 3, 4, 1, 0] rfl ?_
    exact cRuleReader_readFactB_j36  hrT hrF h
  · replace h := it_neg c4 h
    refine r_iconst (x := (1 : Int32)) dX7_readFact_31 (by decide) ?_
    refine r_goto 36 dX7_readFact_32 (by decide) ?_
    refine r_sub (lv' := [(0, .ref (a0 0)), (1, .ref (a1 0)), (2, .int x2), (3, .int s0), (4, .int z0_at)]) [2, 3, 4, 1, 0] rfl ?_
    exact cRuleReader_readFactB_j36  hrT hrF h
def mRuleReader_readFactB (rT : Int32 → (Nat → Int32) → Int32 → Int32 → Int32 → (Nat → Int32) → Int32 → Int32 → Int32 → Option (Int32 × Int32 × (Nat → Int32) × Int32 × Int32 × Int32)) (rF : Int32 → (Nat → Int32) → Int32 → Int32 → Int32 → (Nat → Int32) → Int32 → Int32 → Int32 → Option (Int32 × Int32 × (Nat → Int32) × Int32 × Int32 × Int32)) (x2 : Int32) (z0_text : Nat → Int32) (z0_size : Int32) (z0_at : Int32) (z0_fault : Int32) (z1_steps : Nat → Int32) (z1_size : Int32) (z1_parts : Int32) (z1_readsTime : Int32) : Option (Int32 × Int32 × (Nat → Int32) × Int32 × Int32 × Int32) := (mCursor_peek z0_text z0_size z0_at).bind (fun q1 => (if q1.1 = (91 : Int32) then mRuleReader_readFactB_j14 rT rF x2 z0_text z0_size q1.2 z0_fault z1_steps z1_size z1_parts z1_readsTime (1 : Int32) else mRuleReader_readFactB_j14 rT rF x2 z0_text z0_size q1.2 z0_fault z1_steps z1_size z1_parts z1_readsTime (0 : Int32)))
set_option maxHeartbeats 4000000 in
set_option maxRecDepth 20000 in
theorem cRuleReader_readFactB {q : Int32 × Int32 × (Nat → Int32) × Int32 × Int32 × Int32} {x2 : Int32} {rT : Int32 → (Nat → Int32) → Int32 → Int32 → Int32 → (Nat → Int32) → Int32 → Int32 → Int32 → Option (Int32 × Int32 × (Nat → Int32) × Int32 × Int32 × Int32)} (hrT : ∀ (x2 : Int32) (z0_text : Nat → Int32) (z0_size : Int32) (z0_at : Int32) (z0_fault : Int32) (z1_steps : Nat → Int32) (z1_size : Int32) (z1_parts : Int32) (z1_readsTime : Int32) (q' : Int32 × Int32 × (Nat → Int32) × Int32 × Int32 × Int32), rT x2 z0_text z0_size z0_at z0_fault z1_steps z1_size z1_parts z1_readsTime = some q' → rMet l D Z (ty7 K) (MRuleReader_readTest d) [.ref (a0 0), .ref (a1 0), .int x2] (List.flatten [bCursor K a0 z0_text z0_size z0_at z0_fault, bRule K a1 z1_steps z1_size z1_sumFrom z1_testFrom z1_testTo z1_clauses z1_parts z1_readsTime z1_words z1_stack]) (List.flatten [bCursor K a0 z0_text z0_size q'.1 q'.2.1, bRule K a1 q'.2.2.1 q'.2.2.2.1 z1_sumFrom z1_testFrom z1_testTo z1_clauses q'.2.2.2.2.1 q'.2.2.2.2.2 z1_words z1_stack]) none) {rF : Int32 → (Nat → Int32) → Int32 → Int32 → Int32 → (Nat → Int32) → Int32 → Int32 → Int32 → Option (Int32 × Int32 × (Nat → Int32) × Int32 × Int32 × Int32)} (hrF : ∀ (x2 : Int32) (z0_text : Nat → Int32) (z0_size : Int32) (z0_at : Int32) (z0_fault : Int32) (z1_steps : Nat → Int32) (z1_size : Int32) (z1_parts : Int32) (z1_readsTime : Int32) (q' : Int32 × Int32 × (Nat → Int32) × Int32 × Int32 × Int32), rF x2 z0_text z0_size z0_at z0_fault z1_steps z1_size z1_parts z1_readsTime = some q' → rMet l D Z (ty7 K) (MRuleReader_readFact d) [.ref (a0 0), .ref (a1 0), .int x2] (List.flatten [bCursor K a0 z0_text z0_size z0_at z0_fault, bRule K a1 z1_steps z1_size z1_sumFrom z1_testFrom z1_testTo z1_clauses z1_parts z1_readsTime z1_words z1_stack]) (List.flatten [bCursor K a0 z0_text z0_size q'.1 q'.2.1, bRule K a1 q'.2.2.1 q'.2.2.2.1 z1_sumFrom z1_testFrom z1_testTo z1_clauses q'.2.2.2.2.1 q'.2.2.2.2.2 z1_words z1_stack]) none) (h : mRuleReader_readFactB rT rF x2 z0_text z0_size z0_at z0_fault z1_steps z1_size z1_parts z1_readsTime = some q) : rMet l D Z (ty7 K) (MRuleReader_readFact (d + 1)) [.ref (a0 0), .ref (a1 0), .int x2] (List.flatten [bCursor K a0 z0_text z0_size z0_at z0_fault, bRule K a1 z1_steps z1_size z1_sumFrom z1_testFrom z1_testTo z1_clauses z1_parts z1_readsTime z1_words z1_stack]) (List.flatten [bCursor K a0 z0_text z0_size q.1 q.2.1, bRule K a1 q.2.2.1 q.2.2.2.1 z1_sumFrom z1_testFrom z1_testTo z1_clauses q.2.2.2.2.1 q.2.2.2.2.2 z1_words z1_stack]) none := by
  refine rMet.of (by show plainName yX7_readFact.cls = true; decide) rfl (Nat.le_of_ble_eq_true rfl) ?_
  refine r_sub (lv' := [(0, .ref (a0 0)), (1, .ref (a1 0)), (2, .int x2)]) [0, 1, 2] rfl ?_
  unfold mRuleReader_readFactB at h
  refine r_aload_n 0 dX7_readFact_0 rfl ?_
  obtain ⟨q1, h1, h⟩ := bd_some h
  refine b_callVN (isC := [0]) (ci := 0)  (st := []) (bs1 := [bCursor K a0 z0_text z0_size q1.2 z0_fault, bRule K a1 z1_steps z1_size z1_sumFrom z1_testFrom z1_testTo z1_clauses z1_parts z1_readsTime z1_words z1_stack]) (cCursor_peek (a0 := a0) (z0_text := z0_text) (z0_size := z0_size) (z0_at := z0_at) (z0_fault := z0_fault) h1) rfl rfl (Nat.le_of_ble_eq_true rfl) kCursor_peek (List.mem_of_getElem? (i := 33) rfl) (by show 1 < 10 + (d + 1); omega) (by decide) rfl rfl rfl rfl rfl rfl rfl dX7_readFact_1 ?_
  refine r_bipush (x := (91 : Int32)) dX7_readFact_4 (by decide) ?_
  refine r_icmp_ne 13 dX7_readFact_6 (by decide) (fun c2 => ?_) (fun c2 => ?_)
  · replace h := it_neg c2 h
    refine r_iconst (x := (0 : Int32)) dX7_readFact_13 (by decide) ?_
    exact cRuleReader_readFactB_j14  hrT hrF h
  · replace h := it_pos c2 h
    refine r_iconst (x := (1 : Int32)) dX7_readFact_9 (by decide) ?_
    refine r_goto 14 dX7_readFact_10 (by decide) ?_
    exact cRuleReader_readFactB_j14  hrT hrF h
end
def mRR : Nat → Bool → Int32 → (Nat → Int32) → Int32 → Int32 → Int32 → (Nat → Int32) → Int32 → Int32 → Int32 → Option (Int32 × Int32 × (Nat → Int32) × Int32 × Int32 × Int32)
  | 0, _, _, _, _, _, _, _, _, _, _ => none
  | d + 1, true, x2, z0_text, z0_size, z0_at, z0_fault, z1_steps, z1_size, z1_parts, z1_readsTime => mRuleReader_readTestB (mRR d true) (mRR d false) x2 z0_text z0_size z0_at z0_fault z1_steps z1_size z1_parts z1_readsTime
  | d + 1, false, x2, z0_text, z0_size, z0_at, z0_fault, z1_steps, z1_size, z1_parts, z1_readsTime => mRuleReader_readFactB (mRR d true) (mRR d false) x2 z0_text z0_size z0_at z0_fault z1_steps z1_size z1_parts z1_readsTime
section
variable {a0 : Nat → Nat} {a1 : Nat → Nat} {z0_text : Nat → Int32} {z0_size : Int32} {z0_at : Int32} {z0_fault : Int32} {z1_steps : Nat → Int32} {z1_size : Int32} {z1_sumFrom : Nat → Int32} {z1_testFrom : Nat → Int32} {z1_testTo : Nat → Int32} {z1_clauses : Int32} {z1_parts : Int32} {z1_readsTime : Int32} {z1_words : Nat → Int64} {z1_stack : Nat → Int64}
theorem cRR : ∀ d : Nat, (∀ (x2 : Int32) (z0_text : Nat → Int32) (z0_size : Int32) (z0_at : Int32) (z0_fault : Int32) (z1_steps : Nat → Int32) (z1_size : Int32) (z1_parts : Int32) (z1_readsTime : Int32) (q' : Int32 × Int32 × (Nat → Int32) × Int32 × Int32 × Int32), mRR d true x2 z0_text z0_size z0_at z0_fault z1_steps z1_size z1_parts z1_readsTime = some q' → rMet l D Z (ty7 K) (MRuleReader_readTest d) [.ref (a0 0), .ref (a1 0), .int x2] (List.flatten [bCursor K a0 z0_text z0_size z0_at z0_fault, bRule K a1 z1_steps z1_size z1_sumFrom z1_testFrom z1_testTo z1_clauses z1_parts z1_readsTime z1_words z1_stack]) (List.flatten [bCursor K a0 z0_text z0_size q'.1 q'.2.1, bRule K a1 q'.2.2.1 q'.2.2.2.1 z1_sumFrom z1_testFrom z1_testTo z1_clauses q'.2.2.2.2.1 q'.2.2.2.2.2 z1_words z1_stack]) none) ∧ (∀ (x2 : Int32) (z0_text : Nat → Int32) (z0_size : Int32) (z0_at : Int32) (z0_fault : Int32) (z1_steps : Nat → Int32) (z1_size : Int32) (z1_parts : Int32) (z1_readsTime : Int32) (q' : Int32 × Int32 × (Nat → Int32) × Int32 × Int32 × Int32), mRR d false x2 z0_text z0_size z0_at z0_fault z1_steps z1_size z1_parts z1_readsTime = some q' → rMet l D Z (ty7 K) (MRuleReader_readFact d) [.ref (a0 0), .ref (a1 0), .int x2] (List.flatten [bCursor K a0 z0_text z0_size z0_at z0_fault, bRule K a1 z1_steps z1_size z1_sumFrom z1_testFrom z1_testTo z1_clauses z1_parts z1_readsTime z1_words z1_stack]) (List.flatten [bCursor K a0 z0_text z0_size q'.1 q'.2.1, bRule K a1 q'.2.2.1 q'.2.2.2.1 z1_sumFrom z1_testFrom z1_testTo z1_clauses q'.2.2.2.2.1 q'.2.2.2.2.2 z1_words z1_stack]) none) := by
  intro d
  induction d with
  | zero => exact ⟨fun x2 z0_text z0_size z0_at z0_fault z1_steps z1_size z1_parts z1_readsTime q' h => (by unfold mRR at h; cases h), fun x2 z0_text z0_size z0_at z0_fault z1_steps z1_size z1_parts z1_readsTime q' h => (by unfold mRR at h; cases h)⟩
  | succ d ih => exact ⟨fun x2 z0_text z0_size z0_at z0_fault z1_steps z1_size z1_parts z1_readsTime q' h => cRuleReader_readTestB ih.1 ih.2 h, fun x2 z0_text z0_size z0_at z0_fault z1_steps z1_size z1_parts z1_readsTime q' h => cRuleReader_readFactB ih.1 ih.2 h⟩
def mRuleReader_readTest (x2 : Int32) (z0_text : Nat → Int32) (z0_size : Int32) (z0_at : Int32) (z0_fault : Int32) (z1_steps : Nat → Int32) (z1_size : Int32) (z1_parts : Int32) (z1_readsTime : Int32) : Option (Int32 × Int32 × (Nat → Int32) × Int32 × Int32 × Int32) := mRR 40 true x2 z0_text z0_size z0_at z0_fault z1_steps z1_size z1_parts z1_readsTime
theorem cRuleReader_readTest {q : Int32 × Int32 × (Nat → Int32) × Int32 × Int32 × Int32} {x2 : Int32} (h : mRuleReader_readTest x2 z0_text z0_size z0_at z0_fault z1_steps z1_size z1_parts z1_readsTime = some q) : rMet l D Z (ty7 K) (MRuleReader_readTest 40) [.ref (a0 0), .ref (a1 0), .int x2] (List.flatten [bCursor K a0 z0_text z0_size z0_at z0_fault, bRule K a1 z1_steps z1_size z1_sumFrom z1_testFrom z1_testTo z1_clauses z1_parts z1_readsTime z1_words z1_stack]) (List.flatten [bCursor K a0 z0_text z0_size q.1 q.2.1, bRule K a1 q.2.2.1 q.2.2.2.1 z1_sumFrom z1_testFrom z1_testTo z1_clauses q.2.2.2.2.1 q.2.2.2.2.2 z1_words z1_stack]) none := (cRR 40).1 x2 z0_text z0_size z0_at z0_fault z1_steps z1_size z1_parts z1_readsTime q h
def mRuleReader_readFact (x2 : Int32) (z0_text : Nat → Int32) (z0_size : Int32) (z0_at : Int32) (z0_fault : Int32) (z1_steps : Nat → Int32) (z1_size : Int32) (z1_parts : Int32) (z1_readsTime : Int32) : Option (Int32 × Int32 × (Nat → Int32) × Int32 × Int32 × Int32) := mRR 40 false x2 z0_text z0_size z0_at z0_fault z1_steps z1_size z1_parts z1_readsTime
theorem cRuleReader_readFact {q : Int32 × Int32 × (Nat → Int32) × Int32 × Int32 × Int32} {x2 : Int32} (h : mRuleReader_readFact x2 z0_text z0_size z0_at z0_fault z1_steps z1_size z1_parts z1_readsTime = some q) : rMet l D Z (ty7 K) (MRuleReader_readFact 40) [.ref (a0 0), .ref (a1 0), .int x2] (List.flatten [bCursor K a0 z0_text z0_size z0_at z0_fault, bRule K a1 z1_steps z1_size z1_sumFrom z1_testFrom z1_testTo z1_clauses z1_parts z1_readsTime z1_words z1_stack]) (List.flatten [bCursor K a0 z0_text z0_size q.1 q.2.1, bRule K a1 q.2.2.1 q.2.2.2.1 z1_sumFrom z1_testFrom z1_testTo z1_clauses q.2.2.2.2.1 q.2.2.2.2.2 z1_words z1_stack]) none := (cRR 40).2 x2 z0_text z0_size z0_at z0_fault z1_steps z1_size z1_parts z1_readsTime q h
end
theorem dX7_read_0 : decode cX7_read 0 = .ok (.aload_n 1, 1) := by decide +kernel
theorem dX7_read_1 : decode cX7_read 1 = .ok (.invokevirtual 9, 3) := by decide +kernel
theorem dX7_read_4 : decode cX7_read 4 = .ok (.iconst 1, 1) := by decide +kernel
theorem dX7_read_5 : decode cX7_read 5 = .ok (.istore_n 2, 1) := by decide +kernel
theorem dX7_read_6 : decode cX7_read 6 = .ok (.iconst 0, 1) := by decide +kernel
theorem dX7_read_7 : decode cX7_read 7 = .ok (.istore_n 3, 1) := by decide +kernel
theorem dX7_read_8 : decode cX7_read 8 = .ok (.iload_n 3, 1) := by decide +kernel
theorem dX7_read_9 : decode cX7_read 9 = .ok (.bipush 12, 2) := by decide +kernel
theorem dX7_read_11 : decode cX7_read 11 = .ok (.if_icmp .gt 141, 3) := by decide +kernel
theorem dX7_read_14 : decode cX7_read 14 = .ok (.iload_n 2, 1) := by decide +kernel
theorem dX7_read_15 : decode cX7_read 15 = .ok (.ifCond .eq 137, 3) := by decide +kernel
theorem dX7_read_18 : decode cX7_read 18 = .ok (.aload_n 0, 1) := by decide +kernel
theorem dX7_read_19 : decode cX7_read 19 = .ok (.invokevirtual 16, 3) := by decide +kernel
theorem dX7_read_22 : decode cX7_read 22 = .ok (.pop, 1) := by decide +kernel
theorem dX7_read_23 : decode cX7_read 23 = .ok (.aload_n 0, 1) := by decide +kernel
theorem dX7_read_24 : decode cX7_read 24 = .ok (.getfield 22, 3) := by decide +kernel
theorem dX7_read_27 : decode cX7_read 27 = .ok (.istore 4, 2) := by decide +kernel
theorem dX7_read_29 : decode cX7_read 29 = .ok (.aload_n 0, 1) := by decide +kernel
theorem dX7_read_30 : decode cX7_read 30 = .ok (.ldc 26, 2) := by decide +kernel
theorem dX7_read_32 : decode cX7_read 32 = .ok (.invokevirtual 28, 3) := by decide +kernel
theorem dX7_read_35 : decode cX7_read 35 = .ok (.iconst (-1), 1) := by decide +kernel
theorem dX7_read_36 : decode cX7_read 36 = .ok (.if_icmp .ne 11, 3) := by decide +kernel
theorem dX7_read_39 : decode cX7_read 39 = .ok (.aload_n 0, 1) := by decide +kernel
theorem dX7_read_40 : decode cX7_read 40 = .ok (.iconst 0, 1) := by decide +kernel
theorem dX7_read_41 : decode cX7_read 41 = .ok (.iload 4, 2) := by decide +kernel
theorem dX7_read_43 : decode cX7_read 43 = .ok (.invokevirtual 32, 3) := by decide +kernel
theorem dX7_read_46 : decode cX7_read 46 = .ok (.return_, 1) := by decide +kernel
theorem dX7_read_47 : decode cX7_read 47 = .ok (.iload_n 3, 1) := by decide +kernel
theorem dX7_read_48 : decode cX7_read 48 = .ok (.bipush 12, 2) := by decide +kernel
theorem dX7_read_50 : decode cX7_read 50 = .ok (.if_icmp .lt 11, 3) := by decide +kernel
theorem dX7_read_53 : decode cX7_read 53 = .ok (.aload_n 0, 1) := by decide +kernel
theorem dX7_read_54 : decode cX7_read 54 = .ok (.iconst 4, 1) := by decide +kernel
theorem dX7_read_55 : decode cX7_read 55 = .ok (.iload 4, 2) := by decide +kernel
theorem dX7_read_57 : decode cX7_read 57 = .ok (.invokevirtual 32, 3) := by decide +kernel
theorem dX7_read_60 : decode cX7_read 60 = .ok (.return_, 1) := by decide +kernel
theorem dX7_read_61 : decode cX7_read 61 = .ok (.aload_n 1, 1) := by decide +kernel
theorem dX7_read_62 : decode cX7_read 62 = .ok (.getfield 36, 3) := by decide +kernel
theorem dX7_read_65 : decode cX7_read 65 = .ok (.iload_n 3, 1) := by decide +kernel
theorem dX7_read_66 : decode cX7_read 66 = .ok (.aload_n 1, 1) := by decide +kernel
theorem dX7_read_67 : decode cX7_read 67 = .ok (.getfield 40, 3) := by decide +kernel
theorem dX7_read_70 : decode cX7_read 70 = .ok (.iastore, 1) := by decide +kernel
theorem dX7_read_71 : decode cX7_read 71 = .ok (.aload_n 0, 1) := by decide +kernel
theorem dX7_read_72 : decode cX7_read 72 = .ok (.aload_n 1, 1) := by decide +kernel
theorem dX7_read_73 : decode cX7_read 73 = .ok (.invokestatic 43, 3) := by decide +kernel
theorem dX7_read_76 : decode cX7_read 76 = .ok (.aload_n 1, 1) := by decide +kernel
theorem dX7_read_77 : decode cX7_read 77 = .ok (.getfield 47, 3) := by decide +kernel
theorem dX7_read_80 : decode cX7_read 80 = .ok (.iload_n 3, 1) := by decide +kernel
theorem dX7_read_81 : decode cX7_read 81 = .ok (.aload_n 1, 1) := by decide +kernel
theorem dX7_read_82 : decode cX7_read 82 = .ok (.getfield 40, 3) := by decide +kernel
theorem dX7_read_85 : decode cX7_read 85 = .ok (.iastore, 1) := by decide +kernel
theorem dX7_read_86 : decode cX7_read 86 = .ok (.aload_n 0, 1) := by decide +kernel
theorem dX7_read_87 : decode cX7_read 87 = .ok (.invokevirtual 50, 3) := by decide +kernel
theorem dX7_read_90 : decode cX7_read 90 = .ok (.ifCond .eq 19, 3) := by decide +kernel
theorem dX7_read_93 : decode cX7_read 93 = .ok (.aload_n 0, 1) := by decide +kernel
theorem dX7_read_94 : decode cX7_read 94 = .ok (.ldc 54, 2) := by decide +kernel
theorem dX7_read_96 : decode cX7_read 96 = .ok (.invokevirtual 28, 3) := by decide +kernel
theorem dX7_read_99 : decode cX7_read 99 = .ok (.iconst (-1), 1) := by decide +kernel
theorem dX7_read_100 : decode cX7_read 100 = .ok (.if_icmp .eq 9, 3) := by decide +kernel
theorem dX7_read_103 : decode cX7_read 103 = .ok (.aload_n 0, 1) := by decide +kernel
theorem dX7_read_104 : decode cX7_read 104 = .ok (.aload_n 1, 1) := by decide +kernel
theorem dX7_read_105 : decode cX7_read 105 = .ok (.iconst 0, 1) := by decide +kernel
theorem dX7_read_106 : decode cX7_read 106 = .ok (.invokestatic 56, 3) := by decide +kernel
theorem dX7_read_109 : decode cX7_read 109 = .ok (.aload_n 1, 1) := by decide +kernel
theorem dX7_read_110 : decode cX7_read 110 = .ok (.getfield 60, 3) := by decide +kernel
theorem dX7_read_113 : decode cX7_read 113 = .ok (.iload_n 3, 1) := by decide +kernel
theorem dX7_read_114 : decode cX7_read 114 = .ok (.aload_n 1, 1) := by decide +kernel
theorem dX7_read_115 : decode cX7_read 115 = .ok (.getfield 40, 3) := by decide +kernel
theorem dX7_read_118 : decode cX7_read 118 = .ok (.iastore, 1) := by decide +kernel
theorem dX7_read_119 : decode cX7_read 119 = .ok (.aload_n 1, 1) := by decide +kernel
theorem dX7_read_120 : decode cX7_read 120 = .ok (.iload_n 3, 1) := by decide +kernel
theorem dX7_read_121 : decode cX7_read 121 = .ok (.iconst 1, 1) := by decide +kernel
theorem dX7_read_122 : decode cX7_read 122 = .ok (.iadd, 1) := by decide +kernel
theorem dX7_read_123 : decode cX7_read 123 = .ok (.putfield 63, 3) := by decide +kernel
theorem dX7_read_126 : decode cX7_read 126 = .ok (.aload_n 0, 1) := by decide +kernel
theorem dX7_read_127 : decode cX7_read 127 = .ok (.invokevirtual 50, 3) := by decide +kernel
theorem dX7_read_130 : decode cX7_read 130 = .ok (.ifCond .eq 14, 3) := by decide +kernel
theorem dX7_read_133 : decode cX7_read 133 = .ok (.aload_n 0, 1) := by decide +kernel
theorem dX7_read_134 : decode cX7_read 134 = .ok (.invokevirtual 66, 3) := by decide +kernel
theorem dX7_read_137 : decode cX7_read 137 = .ok (.ifCond .eq 7, 3) := by decide +kernel
theorem dX7_read_140 : decode cX7_read 140 = .ok (.iconst 1, 1) := by decide +kernel
theorem dX7_read_141 : decode cX7_read 141 = .ok (.goto 4, 3) := by decide +kernel
theorem dX7_read_144 : decode cX7_read 144 = .ok (.iconst 0, 1) := by decide +kernel
theorem dX7_read_145 : decode cX7_read 145 = .ok (.istore_n 2, 1) := by decide +kernel
theorem dX7_read_146 : decode cX7_read 146 = .ok (.iinc 3 1, 3) := by decide +kernel
theorem dX7_read_149 : decode cX7_read 149 = .ok (.goto (-141), 3) := by decide +kernel
theorem dX7_read_152 : decode cX7_read 152 = .ok (.return_, 1) := by decide +kernel
abbrev MRuleReader_read : rx_M := (RX7, yX7_read, cX7_read, 5, none, 51)
theorem kRuleReader_read : rKs MRuleReader_read 2 := ⟨tb_in (i := 13) (j := 26) rfl rfl, tb_in (i := 8) (j := 27) rfl rfl, tb_in (i := 9) (j := 15) rfl rfl, ⟨by decide, by decide, by decide +kernel⟩, by decide⟩
section
variable {a0 : Nat → Nat} {a1 : Nat → Nat} {z0_text : Nat → Int32} {z0_size : Int32} {z0_at : Int32} {z0_fault : Int32} {z1_steps : Nat → Int32} {z1_size : Int32} {z1_sumFrom : Nat → Int32} {z1_testFrom : Nat → Int32} {z1_testTo : Nat → Int32} {z1_clauses : Int32} {z1_parts : Int32} {z1_readsTime : Int32} {z1_words : Nat → Int64} {z1_stack : Nat → Int64}
def mRuleReader_read_j109 (k8 : Int32 → Int32 → Int32 → Int32 → (Nat → Int32) → Int32 → (Nat → Int32) → (Nat → Int32) → (Nat → Int32) → Int32 → Int32 → Int32 → Option (Int32 × Int32 × (Nat → Int32) × Int32 × (Nat → Int32) × (Nat → Int32) × (Nat → Int32) × Int32 × Int32 × Int32)) (x3 : Int32) (z0_text : Nat → Int32) (z0_size : Int32) (z0_at : Int32) (z0_fault : Int32) (z1_steps : Nat → Int32) (z1_size : Int32) (z1_sumFrom : Nat → Int32) (z1_testFrom : Nat → Int32) (z1_testTo : Nat → Int32) (z1_clauses : Int32) (z1_parts : Int32) (z1_readsTime : Int32) : Option (Int32 × Int32 × (Nat → Int32) × Int32 × (Nat → Int32) × (Nat → Int32) × (Nat → Int32) × Int32 × Int32 × Int32) := rq (inb x3 12) (lt (upd z1_testTo x3.toNatClampNeg z1_size) (fun u13 => lt (x3 + (1 : Int32)) (fun y14 => (mCursor_isFine z0_fault).bind (fun q15 => (if q15 = 0 then k8 (0 : Int32) (x3 + (1 : Int32)) z0_at z0_fault z1_steps z1_size z1_sumFrom z1_testFrom u13 y14 z1_parts z1_readsTime else (mCursor_takeNextClause z0_text z0_size z0_at z0_fault).bind (fun q17 => (if q17.1 = 0 then k8 (0 : Int32) (x3 + (1 : Int32)) q17.2.1 q17.2.2 z1_steps z1_size z1_sumFrom z1_testFrom u13 y14 z1_parts z1_readsTime else k8 (1 : Int32) (x3 + (1 : Int32)) q17.2.1 q17.2.2 z1_steps z1_size z1_sumFrom z1_testFrom u13 y14 z1_parts z1_readsTime)))))))
set_option maxHeartbeats 4000000 in
set_option maxRecDepth 20000 in
theorem cRuleReader_read_j109 {q : Int32 × Int32 × (Nat → Int32) × Int32 × (Nat → Int32) × (Nat → Int32) × (Nat → Int32) × Int32 × Int32 × Int32} {x3 : Int32} {k8 : Int32 → Int32 → Int32 → Int32 → (Nat → Int32) → Int32 → (Nat → Int32) → (Nat → Int32) → (Nat → Int32) → Int32 → Int32 → Int32 → Option (Int32 × Int32 × (Nat → Int32) × Int32 × (Nat → Int32) × (Nat → Int32) × (Nat → Int32) × Int32 × Int32 × Int32)} (hk8 : ∀ (x2 : Int32) (x3 : Int32) (z0_at : Int32) (z0_fault : Int32) (z1_steps : Nat → Int32) (z1_size : Int32) (z1_sumFrom : Nat → Int32) (z1_testFrom : Nat → Int32) (z1_testTo : Nat → Int32) (z1_clauses : Int32) (z1_parts : Int32) (z1_readsTime : Int32), k8 x2 x3 z0_at z0_fault z1_steps z1_size z1_sumFrom z1_testFrom z1_testTo z1_clauses z1_parts z1_readsTime = some q → rW l D Z (ty7 K) MRuleReader_read 8 [(0, .ref (a0 0)), (1, .ref (a1 0)), (2, .int x2), (3, .int x3)] [] (List.flatten [bCursor K a0 z0_text z0_size z0_at z0_fault, bRule K a1 z1_steps z1_size z1_sumFrom z1_testFrom z1_testTo z1_clauses z1_parts z1_readsTime z1_words z1_stack]) (List.flatten [bCursor K a0 z0_text z0_size q.1 q.2.1, bRule K a1 q.2.2.1 q.2.2.2.1 q.2.2.2.2.1 q.2.2.2.2.2.1 q.2.2.2.2.2.2.1 q.2.2.2.2.2.2.2.1 q.2.2.2.2.2.2.2.2.1 q.2.2.2.2.2.2.2.2.2 z1_words z1_stack]) none) (h : mRuleReader_read_j109 k8 x3 z0_text z0_size z0_at z0_fault z1_steps z1_size z1_sumFrom z1_testFrom z1_testTo z1_clauses z1_parts z1_readsTime = some q) : rW l D Z (ty7 K) MRuleReader_read 109 [(0, .ref (a0 0)), (1, .ref (a1 0)), (3, .int x3)] [] (List.flatten [bCursor K a0 z0_text z0_size z0_at z0_fault, bRule K a1 z1_steps z1_size z1_sumFrom z1_testFrom z1_testTo z1_clauses z1_parts z1_readsTime z1_words z1_stack]) (List.flatten [bCursor K a0 z0_text z0_size q.1 q.2.1, bRule K a1 q.2.2.1 q.2.2.2.1 q.2.2.2.2.1 q.2.2.2.2.2.1 q.2.2.2.2.2.2.1 q.2.2.2.2.2.2.2.1 q.2.2.2.2.2.2.2.2.1 q.2.2.2.2.2.2.2.2.2 z1_words z1_stack]) none := by
  unfold mRuleReader_read_j109 at h
  refine r_aload_n 1 dX7_read_109 rfl ?_
  refine gRule_testToN 1 rfl (List.mem_of_getElem? (i := 67) rfl) dX7_read_110 ?_
  refine r_iload_n 2 dX7_read_113 rfl ?_
  refine r_aload_n 1 dX7_read_114 rfl ?_
  refine gRule_sizeN 1 rfl (List.mem_of_getElem? (i := 64) rfl) dX7_read_115 ?_
  obtain ⟨h13, h⟩ := rq_some h
  obtain ⟨u13, e13, h⟩ := lt_some h
  refine sRule_testTo (bs1 := [bCursor K a0 z0_text z0_size z0_at z0_fault, bRule K a1 z1_steps z1_size z1_sumFrom z1_testFrom u13 z1_clauses z1_parts z1_readsTime z1_words z1_stack]) 1 e13 rfl (inb_in h13) rfl dX7_read_118 ?_
  refine r_aload_n 1 dX7_read_119 rfl ?_
  refine r_iload_n 2 dX7_read_120 rfl ?_
  refine r_iconst (x := (1 : Int32)) dX7_read_121 (by decide) ?_
  refine r_iadd dX7_read_122 ?_
  obtain ⟨y14, e14, h⟩ := lt_some h
  refine r_top e14 ?_
  refine pRule_clausesN (bs1 := [bCursor K a0 z0_text z0_size z0_at z0_fault, bRule K a1 z1_steps z1_size z1_sumFrom z1_testFrom u13 y14 z1_parts z1_readsTime z1_words z1_stack]) 1 rfl rfl (List.mem_of_getElem? (i := 68) rfl) dX7_read_123 ?_
  refine r_aload_n 0 dX7_read_126 rfl ?_
  obtain ⟨q15, h15, h⟩ := bd_some h
  refine b_callVN (isC := [0]) (ci := 0)  (st := []) (bs1 := [bCursor K a0 z0_text z0_size z0_at z0_fault, bRule K a1 z1_steps z1_size z1_sumFrom z1_testFrom u13 y14 z1_parts z1_readsTime z1_words z1_stack]) (cCursor_isFine (a0 := a0) (z0_text := z0_text) (z0_size := z0_size) (z0_at := z0_at) (z0_fault := z0_fault) h15) rfl rfl (Nat.le_of_ble_eq_true rfl) kCursor_isFine (List.mem_of_getElem? (i := 38) rfl) (by decide) (by decide) rfl rfl rfl rfl rfl rfl rfl dX7_read_127 ?_
  refine r_if_eq 144 dX7_read_130 (by decide) (fun c16 => ?_) (fun c16 => ?_)
  · replace h := it_pos c16 h
    refine r_iconst (x := (0 : Int32)) dX7_read_144 (by decide) ?_
    refine r_istore_n (lv' := [(2, .int (0 : Int32)), (0, .ref (a0 0)), (1, .ref (a1 0)), (3, .int x3)]) dX7_read_145 (Nat.le_of_ble_eq_true rfl) rfl ?_
    refine r_iinc (y := (x3 + (1 : Int32))) (lv' := [(3, .int (x3 + (1 : Int32))), (2, .int (0 : Int32)), (0, .ref (a0 0)), (1, .ref (a1 0))]) 3 dX7_read_146 rfl rfl (Nat.le_of_ble_eq_true rfl) rfl ?_
    refine r_goto 8 dX7_read_149 (by decide) ?_
    refine r_sub (lv' := [(0, .ref (a0 0)), (1, .ref (a1 0)), (2, .int (0 : Int32)), (3, .int (x3 + (1 : Int32)))]) [2, 3, 1, 0] rfl ?_
    exact hk8 (0 : Int32) (x3 + (1 : Int32)) z0_at z0_fault z1_steps z1_size z1_sumFrom z1_testFrom u13 y14 z1_parts z1_readsTime h
  · replace h := it_neg c16 h
    refine r_aload_n 0 dX7_read_133 rfl ?_
    obtain ⟨q17, h17, h⟩ := bd_some h
    refine b_callVN (isC := [0]) (ci := 0)  (st := []) (bs1 := [bCursor K a0 z0_text z0_size q17.2.1 q17.2.2, bRule K a1 z1_steps z1_size z1_sumFrom z1_testFrom u13 y14 z1_parts z1_readsTime z1_words z1_stack]) (cCursor_takeNextClause (a0 := a0) (z0_text := z0_text) (z0_size := z0_size) (z0_at := z0_at) (z0_fault := z0_fault) h17) rfl rfl (Nat.le_of_ble_eq_true rfl) kCursor_takeNextClause (List.mem_of_getElem? (i := 41) rfl) (by decide) (by decide) rfl rfl rfl rfl rfl rfl rfl dX7_read_134 ?_
    refine r_if_eq 144 dX7_read_137 (by decide) (fun c18 => ?_) (fun c18 => ?_)
    · replace h := it_pos c18 h
      refine r_iconst (x := (0 : Int32)) dX7_read_144 (by decide) ?_
      refine r_istore_n (lv' := [(2, .int (0 : Int32)), (0, .ref (a0 0)), (1, .ref (a1 0)), (3, .int x3)]) dX7_read_145 (Nat.le_of_ble_eq_true rfl) rfl ?_
      refine r_iinc (y := (x3 + (1 : Int32))) (lv' := [(3, .int (x3 + (1 : Int32))), (2, .int (0 : Int32)), (0, .ref (a0 0)), (1, .ref (a1 0))]) 3 dX7_read_146 rfl rfl (Nat.le_of_ble_eq_true rfl) rfl ?_
      refine r_goto 8 dX7_read_149 (by decide) ?_
      refine r_sub (lv' := [(0, .ref (a0 0)), (1, .ref (a1 0)), (2, .int (0 : Int32)), (3, .int (x3 + (1 : Int32)))]) [2, 3, 1, 0] rfl ?_
      exact hk8 (0 : Int32) (x3 + (1 : Int32)) q17.2.1 q17.2.2 z1_steps z1_size z1_sumFrom z1_testFrom u13 y14 z1_parts z1_readsTime h
    · replace h := it_neg c18 h
      refine r_iconst (x := (1 : Int32)) dX7_read_140 (by decide) ?_
      refine r_goto 145 dX7_read_141 (by decide) ?_
      refine r_istore_n (lv' := [(2, .int (1 : Int32)), (0, .ref (a0 0)), (1, .ref (a1 0)), (3, .int x3)]) dX7_read_145 (Nat.le_of_ble_eq_true rfl) rfl ?_
      refine r_iinc (y := (x3 + (1 : Int32))) (lv' := [(3, .int (x3 + (1 : Int32))), (2, .int (1 : Int32)), (0, .ref (a0 0)), (1, .ref (a1 0))]) 3 dX7_read_146 rfl rfl (Nat.le_of_ble_eq_true rfl) rfl ?_
      refine r_goto 8 dX7_read_149 (by decide) ?_
      refine r_sub (lv' := [(0, .ref (a0 0)), (1, .ref (a1 0)), (2, .int (1 : Int32)), (3, .int (x3 + (1 : Int32)))]) [2, 3, 1, 0] rfl ?_
      exact hk8 (1 : Int32) (x3 + (1 : Int32)) q17.2.1 q17.2.2 z1_steps z1_size z1_sumFrom z1_testFrom u13 y14 z1_parts z1_readsTime h
def mRuleReader_read_l8 (z0_text : Nat → Int32) (z0_size : Int32) : Nat → Int32 → Int32 → Int32 → Int32 → (Nat → Int32) → Int32 → (Nat → Int32) → (Nat → Int32) → (Nat → Int32) → Int32 → Int32 → Int32 → Option (Int32 × Int32 × (Nat → Int32) × Int32 × (Nat → Int32) × (Nat → Int32) × (Nat → Int32) × Int32 × Int32 × Int32)
  | 0, _, _, _, _, _, _, _, _, _, _, _, _ => none
  | n + 1, x2, x3, z0_at, z0_fault, z1_steps, z1_size, z1_sumFrom, z1_testFrom, z1_testTo, z1_clauses, z1_parts, z1_readsTime => (if (12 : Int32) < x3 then some (z0_at, z0_fault, z1_steps, z1_size, z1_sumFrom, z1_testFrom, z1_testTo, z1_clauses, z1_parts, z1_readsTime) else (if x2 = 0 then some (z0_at, z0_fault, z1_steps, z1_size, z1_sumFrom, z1_testFrom, z1_testTo, z1_clauses, z1_parts, z1_readsTime) else (mCursor_peek z0_text z0_size z0_at).bind (fun q4 => (mCursor_takeWord 2 z0_text z0_size q4.2).bind (fun q5 => (if q5.1 = (-1 : Int32) then (mCursor_fail (0 : Int32) q4.2 z0_fault).bind (fun q23 => some (q5.2, q23, z1_steps, z1_size, z1_sumFrom, z1_testFrom, z1_testTo, z1_clauses, z1_parts, z1_readsTime)) else (if x3 < (12 : Int32) then rq (inb x3 12) (lt (upd z1_sumFrom x3.toNatClampNeg z1_size) (fun u8 => (mRuleReader_readSum z0_text z0_size q5.2 z0_fault z1_steps z1_size z1_parts z1_readsTime).bind (fun q9 => rq (inb x3 12) (lt (upd z1_testFrom x3.toNatClampNeg q9.2.2.2.1) (fun u10 => (mCursor_isFine q9.2.1).bind (fun q11 => (if q11 = 0 then mRuleReader_read_j109 (mRuleReader_read_l8 z0_text z0_size n) x3 z0_text z0_size q9.1 q9.2.1 q9.2.2.1 q9.2.2.2.1 u8 u10 z1_testTo z1_clauses q9.2.2.2.2.1 q9.2.2.2.2.2 else (mCursor_takeWord 6 z0_text z0_size q9.1).bind (fun q19 => (if q19.1 = (-1 : Int32) then mRuleReader_read_j109 (mRuleReader_read_l8 z0_text z0_size n) x3 z0_text z0_size q19.2 q9.2.1 q9.2.2.1 q9.2.2.2.1 u8 u10 z1_testTo z1_clauses q9.2.2.2.2.1 q9.2.2.2.2.2 else (mRuleReader_readTest (0 : Int32) z0_text z0_size q19.2 q9.2.1 q9.2.2.1 q9.2.2.2.1 q9.2.2.2.2.1 q9.2.2.2.2.2).bind (fun q21 => mRuleReader_read_j109 (mRuleReader_read_l8 z0_text z0_size n) x3 z0_text z0_size q21.1 q21.2.1 q21.2.2.1 q21.2.2.2.1 u8 u10 z1_testTo z1_clauses q21.2.2.2.2.1 q21.2.2.2.2.2)))))))))) else (mCursor_fail (4 : Int32) q4.2 z0_fault).bind (fun q22 => some (q5.2, q22, z1_steps, z1_size, z1_sumFrom, z1_testFrom, z1_testTo, z1_clauses, z1_parts, z1_readsTime))))))))
set_option maxHeartbeats 4000000 in
set_option maxRecDepth 20000 in
theorem cRuleReader_read_l8 {q : Int32 × Int32 × (Nat → Int32) × Int32 × (Nat → Int32) × (Nat → Int32) × (Nat → Int32) × Int32 × Int32 × Int32}   : ∀ (n : Nat) (x2 : Int32) (x3 : Int32) (z0_at : Int32) (z0_fault : Int32) (z1_steps : Nat → Int32) (z1_size : Int32) (z1_sumFrom : Nat → Int32) (z1_testFrom : Nat → Int32) (z1_testTo : Nat → Int32) (z1_clauses : Int32) (z1_parts : Int32) (z1_readsTime : Int32), mRuleReader_read_l8 z0_text z0_size n x2 x3 z0_at z0_fault z1_steps z1_size z1_sumFrom z1_testFrom z1_testTo z1_clauses z1_parts z1_readsTime = some q → rW l D Z (ty7 K) MRuleReader_read 8 [(0, .ref (a0 0)), (1, .ref (a1 0)), (2, .int x2), (3, .int x3)] [] (List.flatten [bCursor K a0 z0_text z0_size z0_at z0_fault, bRule K a1 z1_steps z1_size z1_sumFrom z1_testFrom z1_testTo z1_clauses z1_parts z1_readsTime z1_words z1_stack]) (List.flatten [bCursor K a0 z0_text z0_size q.1 q.2.1, bRule K a1 q.2.2.1 q.2.2.2.1 q.2.2.2.2.1 q.2.2.2.2.2.1 q.2.2.2.2.2.2.1 q.2.2.2.2.2.2.2.1 q.2.2.2.2.2.2.2.2.1 q.2.2.2.2.2.2.2.2.2 z1_words z1_stack]) none := by
  intro n
  induction n with
  | zero => intro x2 x3 z0_at z0_fault z1_steps z1_size z1_sumFrom z1_testFrom z1_testTo z1_clauses z1_parts z1_readsTime h; unfold mRuleReader_read_l8 at h; cases h
  | succ n ih =>
    intro x2 x3 z0_at z0_fault z1_steps z1_size z1_sumFrom z1_testFrom z1_testTo z1_clauses z1_parts z1_readsTime h
    unfold mRuleReader_read_l8 at h
    refine r_iload_n 3 dX7_read_8 rfl ?_
    refine r_bipush (x := (12 : Int32)) dX7_read_9 (by decide) ?_
    refine r_icmp_gt 152 dX7_read_11 (by decide) (fun c2 => ?_) (fun c2 => ?_)
    · replace h := it_pos c2 h
      have hq := Option.some.inj h
      subst hq
      exact r_vret rfl dX7_read_152
    · replace h := it_neg c2 h
      refine r_iload_n 2 dX7_read_14 rfl ?_
      refine r_if_eq 152 dX7_read_15 (by decide) (fun c3 => ?_) (fun c3 => ?_)
      · replace h := it_pos c3 h
        have hq := Option.some.inj h
        subst hq
        exact r_vret rfl dX7_read_152
      · replace h := it_neg c3 h
        refine r_aload_n 0 dX7_read_18 rfl ?_
        obtain ⟨q4, h4, h⟩ := bd_some h
        refine b_callVN (isC := [0]) (ci := 0)  (st := []) (bs1 := [bCursor K a0 z0_text z0_size q4.2 z0_fault, bRule K a1 z1_steps z1_size z1_sumFrom z1_testFrom z1_testTo z1_clauses z1_parts z1_readsTime z1_words z1_stack]) (cCursor_peek (a0 := a0) (z0_text := z0_text) (z0_size := z0_size) (z0_at := z0_at) (z0_fault := z0_fault) h4) rfl rfl (Nat.le_of_ble_eq_true rfl) kCursor_peek (List.mem_of_getElem? (i := 33) rfl) (by decide) (by decide) rfl rfl rfl rfl rfl rfl rfl dX7_read_19 ?_
        refine r_pop dX7_read_22 rfl ?_
        refine r_aload_n 0 dX7_read_23 rfl ?_
        refine gCursor_atN 0 rfl (List.mem_of_getElem? (i := 5) rfl) dX7_read_24 ?_
        refine r_istore (lv' := [(4, .int q4.2), (0, .ref (a0 0)), (1, .ref (a1 0)), (2, .int x2), (3, .int x3)]) dX7_read_27 (Nat.le_of_ble_eq_true rfl) rfl ?_
        refine r_aload_n 1 dX7_read_29 rfl ?_
        refine r_ldcS (tx := "buy ") (i := 2) (List.mem_of_getElem? (i := 2) rfl) dX7_read_30 ?_
        obtain ⟨q5, h5, h⟩ := bd_some h
        refine b_callVN (isC := [0]) (ci := 0)  (st := []) (bs1 := [bCursor K a0 z0_text z0_size q5.2 z0_fault, bRule K a1 z1_steps z1_size z1_sumFrom z1_testFrom z1_testTo z1_clauses z1_parts z1_readsTime z1_words z1_stack]) (cCursor_takeWord (a0 := a0) (z0_text := z0_text) (z0_size := z0_size) (z0_at := q4.2) (z0_fault := z0_fault) h5) rfl rfl (Nat.le_of_ble_eq_true rfl) kCursor_takeWord (List.mem_of_getElem? (i := 34) rfl) (by decide) (by decide) rfl rfl rfl rfl rfl rfl rfl dX7_read_32 ?_
        refine r_iconst (x := (-1 : Int32)) dX7_read_35 (by decide) ?_
        refine r_icmp_ne 47 dX7_read_36 (by decide) (fun c6 => ?_) (fun c6 => ?_)
        · replace h := it_neg c6 h
          refine r_iload_n 4 dX7_read_47 rfl ?_
          refine r_bipush (x := (12 : Int32)) dX7_read_48 (by decide) ?_
          refine r_icmp_lt 61 dX7_read_50 (by decide) (fun c7 => ?_) (fun c7 => ?_)
          · replace h := it_pos c7 h
            refine r_aload_n 2 dX7_read_61 rfl ?_
            refine gRule_sumFromN 1 rfl (List.mem_of_getElem? (i := 65) rfl) dX7_read_62 ?_
            refine r_iload_n 4 dX7_read_65 rfl ?_
            refine r_aload_n 2 dX7_read_66 rfl ?_
            refine gRule_sizeN 1 rfl (List.mem_of_getElem? (i := 64) rfl) dX7_read_67 ?_
            obtain ⟨h8, h⟩ := rq_some h
            obtain ⟨u8, e8, h⟩ := lt_some h
            refine sRule_sumFrom (bs1 := [bCursor K a0 z0_text z0_size q5.2 z0_fault, bRule K a1 z1_steps z1_size u8 z1_testFrom z1_testTo z1_clauses z1_parts z1_readsTime z1_words z1_stack]) 1 e8 rfl (inb_in h8) rfl dX7_read_70 ?_
            refine r_aload_n 1 dX7_read_71 rfl ?_
            refine r_aload_n 2 dX7_read_72 rfl ?_
            obtain ⟨q9, h9, h⟩ := bd_some h
            refine b_callS (isC := [0, 1]) (st := []) (bs1 := [bCursor K a0 z0_text z0_size q9.1 q9.2.1, bRule K a1 q9.2.2.1 q9.2.2.2.1 u8 z1_testFrom z1_testTo z1_clauses q9.2.2.2.2.1 q9.2.2.2.2.2 z1_words z1_stack]) (cRuleReader_readSum (a0 := a0) (a1 := a1) (z0_text := z0_text) (z0_size := z0_size) (z0_at := q5.2) (z0_fault := z0_fault) (z1_steps := z1_steps) (z1_size := z1_size) (z1_sumFrom := u8) (z1_testFrom := z1_testFrom) (z1_testTo := z1_testTo) (z1_clauses := z1_clauses) (z1_parts := z1_parts) (z1_readsTime := z1_readsTime) (z1_words := z1_words) (z1_stack := z1_stack) h9) rfl rfl (Nat.le_of_ble_eq_true rfl) kRuleReader_readSum (tb_in (i := 9) (j := 7) rfl rfl) (by decide) (by decide) rfl rfl rfl dX7_read_73 ?_
            refine r_aload_n 2 dX7_read_76 rfl ?_
            refine gRule_testFromN 1 rfl (List.mem_of_getElem? (i := 66) rfl) dX7_read_77 ?_
            refine r_iload_n 4 dX7_read_80 rfl ?_
            refine r_aload_n 2 dX7_read_81 rfl ?_
            refine gRule_sizeN 1 rfl (List.mem_of_getElem? (i := 64) rfl) dX7_read_82 ?_
            obtain ⟨h10, h⟩ := rq_some h
            obtain ⟨u10, e10, h⟩ := lt_some h
            refine sRule_testFrom (bs1 := [bCursor K a0 z0_text z0_size q9.1 q9.2.1, bRule K a1 q9.2.2.1 q9.2.2.2.1 u8 u10 z1_testTo z1_clauses q9.2.2.2.2.1 q9.2.2.2.2.2 z1_words z1_stack]) 1 e10 rfl (inb_in h10) rfl dX7_read_85 ?_
            refine r_aload_n 1 dX7_read_86 rfl ?_
            obtain ⟨q11, h11, h⟩ := bd_some h
            refine b_callVN (isC := [0]) (ci := 0)  (st := []) (bs1 := [bCursor K a0 z0_text z0_size q9.1 q9.2.1, bRule K a1 q9.2.2.1 q9.2.2.2.1 u8 u10 z1_testTo z1_clauses q9.2.2.2.2.1 q9.2.2.2.2.2 z1_words z1_stack]) (cCursor_isFine (a0 := a0) (z0_text := z0_text) (z0_size := z0_size) (z0_at := q9.1) (z0_fault := q9.2.1) h11) rfl rfl (Nat.le_of_ble_eq_true rfl) kCursor_isFine (List.mem_of_getElem? (i := 38) rfl) (by decide) (by decide) rfl rfl rfl rfl rfl rfl rfl dX7_read_87 ?_
            refine r_if_eq 109 dX7_read_90 (by decide) (fun c12 => ?_) (fun c12 => ?_)
            · replace h := it_pos c12 h
              refine r_sub (lv' := [(0, .ref (a0 0)), (1, .ref (a1 0)), (3, .int x3)]) [1, 2, 4] rfl ?_
              exact cRuleReader_read_j109  (ih) h
            · replace h := it_neg c12 h
              refine r_aload_n 1 dX7_read_93 rfl ?_
              refine r_ldcS (tx := "if ") (i := 6) (List.mem_of_getElem? (i := 6) rfl) dX7_read_94 ?_
              obtain ⟨q19, h19, h⟩ := bd_some h
              refine b_callVN (isC := [0]) (ci := 0)  (st := []) (bs1 := [bCursor K a0 z0_text z0_size q19.2 q9.2.1, bRule K a1 q9.2.2.1 q9.2.2.2.1 u8 u10 z1_testTo z1_clauses q9.2.2.2.2.1 q9.2.2.2.2.2 z1_words z1_stack]) (cCursor_takeWord (a0 := a0) (z0_text := z0_text) (z0_size := z0_size) (z0_at := q9.1) (z0_fault := q9.2.1) h19) rfl rfl (Nat.le_of_ble_eq_true rfl) kCursor_takeWord (List.mem_of_getElem? (i := 34) rfl) (by decide) (by decide) rfl rfl rfl rfl rfl rfl rfl dX7_read_96 ?_
              refine r_iconst (x := (-1 : Int32)) dX7_read_99 (by decide) ?_
              refine r_icmp_eq 109 dX7_read_100 (by decide) (fun c20 => ?_) (fun c20 => ?_)
              · replace h := it_pos c20 h
                refine r_sub (lv' := [(0, .ref (a0 0)), (1, .ref (a1 0)), (3, .int x3)]) [1, 2, 4] rfl ?_
                exact cRuleReader_read_j109  (ih) h
              · replace h := it_neg c20 h
                refine r_aload_n 1 dX7_read_103 rfl ?_
                refine r_aload_n 2 dX7_read_104 rfl ?_
                refine r_iconst (x := (0 : Int32)) dX7_read_105 (by decide) ?_
                obtain ⟨q21, h21, h⟩ := bd_some h
                refine b_callS (isC := [0, 1]) (st := []) (bs1 := [bCursor K a0 z0_text z0_size q21.1 q21.2.1, bRule K a1 q21.2.2.1 q21.2.2.2.1 u8 u10 z1_testTo z1_clauses q21.2.2.2.2.1 q21.2.2.2.2.2 z1_words z1_stack]) (cRuleReader_readTest (a0 := a0) (a1 := a1) (z0_text := z0_text) (z0_size := z0_size) (z0_at := q19.2) (z0_fault := q9.2.1) (z1_steps := q9.2.2.1) (z1_size := q9.2.2.2.1) (z1_sumFrom := u8) (z1_testFrom := u10) (z1_testTo := z1_testTo) (z1_clauses := z1_clauses) (z1_parts := q9.2.2.2.2.1) (z1_readsTime := q9.2.2.2.2.2) (z1_words := z1_words) (z1_stack := z1_stack) h21) rfl rfl (Nat.le_of_ble_eq_true rfl) (kRuleReader_readTest 40) (tb_in (i := 9) (j := 5) rfl rfl) (by decide) (by decide) rfl rfl rfl dX7_read_106 ?_
                refine r_sub (lv' := [(0, .ref (a0 0)), (1, .ref (a1 0)), (3, .int x3)]) [1, 2, 4] rfl ?_
                exact cRuleReader_read_j109  (ih) h
          · replace h := it_neg c7 h
            refine r_aload_n 1 dX7_read_53 rfl ?_
            refine r_iconst (x := (4 : Int32)) dX7_read_54 (by decide) ?_
            refine r_iload 0 dX7_read_55 rfl ?_
            obtain ⟨q22, h22, h⟩ := bd_some h
            refine b_callVN (isC := [0]) (ci := 0)  (st := []) (bs1 := [bCursor K a0 z0_text z0_size q5.2 q22, bRule K a1 z1_steps z1_size z1_sumFrom z1_testFrom z1_testTo z1_clauses z1_parts z1_readsTime z1_words z1_stack]) (cCursor_fail (a0 := a0) (z0_text := z0_text) (z0_size := z0_size) (z0_at := q5.2) (z0_fault := z0_fault) h22) rfl rfl (Nat.le_of_ble_eq_true rfl) kCursor_fail (List.mem_of_getElem? (i := 35) rfl) (by decide) (by decide) rfl rfl rfl rfl rfl rfl rfl dX7_read_57 ?_
            have hq := Option.some.inj h
            subst hq
            exact r_vret rfl dX7_read_60
        · replace h := it_pos c6 h
          refine r_aload_n 1 dX7_read_39 rfl ?_
          refine r_iconst (x := (0 : Int32)) dX7_read_40 (by decide) ?_
          refine r_iload 0 dX7_read_41 rfl ?_
          obtain ⟨q23, h23, h⟩ := bd_some h
          refine b_callVN (isC := [0]) (ci := 0)  (st := []) (bs1 := [bCursor K a0 z0_text z0_size q5.2 q23, bRule K a1 z1_steps z1_size z1_sumFrom z1_testFrom z1_testTo z1_clauses z1_parts z1_readsTime z1_words z1_stack]) (cCursor_fail (a0 := a0) (z0_text := z0_text) (z0_size := z0_size) (z0_at := q5.2) (z0_fault := z0_fault) h23) rfl rfl (Nat.le_of_ble_eq_true rfl) kCursor_fail (List.mem_of_getElem? (i := 35) rfl) (by decide) (by decide) rfl rfl rfl rfl rfl rfl rfl dX7_read_43 ?_
          have hq := Option.some.inj h
          subst hq
          exact r_vret rfl dX7_read_46
def mRuleReader_read (z0_text : Nat → Int32) (z0_size : Int32) (z0_at : Int32) (z0_fault : Int32) (z1_steps : Nat → Int32) (z1_size : Int32) (z1_sumFrom : Nat → Int32) (z1_testFrom : Nat → Int32) (z1_testTo : Nat → Int32) (z1_clauses : Int32) (z1_parts : Int32) (z1_readsTime : Int32) : Option (Int32 × Int32 × (Nat → Int32) × Int32 × (Nat → Int32) × (Nat → Int32) × (Nat → Int32) × Int32 × Int32 × Int32) := (mRule_clear z1_size z1_clauses z1_parts z1_readsTime).bind (fun q1 => mRuleReader_read_l8 z0_text z0_size FU (1 : Int32) (0 : Int32) z0_at z0_fault z1_steps q1.1 z1_sumFrom z1_testFrom z1_testTo q1.2.1 q1.2.2.1 q1.2.2.2)
set_option maxHeartbeats 4000000 in
set_option maxRecDepth 20000 in
theorem cRuleReader_read {q : Int32 × Int32 × (Nat → Int32) × Int32 × (Nat → Int32) × (Nat → Int32) × (Nat → Int32) × Int32 × Int32 × Int32}  (h : mRuleReader_read z0_text z0_size z0_at z0_fault z1_steps z1_size z1_sumFrom z1_testFrom z1_testTo z1_clauses z1_parts z1_readsTime = some q) : rMet l D Z (ty7 K) MRuleReader_read [.ref (a0 0), .ref (a1 0)] (List.flatten [bCursor K a0 z0_text z0_size z0_at z0_fault, bRule K a1 z1_steps z1_size z1_sumFrom z1_testFrom z1_testTo z1_clauses z1_parts z1_readsTime z1_words z1_stack]) (List.flatten [bCursor K a0 z0_text z0_size q.1 q.2.1, bRule K a1 q.2.2.1 q.2.2.2.1 q.2.2.2.2.1 q.2.2.2.2.2.1 q.2.2.2.2.2.2.1 q.2.2.2.2.2.2.2.1 q.2.2.2.2.2.2.2.2.1 q.2.2.2.2.2.2.2.2.2 z1_words z1_stack]) none := by
  refine rMet.of (by decide) rfl (Nat.le_of_ble_eq_true rfl) ?_
  refine r_sub (lv' := [(0, .ref (a0 0)), (1, .ref (a1 0))]) [0, 1] rfl ?_
  unfold mRuleReader_read at h
  refine r_aload_n 1 dX7_read_0 rfl ?_
  obtain ⟨q1, h1, h⟩ := bd_some h
  refine b_callVN (isC := [1]) (ci := 5)  (st := []) (bs1 := [bCursor K a0 z0_text z0_size z0_at z0_fault, bRule K a1 z1_steps q1.1 z1_sumFrom z1_testFrom z1_testTo q1.2.1 q1.2.2.1 q1.2.2.2 z1_words z1_stack]) (cRule_clear (a0 := a1) (z0_steps := z1_steps) (z0_size := z1_size) (z0_sumFrom := z1_sumFrom) (z0_testFrom := z1_testFrom) (z0_testTo := z1_testTo) (z0_clauses := z1_clauses) (z0_parts := z1_parts) (z0_readsTime := z1_readsTime) (z0_words := z1_words) (z0_stack := z1_stack) h1) rfl rfl (Nat.le_of_ble_eq_true rfl) kRule_clear (List.mem_of_getElem? (i := 32) rfl) (by decide) (by decide) rfl rfl rfl rfl rfl rfl rfl dX7_read_1 ?_
  refine r_iconst (x := (1 : Int32)) dX7_read_4 (by decide) ?_
  refine r_istore_n (lv' := [(2, .int (1 : Int32)), (0, .ref (a0 0)), (1, .ref (a1 0))]) dX7_read_5 (Nat.le_of_ble_eq_true rfl) rfl ?_
  refine r_iconst (x := (0 : Int32)) dX7_read_6 (by decide) ?_
  refine r_istore_n (lv' := [(3, .int (0 : Int32)), (2, .int (1 : Int32)), (0, .ref (a0 0)), (1, .ref (a1 0))]) dX7_read_7 (Nat.le_of_ble_eq_true rfl) rfl ?_
  refine r_sub (lv' := [(0, .ref (a0 0)), (1, .ref (a1 0)), (2, .int (1 : Int32)), (3, .int (0 : Int32))]) [2, 3, 1, 0] rfl ?_
  exact cRuleReader_read_l8   FU (1 : Int32) (0 : Int32) z0_at z0_fault z1_steps q1.1 z1_sumFrom z1_testFrom z1_testTo q1.2.1 q1.2.2.1 q1.2.2.2 h
end
theorem dX5_forget_0 : decode cX5_forget 0 = .ok (.aload_n 0, 1) := by decide +kernel
theorem dX5_forget_1 : decode cX5_forget 1 = .ok (.iconst 0, 1) := by decide +kernel
theorem dX5_forget_2 : decode cX5_forget 2 = .ok (.putfield 21, 3) := by decide +kernel
theorem dX5_forget_5 : decode cX5_forget 5 = .ok (.return_, 1) := by decide +kernel
abbrev MPast_forget : rx_M := (RX5, yX5_forget, cX5_forget, 1, none, 1)
theorem kPast_forget : rKv MPast_forget 0 := ⟨tb_in (i := 13) (j := 23) rfl rfl, tb_in (i := 13) (j := 24) rfl rfl, tb_in (i := 12) (j := 29) rfl rfl, tb_in (i := 8) (j := 15) rfl rfl, ⟨by decide, by decide, by decide +kernel⟩, by decide⟩
section
variable {a0 : Nat → Nat} {g0 : tyPast} {f0_fairs : Nat → Option Nat}
def mPast_forget (g0 : tyPast) : Option (tyPast) := some ((g0.1, (0 : Int32)))
set_option maxHeartbeats 4000000 in
set_option maxRecDepth 20000 in
theorem cPast_forget {q : tyPast}  (h : mPast_forget g0 = some q) : rMet l D Z (ty7 K) MPast_forget [.ref (a0 0)] (List.flatten [bPastG K a0 f0_fairs g0]) (List.flatten [bPastG K a0 f0_fairs q]) none := by
  refine rMet.of (by decide) rfl (Nat.le_of_ble_eq_true rfl) ?_
  refine r_sub (lv' := [(0, .ref (a0 0))]) [0] rfl ?_
  unfold mPast_forget at h
  refine r_aload_n 0 dX5_forget_0 rfl ?_
  refine r_iconst (x := (0 : Int32)) dX5_forget_1 (by decide) ?_
  refine pPast_size (bs1 := [bPast K a0 f0_fairs g0.1 (0 : Int32)]) 0 rfl rfl (tb_in (i := 8) (j := 6) rfl rfl) dX5_forget_2 ?_
  have hq := Option.some.inj h
  subst hq
  exact r_vret rfl dX5_forget_5
end
theorem dX9_mostAlike_0 : decode cX9_mostAlike 0 = .ok (.iconst 0, 1) := by decide +kernel
theorem dX9_mostAlike_1 : decode cX9_mostAlike 1 = .ok (.istore_n 3, 1) := by decide +kernel
theorem dX9_mostAlike_2 : decode cX9_mostAlike 2 = .ok (.iconst 0, 1) := by decide +kernel
theorem dX9_mostAlike_3 : decode cX9_mostAlike 3 = .ok (.istore 4, 2) := by decide +kernel
theorem dX9_mostAlike_5 : decode cX9_mostAlike 5 = .ok (.iload 4, 2) := by decide +kernel
theorem dX9_mostAlike_7 : decode cX9_mostAlike 7 = .ok (.iload_n 2, 1) := by decide +kernel
theorem dX9_mostAlike_8 : decode cX9_mostAlike 8 = .ok (.if_icmp .ge 64, 3) := by decide +kernel
theorem dX9_mostAlike_11 : decode cX9_mostAlike 11 = .ok (.iconst 0, 1) := by decide +kernel
theorem dX9_mostAlike_12 : decode cX9_mostAlike 12 = .ok (.istore 5, 2) := by decide +kernel
theorem dX9_mostAlike_14 : decode cX9_mostAlike 14 = .ok (.iconst 0, 1) := by decide +kernel
theorem dX9_mostAlike_15 : decode cX9_mostAlike 15 = .ok (.istore 6, 2) := by decide +kernel
theorem dX9_mostAlike_17 : decode cX9_mostAlike 17 = .ok (.iload 6, 2) := by decide +kernel
theorem dX9_mostAlike_19 : decode cX9_mostAlike 19 = .ok (.iload_n 2, 1) := by decide +kernel
theorem dX9_mostAlike_20 : decode cX9_mostAlike 20 = .ok (.if_icmp .ge 39, 3) := by decide +kernel
theorem dX9_mostAlike_23 : decode cX9_mostAlike 23 = .ok (.aload_n 0, 1) := by decide +kernel
theorem dX9_mostAlike_24 : decode cX9_mostAlike 24 = .ok (.getfield 41, 3) := by decide +kernel
theorem dX9_mostAlike_27 : decode cX9_mostAlike 27 = .ok (.iload 4, 2) := by decide +kernel
theorem dX9_mostAlike_29 : decode cX9_mostAlike 29 = .ok (.bipush 6, 2) := by decide +kernel
theorem dX9_mostAlike_31 : decode cX9_mostAlike 31 = .ok (.imul, 1) := by decide +kernel
theorem dX9_mostAlike_32 : decode cX9_mostAlike 32 = .ok (.iload_n 1, 1) := by decide +kernel
theorem dX9_mostAlike_33 : decode cX9_mostAlike 33 = .ok (.iadd, 1) := by decide +kernel
theorem dX9_mostAlike_34 : decode cX9_mostAlike 34 = .ok (.iaload, 1) := by decide +kernel
theorem dX9_mostAlike_35 : decode cX9_mostAlike 35 = .ok (.aload_n 0, 1) := by decide +kernel
theorem dX9_mostAlike_36 : decode cX9_mostAlike 36 = .ok (.getfield 41, 3) := by decide +kernel
theorem dX9_mostAlike_39 : decode cX9_mostAlike 39 = .ok (.iload 6, 2) := by decide +kernel
theorem dX9_mostAlike_41 : decode cX9_mostAlike 41 = .ok (.bipush 6, 2) := by decide +kernel
theorem dX9_mostAlike_43 : decode cX9_mostAlike 43 = .ok (.imul, 1) := by decide +kernel
theorem dX9_mostAlike_44 : decode cX9_mostAlike 44 = .ok (.iload_n 1, 1) := by decide +kernel
theorem dX9_mostAlike_45 : decode cX9_mostAlike 45 = .ok (.iadd, 1) := by decide +kernel
theorem dX9_mostAlike_46 : decode cX9_mostAlike 46 = .ok (.iaload, 1) := by decide +kernel
theorem dX9_mostAlike_47 : decode cX9_mostAlike 47 = .ok (.if_icmp .ne 6, 3) := by decide +kernel
theorem dX9_mostAlike_50 : decode cX9_mostAlike 50 = .ok (.iinc 5 1, 3) := by decide +kernel
theorem dX9_mostAlike_53 : decode cX9_mostAlike 53 = .ok (.iinc 6 1, 3) := by decide +kernel
theorem dX9_mostAlike_56 : decode cX9_mostAlike 56 = .ok (.goto (-39), 3) := by decide +kernel
theorem dX9_mostAlike_59 : decode cX9_mostAlike 59 = .ok (.iload_n 3, 1) := by decide +kernel
theorem dX9_mostAlike_60 : decode cX9_mostAlike 60 = .ok (.iload 5, 2) := by decide +kernel
theorem dX9_mostAlike_62 : decode cX9_mostAlike 62 = .ok (.invokestatic 161, 3) := by decide +kernel
theorem dX9_mostAlike_65 : decode cX9_mostAlike 65 = .ok (.istore_n 3, 1) := by decide +kernel
theorem dX9_mostAlike_66 : decode cX9_mostAlike 66 = .ok (.iinc 4 1, 3) := by decide +kernel
theorem dX9_mostAlike_69 : decode cX9_mostAlike 69 = .ok (.goto (-64), 3) := by decide +kernel
theorem dX9_mostAlike_72 : decode cX9_mostAlike 72 = .ok (.iload_n 3, 1) := by decide +kernel
theorem dX9_mostAlike_73 : decode cX9_mostAlike 73 = .ok (.ireturn, 1) := by decide +kernel
abbrev MTrials_mostAlike : rx_M := (RX9, yX9_mostAlike, cX9_mostAlike, 7, (some .int), 3)
theorem kTrials_mostAlike : rKv MTrials_mostAlike 2 := ⟨tb_in (i := 11) (j := 18) rfl rfl, tb_in (i := 11) (j := 19) rfl rfl, tb_in (i := 10) (j := 11) rfl rfl, tb_in (i := 11) (j := 13) rfl rfl, ⟨by decide, by decide, by decide +kernel⟩, by decide⟩
section
variable {a0 : Nat → Nat → Nat} {g0 : tyTrials} {g1 : tyFair} {g2 : tyOrder} {g3 : tyOrder}
def mTrials_mostAlike_l17 (g0 : tyTrials) (x1 : Int32) (x2 : Int32) (x3 : Int32) (x4 : Int32) (k5 : Int32 → Int32 → Option (Int32)) : Nat → Int32 → Int32 → Option (Int32)
  | 0, _, _ => none
  | n + 1, x5, x6 => (if x2 ≤ x6 then lt (if x3 < x5 then x5 else x3) (fun y3 => k5 y3 (x4 + (1 : Int32))) else rq (inb ((x4 * (6 : Int32)) + x1) 42) (rq (inb ((x6 * (6 : Int32)) + x1) 42) ((if (g0.2.2.2.2 ((x4 * (6 : Int32)) + x1).toNatClampNeg) = (g0.2.2.2.2 ((x6 * (6 : Int32)) + x1).toNatClampNeg) then mTrials_mostAlike_l17 g0 x1 x2 x3 x4 k5 n (x5 + (1 : Int32)) (x6 + (1 : Int32)) else mTrials_mostAlike_l17 g0 x1 x2 x3 x4 k5 n x5 (x6 + (1 : Int32))))))
set_option maxHeartbeats 4000000 in
set_option maxRecDepth 20000 in
theorem cTrials_mostAlike_l17 {q : Int32} {x1 : Int32} {x2 : Int32} {x3 : Int32} {x4 : Int32} {k5 : Int32 → Int32 → Option (Int32)} (hk5 : ∀ (x3 : Int32) (x4 : Int32), k5 x3 x4 = some q → rW l D Z (ty7 K) MTrials_mostAlike 5 [(0, .ref ((a0 0) 0)), (1, .int x1), (2, .int x2), (3, .int x3), (4, .int x4)] [] (List.flatten [bTrialsG K (a0 0) ((a0 1) 0) ((a0 2) 0) ((a0 3) 0) g0, bFairG K (a0 1) g1, bOrderG K (a0 2) g2, bOrderG K (a0 3) g3]) (List.flatten [bTrialsG K (a0 0) ((a0 1) 0) ((a0 2) 0) ((a0 3) 0) g0, bFairG K (a0 1) g1, bOrderG K (a0 2) g2, bOrderG K (a0 3) g3]) (some (.int q))) : ∀ (n : Nat) (x5 : Int32) (x6 : Int32), mTrials_mostAlike_l17 g0 x1 x2 x3 x4 k5 n x5 x6 = some q → rW l D Z (ty7 K) MTrials_mostAlike 17 [(0, .ref ((a0 0) 0)), (1, .int x1), (2, .int x2), (3, .int x3), (4, .int x4), (5, .int x5), (6, .int x6)] [] (List.flatten [bTrialsG K (a0 0) ((a0 1) 0) ((a0 2) 0) ((a0 3) 0) g0, bFairG K (a0 1) g1, bOrderG K (a0 2) g2, bOrderG K (a0 3) g3]) (List.flatten [bTrialsG K (a0 0) ((a0 1) 0) ((a0 2) 0) ((a0 3) 0) g0, bFairG K (a0 1) g1, bOrderG K (a0 2) g2, bOrderG K (a0 3) g3]) (some (.int q)) := by
  intro n
  induction n with
  | zero => intro x5 x6 h; unfold mTrials_mostAlike_l17 at h; cases h
  | succ n ih =>
    intro x5 x6 h
    unfold mTrials_mostAlike_l17 at h
    refine r_iload 6 dX9_mostAlike_17 rfl ?_
    refine r_iload_n 2 dX9_mostAlike_19 rfl ?_
    refine r_icmp_ge 59 dX9_mostAlike_20 (by decide) (fun c2 => ?_) (fun c2 => ?_)
    · replace h := it_pos c2 h
      refine r_iload_n 3 dX9_mostAlike_59 rfl ?_
      refine r_iload 5 dX9_mostAlike_60 rfl ?_
      refine r_mmax (tb_in (i := 11) (j := 14) rfl rfl) (tb_in (i := 11) (j := 15) rfl rfl) (tb_in (i := 3) (j := 21) rfl rfl) (tb_in (i := 11) (j := 16) rfl rfl) (by decide) (Nat.le_of_ble_eq_true rfl) dX9_mostAlike_62 ?_
      obtain ⟨y3, e3, h⟩ := lt_some h
      refine r_top e3 ?_
      refine r_istore_n (lv' := [(3, .int y3), (0, .ref ((a0 0) 0)), (1, .int x1), (2, .int x2), (4, .int x4), (5, .int x5), (6, .int x6)]) dX9_mostAlike_65 (Nat.le_of_ble_eq_true rfl) rfl ?_
      refine r_iinc (y := (x4 + (1 : Int32))) (lv' := [(4, .int (x4 + (1 : Int32))), (3, .int y3), (0, .ref ((a0 0) 0)), (1, .int x1), (2, .int x2), (5, .int x5), (6, .int x6)]) 4 dX9_mostAlike_66 rfl rfl (Nat.le_of_ble_eq_true rfl) rfl ?_
      refine r_goto 5 dX9_mostAlike_69 (by decide) ?_
      refine r_sub (lv' := [(0, .ref ((a0 0) 0)), (1, .int x1), (2, .int x2), (3, .int y3), (4, .int (x4 + (1 : Int32)))]) [2, 3, 4, 1, 0] rfl ?_
      exact hk5 y3 (x4 + (1 : Int32)) h
    · replace h := it_neg c2 h
      refine r_aload_n 0 dX9_mostAlike_23 rfl ?_
      refine gTrials_tills 0 rfl (tb_in (i := 10) (j := 0) rfl rfl) dX9_mostAlike_24 ?_
      refine r_iload 4 dX9_mostAlike_27 rfl ?_
      refine r_bipush (x := (6 : Int32)) dX9_mostAlike_29 (by decide) ?_
      refine r_imul dX9_mostAlike_31 ?_
      refine r_iload_n 1 dX9_mostAlike_32 rfl ?_
      refine r_iadd dX9_mostAlike_33 ?_
      obtain ⟨h4, h⟩ := rq_some h
      refine lTrials_tills 0 rfl (inb_in h4) dX9_mostAlike_34 ?_
      refine r_aload_n 0 dX9_mostAlike_35 rfl ?_
      refine gTrials_tills 0 rfl (tb_in (i := 10) (j := 0) rfl rfl) dX9_mostAlike_36 ?_
      refine r_iload 6 dX9_mostAlike_39 rfl ?_
      refine r_bipush (x := (6 : Int32)) dX9_mostAlike_41 (by decide) ?_
      refine r_imul dX9_mostAlike_43 ?_
      refine r_iload_n 1 dX9_mostAlike_44 rfl ?_
      refine r_iadd dX9_mostAlike_45 ?_
      obtain ⟨h5, h⟩ := rq_some h
      refine lTrials_tills 0 rfl (inb_in h5) dX9_mostAlike_46 ?_
      refine r_icmp_ne 53 dX9_mostAlike_47 (by decide) (fun c6 => ?_) (fun c6 => ?_)
      · replace h := it_neg c6 h
        refine r_iinc (y := (x6 + (1 : Int32))) (lv' := [(6, .int (x6 + (1 : Int32))), (0, .ref ((a0 0) 0)), (1, .int x1), (2, .int x2), (3, .int x3), (4, .int x4), (5, .int x5)]) 6 dX9_mostAlike_53 rfl rfl (Nat.le_of_ble_eq_true rfl) rfl ?_
        refine r_goto 17 dX9_mostAlike_56 (by decide) ?_
        refine r_sub (lv' := [(0, .ref ((a0 0) 0)), (1, .int x1), (2, .int x2), (3, .int x3), (4, .int x4), (5, .int x5), (6, .int (x6 + (1 : Int32)))]) [1, 2, 3, 4, 5, 6, 0] rfl ?_
        exact ih x5 (x6 + (1 : Int32)) h
      · replace h := it_pos c6 h
        refine r_iinc (y := (x5 + (1 : Int32))) (lv' := [(5, .int (x5 + (1 : Int32))), (0, .ref ((a0 0) 0)), (1, .int x1), (2, .int x2), (3, .int x3), (4, .int x4), (6, .int x6)]) 5 dX9_mostAlike_50 rfl rfl (Nat.le_of_ble_eq_true rfl) rfl ?_
        refine r_iinc (y := (x6 + (1 : Int32))) (lv' := [(6, .int (x6 + (1 : Int32))), (5, .int (x5 + (1 : Int32))), (0, .ref ((a0 0) 0)), (1, .int x1), (2, .int x2), (3, .int x3), (4, .int x4)]) 6 dX9_mostAlike_53 rfl rfl (Nat.le_of_ble_eq_true rfl) rfl ?_
        refine r_goto 17 dX9_mostAlike_56 (by decide) ?_
        refine r_sub (lv' := [(0, .ref ((a0 0) 0)), (1, .int x1), (2, .int x2), (3, .int x3), (4, .int x4), (5, .int (x5 + (1 : Int32))), (6, .int (x6 + (1 : Int32)))]) [2, 3, 4, 5, 6, 1, 0] rfl ?_
        exact ih (x5 + (1 : Int32)) (x6 + (1 : Int32)) h
def mTrials_mostAlike_l5 (g0 : tyTrials) (x1 : Int32) (x2 : Int32) : Nat → Int32 → Int32 → Option (Int32)
  | 0, _, _ => none
  | n + 1, x3, x4 => (if x2 ≤ x4 then some (x3) else mTrials_mostAlike_l17 g0 x1 x2 x3 x4 (mTrials_mostAlike_l5 g0 x1 x2 n) FU (0 : Int32) (0 : Int32))
set_option maxHeartbeats 4000000 in
set_option maxRecDepth 20000 in
theorem cTrials_mostAlike_l5 {q : Int32} {x1 : Int32} {x2 : Int32}  : ∀ (n : Nat) (x3 : Int32) (x4 : Int32), mTrials_mostAlike_l5 g0 x1 x2 n x3 x4 = some q → rW l D Z (ty7 K) MTrials_mostAlike 5 [(0, .ref ((a0 0) 0)), (1, .int x1), (2, .int x2), (3, .int x3), (4, .int x4)] [] (List.flatten [bTrialsG K (a0 0) ((a0 1) 0) ((a0 2) 0) ((a0 3) 0) g0, bFairG K (a0 1) g1, bOrderG K (a0 2) g2, bOrderG K (a0 3) g3]) (List.flatten [bTrialsG K (a0 0) ((a0 1) 0) ((a0 2) 0) ((a0 3) 0) g0, bFairG K (a0 1) g1, bOrderG K (a0 2) g2, bOrderG K (a0 3) g3]) (some (.int q)) := by
  intro n
  induction n with
  | zero => intro x3 x4 h; unfold mTrials_mostAlike_l5 at h; cases h
  | succ n ih =>
    intro x3 x4 h
    unfold mTrials_mostAlike_l5 at h
    refine r_iload 4 dX9_mostAlike_5 rfl ?_
    refine r_iload_n 2 dX9_mostAlike_7 rfl ?_
    refine r_icmp_ge 72 dX9_mostAlike_8 (by decide) (fun c1 => ?_) (fun c1 => ?_)
    · replace h := it_pos c1 h
      refine r_iload_n 3 dX9_mostAlike_72 rfl ?_
      have hq := Option.some.inj h
      subst hq
      exact r_iret rfl dX9_mostAlike_73
    · replace h := it_neg c1 h
      refine r_iconst (x := (0 : Int32)) dX9_mostAlike_11 (by decide) ?_
      refine r_istore (lv' := [(5, .int (0 : Int32)), (0, .ref ((a0 0) 0)), (1, .int x1), (2, .int x2), (3, .int x3), (4, .int x4)]) dX9_mostAlike_12 (Nat.le_of_ble_eq_true rfl) rfl ?_
      refine r_iconst (x := (0 : Int32)) dX9_mostAlike_14 (by decide) ?_
      refine r_istore (lv' := [(6, .int (0 : Int32)), (5, .int (0 : Int32)), (0, .ref ((a0 0) 0)), (1, .int x1), (2, .int x2), (3, .int x3), (4, .int x4)]) dX9_mostAlike_15 (Nat.le_of_ble_eq_true rfl) rfl ?_
      refine r_sub (lv' := [(0, .ref ((a0 0) 0)), (1, .int x1), (2, .int x2), (3, .int x3), (4, .int x4), (5, .int (0 : Int32)), (6, .int (0 : Int32))]) [2, 3, 4, 5, 6, 1, 0] rfl ?_
      exact cTrials_mostAlike_l17 (g0 := g0) (ih) FU (0 : Int32) (0 : Int32) h
def mTrials_mostAlike (x1 : Int32) (x2 : Int32) (g0 : tyTrials) : Option (Int32) := mTrials_mostAlike_l5 g0 x1 x2 FU (0 : Int32) (0 : Int32)
set_option maxHeartbeats 4000000 in
set_option maxRecDepth 20000 in
theorem cTrials_mostAlike {q : Int32} {x1 : Int32} {x2 : Int32} (h : mTrials_mostAlike x1 x2 g0 = some q) : rMet l D Z (ty7 K) MTrials_mostAlike [.ref ((a0 0) 0), .int x1, .int x2] (List.flatten [bTrialsG K (a0 0) ((a0 1) 0) ((a0 2) 0) ((a0 3) 0) g0, bFairG K (a0 1) g1, bOrderG K (a0 2) g2, bOrderG K (a0 3) g3]) (List.flatten [bTrialsG K (a0 0) ((a0 1) 0) ((a0 2) 0) ((a0 3) 0) g0, bFairG K (a0 1) g1, bOrderG K (a0 2) g2, bOrderG K (a0 3) g3]) (some (.int q)) := by
  refine rMet.of (by decide) rfl (Nat.le_of_ble_eq_true rfl) ?_
  refine r_sub (lv' := [(0, .ref ((a0 0) 0)), (1, .int x1), (2, .int x2)]) [0, 1, 2] rfl ?_
  unfold mTrials_mostAlike at h
  refine r_iconst (x := (0 : Int32)) dX9_mostAlike_0 (by decide) ?_
  refine r_istore_n (lv' := [(3, .int (0 : Int32)), (0, .ref ((a0 0) 0)), (1, .int x1), (2, .int x2)]) dX9_mostAlike_1 (Nat.le_of_ble_eq_true rfl) rfl ?_
  refine r_iconst (x := (0 : Int32)) dX9_mostAlike_2 (by decide) ?_
  refine r_istore (lv' := [(4, .int (0 : Int32)), (3, .int (0 : Int32)), (0, .ref ((a0 0) 0)), (1, .int x1), (2, .int x2)]) dX9_mostAlike_3 (Nat.le_of_ble_eq_true rfl) rfl ?_
  refine r_sub (lv' := [(0, .ref ((a0 0) 0)), (1, .int x1), (2, .int x2), (3, .int (0 : Int32)), (4, .int (0 : Int32))]) [2, 3, 4, 1, 0] rfl ?_
  exact cTrials_mostAlike_l5 (g0 := g0)  FU (0 : Int32) (0 : Int32) h
end
theorem dX11_isPlaceOrNone_0 : decode cX11_isPlaceOrNone 0 = .ok (.iload_n 0, 1) := by decide +kernel
theorem dX11_isPlaceOrNone_1 : decode cX11_isPlaceOrNone 1 = .ok (.iconst (-1), 1) := by decide +kernel
theorem dX11_isPlaceOrNone_2 : decode cX11_isPlaceOrNone 2 = .ok (.iconst 5, 1) := by decide +kernel
theorem dX11_isPlaceOrNone_3 : decode cX11_isPlaceOrNone 3 = .ok (.invokestatic 70, 3) := by decide +kernel
theorem dX11_isPlaceOrNone_6 : decode cX11_isPlaceOrNone 6 = .ok (.ireturn, 1) := by decide +kernel
abbrev MNextStall_isPlaceOrNone : rx_M := (RX11, yX11_isPlaceOrNone, cX11_isPlaceOrNone, 1, (some .boolean), 2)
theorem kNextStall_isPlaceOrNone : rKs MNextStall_isPlaceOrNone 1 := ⟨tb_in (i := 15) (j := 0) rfl rfl, tb_in (i := 2) (j := 22) rfl rfl, tb_in (i := 14) (j := 30) rfl rfl, ⟨by decide, by decide, by decide +kernel⟩, by decide⟩
section
def mNextStall_isPlaceOrNone (x0 : Int32) : Option (Int32) := (mNextStall_within x0 (-1 : Int32) (5 : Int32)).bind (fun q1 => rq (bo q1) (some (q1)))
set_option maxHeartbeats 4000000 in
set_option maxRecDepth 20000 in
theorem cNextStall_isPlaceOrNone {q : Int32} {x0 : Int32} (h : mNextStall_isPlaceOrNone x0 = some q) : rMet l D Z (ty7 K) MNextStall_isPlaceOrNone [.int x0] (List.flatten []) (List.flatten []) (some (.int q)) := by
  refine rMet.of (by decide) rfl (Nat.le_of_ble_eq_true rfl) ?_
  refine r_sub (lv' := [(0, .int x0)]) [0] rfl ?_
  unfold mNextStall_isPlaceOrNone at h
  refine r_iload_n 0 dX11_isPlaceOrNone_0 rfl ?_
  refine r_iconst (x := (-1 : Int32)) dX11_isPlaceOrNone_1 (by decide) ?_
  refine r_iconst (x := (5 : Int32)) dX11_isPlaceOrNone_2 (by decide) ?_
  obtain ⟨q1, h1, h⟩ := bd_some h
  refine b_callS (isC := []) (st := []) (bs1 := []) (cNextStall_within   h1) rfl rfl (Nat.le_of_ble_eq_true rfl) kNextStall_within (tb_in (i := 13) (j := 17) rfl rfl) (by decide) (by decide) rfl rfl rfl dX11_isPlaceOrNone_3 ?_
  obtain ⟨h2, h⟩ := rq_some h
  have hq := Option.some.inj h
  subst hq
  exact r_zret (ty := .boolean) rfl (bo_nar h2) dX11_isPlaceOrNone_6
end
end PC6
