section PC6
variable {l : Launch} {D : va_G} {Z : (Nat → Nat) × (Nat → Nat)} {K : Nat → ClassId}
theorem dX7_readSign_0 : decode cX7_readSign 0 = .ok (.aload_n 0, 1) := by decide +kernel
theorem dX7_readSign_1 : decode cX7_readSign 1 = .ok (.invokevirtual 16, 3) := by decide +kernel
theorem dX7_readSign_4 : decode cX7_readSign 4 = .ok (.pop, 1) := by decide +kernel
theorem dX7_readSign_5 : decode cX7_readSign 5 = .ok (.aload_n 0, 1) := by decide +kernel
theorem dX7_readSign_6 : decode cX7_readSign 6 = .ok (.getfield 22, 3) := by decide +kernel
theorem dX7_readSign_9 : decode cX7_readSign 9 = .ok (.istore_n 2, 1) := by decide +kernel
theorem dX7_readSign_10 : decode cX7_readSign 10 = .ok (.aload_n 0, 1) := by decide +kernel
theorem dX7_readSign_11 : decode cX7_readSign 11 = .ok (.ldc 90, 2) := by decide +kernel
theorem dX7_readSign_13 : decode cX7_readSign 13 = .ok (.invokevirtual 83, 3) := by decide +kernel
theorem dX7_readSign_16 : decode cX7_readSign 16 = .ok (.istore_n 3, 1) := by decide +kernel
theorem dX7_readSign_17 : decode cX7_readSign 17 = .ok (.iload_n 3, 1) := by decide +kernel
theorem dX7_readSign_18 : decode cX7_readSign 18 = .ok (.iconst (-1), 1) := by decide +kernel
theorem dX7_readSign_19 : decode cX7_readSign 19 = .ok (.if_icmp .ne 11, 3) := by decide +kernel
theorem dX7_readSign_22 : decode cX7_readSign 22 = .ok (.aload_n 0, 1) := by decide +kernel
theorem dX7_readSign_23 : decode cX7_readSign 23 = .ok (.iconst 0, 1) := by decide +kernel
theorem dX7_readSign_24 : decode cX7_readSign 24 = .ok (.iload_n 2, 1) := by decide +kernel
theorem dX7_readSign_25 : decode cX7_readSign 25 = .ok (.invokevirtual 32, 3) := by decide +kernel
theorem dX7_readSign_28 : decode cX7_readSign 28 = .ok (.iconst 0, 1) := by decide +kernel
theorem dX7_readSign_29 : decode cX7_readSign 29 = .ok (.ireturn, 1) := by decide +kernel
theorem dX7_readSign_30 : decode cX7_readSign 30 = .ok (.aload_n 0, 1) := by decide +kernel
theorem dX7_readSign_31 : decode cX7_readSign 31 = .ok (.aload_n 1, 1) := by decide +kernel
theorem dX7_readSign_32 : decode cX7_readSign 32 = .ok (.iload_n 2, 1) := by decide +kernel
theorem dX7_readSign_33 : decode cX7_readSign 33 = .ok (.invokestatic 92, 3) := by decide +kernel
theorem dX7_readSign_36 : decode cX7_readSign 36 = .ok (.iload_n 3, 1) := by decide +kernel
theorem dX7_readSign_37 : decode cX7_readSign 37 = .ok (.iconst 1, 1) := by decide +kernel
theorem dX7_readSign_38 : decode cX7_readSign 38 = .ok (.if_icmp .eq 32, 3) := by decide +kernel
theorem dX7_readSign_41 : decode cX7_readSign 41 = .ok (.aload_n 0, 1) := by decide +kernel
theorem dX7_readSign_42 : decode cX7_readSign 42 = .ok (.getfield 22, 3) := by decide +kernel
theorem dX7_readSign_45 : decode cX7_readSign 45 = .ok (.aload_n 0, 1) := by decide +kernel
theorem dX7_readSign_46 : decode cX7_readSign 46 = .ok (.getfield 95, 3) := by decide +kernel
theorem dX7_readSign_49 : decode cX7_readSign 49 = .ok (.if_icmp .ge 21, 3) := by decide +kernel
theorem dX7_readSign_52 : decode cX7_readSign 52 = .ok (.aload_n 0, 1) := by decide +kernel
theorem dX7_readSign_53 : decode cX7_readSign 53 = .ok (.getfield 96, 3) := by decide +kernel
theorem dX7_readSign_56 : decode cX7_readSign 56 = .ok (.aload_n 0, 1) := by decide +kernel
theorem dX7_readSign_57 : decode cX7_readSign 57 = .ok (.getfield 22, 3) := by decide +kernel
theorem dX7_readSign_60 : decode cX7_readSign 60 = .ok (.baload, 1) := by decide +kernel
theorem dX7_readSign_61 : decode cX7_readSign 61 = .ok (.bipush 61, 2) := by decide +kernel
theorem dX7_readSign_63 : decode cX7_readSign 63 = .ok (.if_icmp .ne 7, 3) := by decide +kernel
theorem dX7_readSign_66 : decode cX7_readSign 66 = .ok (.iconst 1, 1) := by decide +kernel
theorem dX7_readSign_67 : decode cX7_readSign 67 = .ok (.goto 4, 3) := by decide +kernel
theorem dX7_readSign_70 : decode cX7_readSign 70 = .ok (.iconst 0, 1) := by decide +kernel
theorem dX7_readSign_71 : decode cX7_readSign 71 = .ok (.istore 4, 2) := by decide +kernel
theorem dX7_readSign_73 : decode cX7_readSign 73 = .ok (.iload 4, 2) := by decide +kernel
theorem dX7_readSign_75 : decode cX7_readSign 75 = .ok (.ifCond .eq 13, 3) := by decide +kernel
theorem dX7_readSign_78 : decode cX7_readSign 78 = .ok (.aload_n 0, 1) := by decide +kernel
theorem dX7_readSign_79 : decode cX7_readSign 79 = .ok (.dup, 1) := by decide +kernel
theorem dX7_readSign_80 : decode cX7_readSign 80 = .ok (.getfield 22, 3) := by decide +kernel
theorem dX7_readSign_83 : decode cX7_readSign 83 = .ok (.iconst 1, 1) := by decide +kernel
theorem dX7_readSign_84 : decode cX7_readSign 84 = .ok (.iadd, 1) := by decide +kernel
theorem dX7_readSign_85 : decode cX7_readSign 85 = .ok (.putfield 22, 3) := by decide +kernel
theorem dX7_readSign_88 : decode cX7_readSign 88 = .ok (.iconst 1, 1) := by decide +kernel
theorem dX7_readSign_89 : decode cX7_readSign 89 = .ok (.iload_n 3, 1) := by decide +kernel
theorem dX7_readSign_90 : decode cX7_readSign 90 = .ok (.ishl, 1) := by decide +kernel
theorem dX7_readSign_91 : decode cX7_readSign 91 = .ok (.iload 4, 2) := by decide +kernel
theorem dX7_readSign_93 : decode cX7_readSign 93 = .ok (.ifCond .eq 7, 3) := by decide +kernel
theorem dX7_readSign_96 : decode cX7_readSign 96 = .ok (.iconst 2, 1) := by decide +kernel
theorem dX7_readSign_97 : decode cX7_readSign 97 = .ok (.goto 4, 3) := by decide +kernel
theorem dX7_readSign_100 : decode cX7_readSign 100 = .ok (.iconst 0, 1) := by decide +kernel
theorem dX7_readSign_101 : decode cX7_readSign 101 = .ok (.ior, 1) := by decide +kernel
theorem dX7_readSign_102 : decode cX7_readSign 102 = .ok (.ireturn, 1) := by decide +kernel
abbrev MRuleReader_readSign : rx_M := (RX7, yX7_readSign, cX7_readSign, 5, (some .int), 8)
theorem kRuleReader_readSign : rKs MRuleReader_readSign 2 := ⟨tb_in (i := 9) (j := 13) rfl rfl, tb_in (i := 8) (j := 30) rfl rfl, tb_in (i := 9) (j := 5) rfl rfl, ⟨by decide, by decide, by decide +kernel⟩, by decide⟩
section
variable {a0 : Nat → Nat} {a1 : Nat → Nat} {z0_text : Nat → Int32} {z0_size : Int32} {z0_at : Int32} {z0_fault : Int32} {z1_steps : Nat → Int32} {z1_size : Int32} {z1_sumFrom : Nat → Int32} {z1_testFrom : Nat → Int32} {z1_testTo : Nat → Int32} {z1_clauses : Int32} {z1_parts : Int32} {z1_readsTime : Int32} {z1_words : Nat → Int64} {z1_stack : Nat → Int64}
def mRuleReader_readSign_j71 (x3 : Int32) (z0_text : Nat → Int32) (z0_size : Int32) (z0_at : Int32) (z0_fault : Int32) (z1_parts : Int32) (s0 : Int32) : Option (Int32 × Int32 × Int32 × Int32) := (if s0 = 0 then (if s0 = 0 then some ((((1 : Int32) <<< (x3 &&& 31)) ||| (0 : Int32)), z0_at, z0_fault, z1_parts) else some ((((1 : Int32) <<< (x3 &&& 31)) ||| (2 : Int32)), z0_at, z0_fault, z1_parts)) else lt (z0_at + (1 : Int32)) (fun y8 => (if s0 = 0 then some ((((1 : Int32) <<< (x3 &&& 31)) ||| (0 : Int32)), y8, z0_fault, z1_parts) else some ((((1 : Int32) <<< (x3 &&& 31)) ||| (2 : Int32)), y8, z0_fault, z1_parts))))
set_option maxHeartbeats 4000000 in
set_option maxRecDepth 20000 in
theorem cRuleReader_readSign_j71 {q : Int32 × Int32 × Int32 × Int32} {x3 : Int32} {s0 : Int32}  (h : mRuleReader_readSign_j71 x3 z0_text z0_size z0_at z0_fault z1_parts s0 = some q) : rW l D Z (ty7 K) MRuleReader_readSign 71 [(0, .ref (a0 0)), (3, .int x3)] [.int s0] (List.flatten [bCursor K a0 z0_text z0_size z0_at z0_fault, bRule K a1 z1_steps z1_size z1_sumFrom z1_testFrom z1_testTo z1_clauses z1_parts z1_readsTime z1_words z1_stack]) (List.flatten [bCursor K a0 z0_text z0_size q.2.1 q.2.2.1, bRule K a1 z1_steps z1_size z1_sumFrom z1_testFrom z1_testTo z1_clauses q.2.2.2 z1_readsTime z1_words z1_stack]) (some (.int q.1)) := by
  unfold mRuleReader_readSign_j71 at h
  refine r_istore (lv' := [(4, .int s0), (0, .ref (a0 0)), (3, .int x3)]) dX7_readSign_71 (by decide) rfl ?_
  refine r_iload 0 dX7_readSign_73 rfl ?_
  refine r_if_eq 88 dX7_readSign_75 (by decide) (fun c6 => ?_) (fun c6 => ?_)
  · replace h := it_pos c6 h
    refine r_iconst (x := (1 : Int32)) dX7_readSign_88 (by decide) ?_
    refine r_iload_n 2 dX7_readSign_89 rfl ?_
    refine r_ishl dX7_readSign_90 ?_
    refine r_iload 0 dX7_readSign_91 rfl ?_
    refine r_if_eq 100 dX7_readSign_93 (by decide) (fun c7 => ?_) (fun c7 => ?_)
    · replace h := it_pos c7 h
      refine r_iconst (x := (0 : Int32)) dX7_readSign_100 (by decide) ?_
      refine r_ior dX7_readSign_101 ?_
      have hq := Option.some.inj h
      subst hq
      exact r_iret rfl dX7_readSign_102
    · replace h := it_neg c7 h
      refine r_iconst (x := (2 : Int32)) dX7_readSign_96 (by decide) ?_
      refine r_goto 101 dX7_readSign_97 (by decide) ?_
      refine r_ior dX7_readSign_101 ?_
      have hq := Option.some.inj h
      subst hq
      exact r_iret rfl dX7_readSign_102
  · replace h := it_neg c6 h
    refine r_aload_n 1 dX7_readSign_78 rfl ?_
    refine r_dup dX7_readSign_79 rfl ?_
    refine gCursor_atN 0 rfl (List.mem_of_getElem? (i := 5) rfl) dX7_readSign_80 ?_
    refine r_iconst (x := (1 : Int32)) dX7_readSign_83 (by decide) ?_
    refine r_iadd dX7_readSign_84 ?_
    obtain ⟨y8, e8, h⟩ := lt_some h
    refine r_top e8 ?_
    refine pCursor_atN (bs1 := [bCursor K a0 z0_text z0_size y8 z0_fault, bRule K a1 z1_steps z1_size z1_sumFrom z1_testFrom z1_testTo z1_clauses z1_parts z1_readsTime z1_words z1_stack]) 0 rfl rfl (List.mem_of_getElem? (i := 5) rfl) dX7_readSign_85 ?_
    refine r_iconst (x := (1 : Int32)) dX7_readSign_88 (by decide) ?_
    refine r_iload_n 2 dX7_readSign_89 rfl ?_
    refine r_ishl dX7_readSign_90 ?_
    refine r_iload 0 dX7_readSign_91 rfl ?_
    refine r_if_eq 100 dX7_readSign_93 (by decide) (fun c9 => ?_) (fun c9 => ?_)
    · replace h := it_pos c9 h
      refine r_iconst (x := (0 : Int32)) dX7_readSign_100 (by decide) ?_
      refine r_ior dX7_readSign_101 ?_
      have hq := Option.some.inj h
      subst hq
      exact r_iret rfl dX7_readSign_102
    · replace h := it_neg c9 h
      refine r_iconst (x := (2 : Int32)) dX7_readSign_96 (by decide) ?_
      refine r_goto 101 dX7_readSign_97 (by decide) ?_
      refine r_ior dX7_readSign_101 ?_
      have hq := Option.some.inj h
      subst hq
      exact r_iret rfl dX7_readSign_102
def mRuleReader_readSign_j70 (x3 : Int32) (z0_text : Nat → Int32) (z0_size : Int32) (z0_at : Int32) (z0_fault : Int32) (z1_parts : Int32) : Option (Int32 × Int32 × Int32 × Int32) := mRuleReader_readSign_j71 x3 z0_text z0_size z0_at z0_fault z1_parts (0 : Int32)
set_option maxHeartbeats 4000000 in
set_option maxRecDepth 20000 in
theorem cRuleReader_readSign_j70 {q : Int32 × Int32 × Int32 × Int32} {x3 : Int32}  (h : mRuleReader_readSign_j70 x3 z0_text z0_size z0_at z0_fault z1_parts = some q) : rW l D Z (ty7 K) MRuleReader_readSign 70 [(0, .ref (a0 0)), (3, .int x3)] [] (List.flatten [bCursor K a0 z0_text z0_size z0_at z0_fault, bRule K a1 z1_steps z1_size z1_sumFrom z1_testFrom z1_testTo z1_clauses z1_parts z1_readsTime z1_words z1_stack]) (List.flatten [bCursor K a0 z0_text z0_size q.2.1 q.2.2.1, bRule K a1 z1_steps z1_size z1_sumFrom z1_testFrom z1_testTo z1_clauses q.2.2.2 z1_readsTime z1_words z1_stack]) (some (.int q.1)) := by
  unfold mRuleReader_readSign_j70 at h
  refine r_iconst (x := (0 : Int32)) dX7_readSign_70 (by decide) ?_
  exact cRuleReader_readSign_j71  h
def mRuleReader_readSign (z0_text : Nat → Int32) (z0_size : Int32) (z0_at : Int32) (z0_fault : Int32) (z1_parts : Int32) : Option (Int32 × Int32 × Int32 × Int32) := (mCursor_peek z0_text z0_size z0_at).bind (fun q1 => (mCursor_takeSign 9 z0_text z0_size q1.2).bind (fun q2 => (if q2.1 = (-1 : Int32) then (mCursor_fail (0 : Int32) q1.2 z0_fault).bind (fun q13 => some ((0 : Int32), q2.2, q13, z1_parts)) else (mRuleReader_countPart q1.2 z0_fault z1_parts).bind (fun q4 => (if q2.1 = (1 : Int32) then mRuleReader_readSign_j70 q2.1 z0_text z0_size q2.2 q4.1 q4.2 else (if z0_size ≤ q2.2 then mRuleReader_readSign_j70 q2.1 z0_text z0_size q2.2 q4.1 q4.2 else rq (inb q2.2 400) ((if (z0_text q2.2.toNatClampNeg) = (61 : Int32) then mRuleReader_readSign_j71 q2.1 z0_text z0_size q2.2 q4.1 q4.2 (1 : Int32) else mRuleReader_readSign_j70 q2.1 z0_text z0_size q2.2 q4.1 q4.2))))))))
set_option maxHeartbeats 4000000 in
set_option maxRecDepth 20000 in
theorem cRuleReader_readSign {q : Int32 × Int32 × Int32 × Int32}  (h : mRuleReader_readSign z0_text z0_size z0_at z0_fault z1_parts = some q) : rMet l D Z (ty7 K) MRuleReader_readSign [.ref (a0 0), .ref (a1 0)] (List.flatten [bCursor K a0 z0_text z0_size z0_at z0_fault, bRule K a1 z1_steps z1_size z1_sumFrom z1_testFrom z1_testTo z1_clauses z1_parts z1_readsTime z1_words z1_stack]) (List.flatten [bCursor K a0 z0_text z0_size q.2.1 q.2.2.1, bRule K a1 z1_steps z1_size z1_sumFrom z1_testFrom z1_testTo z1_clauses q.2.2.2 z1_readsTime z1_words z1_stack]) (some (.int q.1)) := by
  refine rMet.of (by decide) rfl (Nat.le_of_ble_eq_true rfl) ?_
  refine r_sub (lv' := [(0, .ref (a0 0)), (1, .ref (a1 0))]) [0, 1] rfl ?_
  unfold mRuleReader_readSign at h
  refine r_aload_n 0 dX7_readSign_0 rfl ?_
  obtain ⟨q1, h1, h⟩ := bd_some h
  refine b_callVN (isC := [0]) (ci := 0)  (st := []) (bs1 := [bCursor K a0 z0_text z0_size q1.2 z0_fault, bRule K a1 z1_steps z1_size z1_sumFrom z1_testFrom z1_testTo z1_clauses z1_parts z1_readsTime z1_words z1_stack]) (cCursor_peek (a0 := a0) (z0_text := z0_text) (z0_size := z0_size) (z0_at := z0_at) (z0_fault := z0_fault) h1) rfl rfl (Nat.le_of_ble_eq_true rfl) kCursor_peek (List.mem_of_getElem? (i := 33) rfl) (by decide) (by decide) rfl rfl rfl rfl rfl rfl rfl dX7_readSign_1 ?_
  refine r_pop dX7_readSign_4 rfl ?_
  refine r_aload_n 0 dX7_readSign_5 rfl ?_
  refine gCursor_atN 0 rfl (List.mem_of_getElem? (i := 5) rfl) dX7_readSign_6 ?_
  refine r_istore_n (lv' := [(2, .int q1.2), (0, .ref (a0 0)), (1, .ref (a1 0))]) dX7_readSign_9 (by decide) rfl ?_
  refine r_aload_n 1 dX7_readSign_10 rfl ?_
  refine r_ldcS (tx := "<=>") (i := 9) (List.mem_of_getElem? (i := 9) rfl) dX7_readSign_11 ?_
  obtain ⟨q2, h2, h⟩ := bd_some h
  refine b_callVN (isC := [0]) (ci := 0)  (st := []) (bs1 := [bCursor K a0 z0_text z0_size q2.2 z0_fault, bRule K a1 z1_steps z1_size z1_sumFrom z1_testFrom z1_testTo z1_clauses z1_parts z1_readsTime z1_words z1_stack]) (cCursor_takeSign (a0 := a0) (z0_text := z0_text) (z0_size := z0_size) (z0_at := q1.2) (z0_fault := z0_fault) h2) rfl rfl (Nat.le_of_ble_eq_true rfl) kCursor_takeSign (List.mem_of_getElem? (i := 40) rfl) (by decide) (by decide) rfl rfl rfl rfl rfl rfl rfl dX7_readSign_13 ?_
  refine r_istore_n (lv' := [(3, .int q2.1), (2, .int q1.2), (0, .ref (a0 0)), (1, .ref (a1 0))]) dX7_readSign_16 (by decide) rfl ?_
  refine r_iload_n 0 dX7_readSign_17 rfl ?_
  refine r_iconst (x := (-1 : Int32)) dX7_readSign_18 (by decide) ?_
  refine r_icmp_ne 30 dX7_readSign_19 (by decide) (fun c3 => ?_) (fun c3 => ?_)
  · replace h := it_neg c3 h
    refine r_aload_n 2 dX7_readSign_30 rfl ?_
    refine r_aload_n 3 dX7_readSign_31 rfl ?_
    refine r_iload_n 1 dX7_readSign_32 rfl ?_
    obtain ⟨q4, h4, h⟩ := bd_some h
    refine b_callS (isC := [0, 1]) (st := []) (bs1 := [bCursor K a0 z0_text z0_size q2.2 q4.1, bRule K a1 z1_steps z1_size z1_sumFrom z1_testFrom z1_testTo z1_clauses q4.2 z1_readsTime z1_words z1_stack]) (cRuleReader_countPart (a0 := a0) (a1 := a1) (z0_text := z0_text) (z0_size := z0_size) (z0_at := q2.2) (z0_fault := z0_fault) (z1_steps := z1_steps) (z1_size := z1_size) (z1_sumFrom := z1_sumFrom) (z1_testFrom := z1_testFrom) (z1_testTo := z1_testTo) (z1_clauses := z1_clauses) (z1_parts := z1_parts) (z1_readsTime := z1_readsTime) (z1_words := z1_words) (z1_stack := z1_stack) h4) rfl rfl (Nat.le_of_ble_eq_true rfl) kRuleReader_countPart (tb_in (i := 8) (j := 28) rfl rfl) (by decide) (by decide) rfl rfl rfl dX7_readSign_33 ?_
    refine r_iload_n 0 dX7_readSign_36 rfl ?_
    refine r_iconst (x := (1 : Int32)) dX7_readSign_37 (by decide) ?_
    refine r_icmp_eq 70 dX7_readSign_38 (by decide) (fun c5 => ?_) (fun c5 => ?_)
    · replace h := it_pos c5 h
      refine r_sub (lv' := [(0, .ref (a0 0)), (3, .int q2.1)]) [2, 0] rfl ?_
      exact cRuleReader_readSign_j70  h
    · replace h := it_neg c5 h
      refine r_aload_n 2 dX7_readSign_41 rfl ?_
      refine gCursor_atN 0 rfl (List.mem_of_getElem? (i := 5) rfl) dX7_readSign_42 ?_
      refine r_aload_n 2 dX7_readSign_45 rfl ?_
      refine gCursor_sizeN 0 rfl (List.mem_of_getElem? (i := 4) rfl) dX7_readSign_46 ?_
      refine r_icmp_ge 70 dX7_readSign_49 (by decide) (fun c10 => ?_) (fun c10 => ?_)
      · replace h := it_pos c10 h
        refine r_sub (lv' := [(0, .ref (a0 0)), (3, .int q2.1)]) [2, 0] rfl ?_
        exact cRuleReader_readSign_j70  h
      · replace h := it_neg c10 h
        refine r_aload_n 2 dX7_readSign_52 rfl ?_
        refine gCursor_textN 0 rfl (List.mem_of_getElem? (i := 3) rfl) dX7_readSign_53 ?_
        refine r_aload_n 2 dX7_readSign_56 rfl ?_
        refine gCursor_atN 0 rfl (List.mem_of_getElem? (i := 5) rfl) dX7_readSign_57 ?_
        obtain ⟨h11, h⟩ := rq_some h
        refine lCursor_text 0 rfl (inb_in h11) dX7_readSign_60 ?_
        refine r_bipush (x := (61 : Int32)) dX7_readSign_61 (by decide) ?_
        refine r_icmp_ne 70 dX7_readSign_63 (by decide) (fun c12 => ?_) (fun c12 => ?_)
        · replace h := it_neg c12 h
          refine r_sub (lv' := [(0, .ref (a0 0)), (3, .int q2.1)]) [2, 0] rfl ?_
          exact cRuleReader_readSign_j70  h
        · replace h := it_pos c12 h
          refine r_iconst (x := (1 : Int32)) dX7_readSign_66 (by decide) ?_
          refine r_goto 71 dX7_readSign_67 (by decide) ?_
          refine r_sub (lv' := [(0, .ref (a0 0)), (3, .int q2.1)]) [2, 0] rfl ?_
          exact cRuleReader_readSign_j71  h
  · replace h := it_pos c3 h
    refine r_aload_n 2 dX7_readSign_22 rfl ?_
    refine r_iconst (x := (0 : Int32)) dX7_readSign_23 (by decide) ?_
    refine r_iload_n 1 dX7_readSign_24 rfl ?_
    obtain ⟨q13, h13, h⟩ := bd_some h
    refine b_callVN (isC := [0]) (ci := 0)  (st := []) (bs1 := [bCursor K a0 z0_text z0_size q2.2 q13, bRule K a1 z1_steps z1_size z1_sumFrom z1_testFrom z1_testTo z1_clauses z1_parts z1_readsTime z1_words z1_stack]) (cCursor_fail (a0 := a0) (z0_text := z0_text) (z0_size := z0_size) (z0_at := q2.2) (z0_fault := z0_fault) h13) rfl rfl (Nat.le_of_ble_eq_true rfl) kCursor_fail (List.mem_of_getElem? (i := 35) rfl) (by decide) (by decide) rfl rfl rfl rfl rfl rfl rfl dX7_readSign_25 ?_
    refine r_iconst (x := (0 : Int32)) dX7_readSign_28 (by decide) ?_
    have hq := Option.some.inj h
    subst hq
    exact r_iret rfl dX7_readSign_29
end
end PC6
