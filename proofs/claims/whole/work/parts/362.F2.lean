section PC9
variable {l : Launch} {D : va_G} {Z : (Nat → Nat) × (Nat → Nat)} {K : Nat → ClassId}
theorem dX11_quietRing_0 : decode cX11_quietRing 0 = .ok (.aload_n 0, 1) := by decide +kernel
theorem dX11_quietRing_1 : decode cX11_quietRing 1 = .ok (.getfield 36, 3) := by decide +kernel
theorem dX11_quietRing_4 : decode cX11_quietRing 4 = .ok (.getfield 166, 3) := by decide +kernel
theorem dX11_quietRing_7 : decode cX11_quietRing 7 = .ok (.ifCond .eq 10, 3) := by decide +kernel
theorem dX11_quietRing_10 : decode cX11_quietRing 10 = .ok (.iload_n 1, 1) := by decide +kernel
theorem dX11_quietRing_11 : decode cX11_quietRing 11 = .ok (.invokestatic 212, 3) := by decide +kernel
theorem dX11_quietRing_14 : decode cX11_quietRing 14 = .ok (.ifCond .ne 6, 3) := by decide +kernel
theorem dX11_quietRing_17 : decode cX11_quietRing 17 = .ok (.bipush (-3), 2) := by decide +kernel
theorem dX11_quietRing_19 : decode cX11_quietRing 19 = .ok (.ireturn, 1) := by decide +kernel
theorem dX11_quietRing_20 : decode cX11_quietRing 20 = .ok (.aload_n 0, 1) := by decide +kernel
theorem dX11_quietRing_21 : decode cX11_quietRing 21 = .ok (.getfield 58, 3) := by decide +kernel
theorem dX11_quietRing_24 : decode cX11_quietRing 24 = .ok (.aload_n 0, 1) := by decide +kernel
theorem dX11_quietRing_25 : decode cX11_quietRing 25 = .ok (.getfield 36, 3) := by decide +kernel
theorem dX11_quietRing_28 : decode cX11_quietRing 28 = .ok (.getfield 119, 3) := by decide +kernel
theorem dX11_quietRing_31 : decode cX11_quietRing 31 = .ok (.invokevirtual 222, 3) := by decide +kernel
theorem dX11_quietRing_34 : decode cX11_quietRing 34 = .ok (.istore_n 2, 1) := by decide +kernel
theorem dX11_quietRing_35 : decode cX11_quietRing 35 = .ok (.iload_n 1, 1) := by decide +kernel
theorem dX11_quietRing_36 : decode cX11_quietRing 36 = .ok (.iconst (-1), 1) := by decide +kernel
theorem dX11_quietRing_37 : decode cX11_quietRing 37 = .ok (.if_icmp .ne 7, 3) := by decide +kernel
theorem dX11_quietRing_40 : decode cX11_quietRing 40 = .ok (.iload_n 2, 1) := by decide +kernel
theorem dX11_quietRing_41 : decode cX11_quietRing 41 = .ok (.goto 11, 3) := by decide +kernel
theorem dX11_quietRing_44 : decode cX11_quietRing 44 = .ok (.aload_n 0, 1) := by decide +kernel
theorem dX11_quietRing_45 : decode cX11_quietRing 45 = .ok (.getfield 58, 3) := by decide +kernel
theorem dX11_quietRing_48 : decode cX11_quietRing 48 = .ok (.iload_n 1, 1) := by decide +kernel
theorem dX11_quietRing_49 : decode cX11_quietRing 49 = .ok (.invokevirtual 219, 3) := by decide +kernel
theorem dX11_quietRing_52 : decode cX11_quietRing 52 = .ok (.ireturn, 1) := by decide +kernel
abbrev MNextStall_quietRing : rx_M := (RX11, yX11_quietRing, cX11_quietRing, 3, (some .int), 7)
theorem kNextStall_quietRing : rKv MNextStall_quietRing 1 := ⟨tb_in (i := 33) (j := 29) rfl rfl, tb_in (i := 33) (j := 30) rfl rfl, tb_in (i := 2) (j := 22) rfl rfl, tb_in (i := 15) (j := 8) rfl rfl, ⟨by decide, by decide, by decide +kernel⟩, by decide⟩
section
variable {a0 : Nat → Nat → Nat} {g0 : tyNextStall} {g1 : tyTape} {g2 : tyCursor} {g3 : tyWorld} {g4 : tyFair} {g5 : tyFair} {g6 : tyNotes} {g7 : tyPast} {g8 : tyTrials} {g9 : tyFair} {g10 : tyOrder} {g11 : tyOrder} {f0_rules : Nat → Option Nat} {f0_images : Nat → Option Nat} {f7_fairs : Nat → Option Nat}
def mNextStall_quietRing (x1 : Int32) (g3 : tyWorld) (g5 : tyFair) (g9 : tyFair) (g10 : tyOrder) (g11 : tyOrder) : Option (Int32 × tyFair × tyOrder × tyOrder) := (if g3.1 = 0 then some ((-3 : Int32), g9, g10, g11) else (mNextStall_isPlaceOrNone x1).bind (fun q2 => (if q2 = 0 then some ((-3 : Int32), g9, g10, g11) else (mTrials_findQuietRing g9 g10 g11 g5).bind (fun q4 => (if x1 = (-1 : Int32) then some (q4.1, q4.2.1, q4.2.2.1, q4.2.2.2) else (mTrials_whoStandsAt x1 q4.2.2.2).bind (fun q6 => some (q6, q4.2.1, q4.2.2.1, q4.2.2.2)))))))
set_option maxHeartbeats 4000000 in
set_option maxRecDepth 20000 in
theorem cNextStall_quietRing {q : Int32 × tyFair × tyOrder × tyOrder} {x1 : Int32} (h : mNextStall_quietRing x1 g3 g5 g9 g10 g11 = some q) : rMet l D Z (ty7 K) MNextStall_quietRing [.ref ((a0 0) 0), .int x1] (List.flatten [bNextStallG K (a0 0) f0_rules f0_images ((a0 1) 0) ((a0 2) 0) ((a0 3) 0) ((a0 7) 0) ((a0 8) 0) g0, bTapeG K (a0 1) g1, bCursorG K (a0 2) g2, bWorldG K (a0 3) ((a0 4) 0) ((a0 5) 0) ((a0 6) 0) g3, bFairG K (a0 4) g4, bFairG K (a0 5) g5, bNotesG K (a0 6) g6, bPastG K (a0 7) f7_fairs g7, bTrialsG K (a0 8) ((a0 9) 0) ((a0 10) 0) ((a0 11) 0) g8, bFairG K (a0 9) g9, bOrderG K (a0 10) g10, bOrderG K (a0 11) g11]) (List.flatten [bNextStallG K (a0 0) f0_rules f0_images ((a0 1) 0) ((a0 2) 0) ((a0 3) 0) ((a0 7) 0) ((a0 8) 0) g0, bTapeG K (a0 1) g1, bCursorG K (a0 2) g2, bWorldG K (a0 3) ((a0 4) 0) ((a0 5) 0) ((a0 6) 0) g3, bFairG K (a0 4) g4, bFairG K (a0 5) g5, bNotesG K (a0 6) g6, bPastG K (a0 7) f7_fairs g7, bTrialsG K (a0 8) ((a0 9) 0) ((a0 10) 0) ((a0 11) 0) g8, bFairG K (a0 9) q.2.1, bOrderG K (a0 10) q.2.2.1, bOrderG K (a0 11) q.2.2.2]) (some (.int q.1)) := by
  refine rMet.of (by decide) rfl (Nat.le_of_ble_eq_true rfl) ?_
  refine r_sub (lv' := [(0, .ref ((a0 0) 0)), (1, .int x1)]) [0, 1] rfl ?_
  unfold mNextStall_quietRing at h
  refine r_aload_n 0 dX11_quietRing_0 rfl ?_
  refine gNextStall_world 0 rfl (tb_in (i := 12) (j := 26) rfl rfl) dX11_quietRing_1 ?_
  refine gWorld_openN 3 rfl (List.mem_of_getElem? (i := 50) rfl) dX11_quietRing_4 ?_
  refine r_if_eq 17 dX11_quietRing_7 (by decide) (fun c1 => ?_) (fun c1 => ?_)
  · replace h := it_pos c1 h
    refine r_bipush (x := (-3 : Int32)) dX11_quietRing_17 (by decide) ?_
    have hq := Option.some.inj h
    subst hq
    exact r_iret rfl dX11_quietRing_19
  · replace h := it_neg c1 h
    refine r_iload_n 1 dX11_quietRing_10 rfl ?_
    obtain ⟨q2, h2, h⟩ := bd_some h
    refine b_callS (isC := []) (st := []) (bs1 := [bNextStallG K (a0 0) f0_rules f0_images ((a0 1) 0) ((a0 2) 0) ((a0 3) 0) ((a0 7) 0) ((a0 8) 0) g0, bTapeG K (a0 1) g1, bCursorG K (a0 2) g2, bWorldG K (a0 3) ((a0 4) 0) ((a0 5) 0) ((a0 6) 0) g3, bFairG K (a0 4) g4, bFairG K (a0 5) g5, bNotesG K (a0 6) g6, bPastG K (a0 7) f7_fairs g7, bTrialsG K (a0 8) ((a0 9) 0) ((a0 10) 0) ((a0 11) 0) g8, bFairG K (a0 9) g9, bOrderG K (a0 10) g10, bOrderG K (a0 11) g11]) (cNextStall_isPlaceOrNone   h2) rfl rfl (Nat.le_of_ble_eq_true rfl) kNextStall_isPlaceOrNone (tb_in (i := 14) (j := 31) rfl rfl) (by decide) (by decide) rfl rfl rfl dX11_quietRing_11 ?_
    refine r_if_ne 20 dX11_quietRing_14 (by decide) (fun c3 => ?_) (fun c3 => ?_)
    · replace h := it_neg c3 h
      refine r_aload_n 0 dX11_quietRing_20 rfl ?_
      refine gNextStall_trials 0 rfl (tb_in (i := 13) (j := 4) rfl rfl) dX11_quietRing_21 ?_
      refine r_aload_n 0 dX11_quietRing_24 rfl ?_
      refine gNextStall_world 0 rfl (tb_in (i := 12) (j := 26) rfl rfl) dX11_quietRing_25 ?_
      refine gWorld_nowN 3 rfl (List.mem_of_getElem? (i := 55) rfl) dX11_quietRing_28 ?_
      obtain ⟨q4, h4, h⟩ := bd_some h
      refine b_callVN (isC := [8, 9, 10, 11, 5]) (ci := 7)  (st := []) (bs1 := [bNextStallG K (a0 0) f0_rules f0_images ((a0 1) 0) ((a0 2) 0) ((a0 3) 0) ((a0 7) 0) ((a0 8) 0) g0, bTapeG K (a0 1) g1, bCursorG K (a0 2) g2, bWorldG K (a0 3) ((a0 4) 0) ((a0 5) 0) ((a0 6) 0) g3, bFairG K (a0 4) g4, bFairG K (a0 5) g5, bNotesG K (a0 6) g6, bPastG K (a0 7) f7_fairs g7, bTrialsG K (a0 8) ((a0 9) 0) ((a0 10) 0) ((a0 11) 0) g8, bFairG K (a0 9) q4.2.1, bOrderG K (a0 10) q4.2.2.1, bOrderG K (a0 11) q4.2.2.2]) (cTrials_findQuietRing (a0 := fun b => a0 (8 + b)) (a1 := (a0 5)) (g0 := g8) (g1 := g9) (g2 := g10) (g3 := g11) (g4 := g5) h4) rfl rfl (Nat.le_of_ble_eq_true rfl) kTrials_findQuietRing (List.mem_of_getElem? (i := 62) rfl) (by decide) (by decide) rfl rfl rfl rfl rfl rfl rfl dX11_quietRing_31 ?_
      refine r_istore_n (lv' := [(2, .int q4.1), (0, .ref ((a0 0) 0)), (1, .int x1)]) dX11_quietRing_34 (Nat.le_of_ble_eq_true rfl) rfl ?_
      refine r_iload_n 2 dX11_quietRing_35 rfl ?_
      refine r_iconst (x := (-1 : Int32)) dX11_quietRing_36 (by decide) ?_
      refine r_icmp_ne 44 dX11_quietRing_37 (by decide) (fun c5 => ?_) (fun c5 => ?_)
      · replace h := it_neg c5 h
        refine r_aload_n 1 dX11_quietRing_44 rfl ?_
        refine gNextStall_trials 0 rfl (tb_in (i := 13) (j := 4) rfl rfl) dX11_quietRing_45 ?_
        refine r_iload_n 2 dX11_quietRing_48 rfl ?_
        obtain ⟨q6, h6, h⟩ := bd_some h
        refine b_callVN (isC := [8, 9, 10, 11]) (ci := 7)  (st := []) (bs1 := [bNextStallG K (a0 0) f0_rules f0_images ((a0 1) 0) ((a0 2) 0) ((a0 3) 0) ((a0 7) 0) ((a0 8) 0) g0, bTapeG K (a0 1) g1, bCursorG K (a0 2) g2, bWorldG K (a0 3) ((a0 4) 0) ((a0 5) 0) ((a0 6) 0) g3, bFairG K (a0 4) g4, bFairG K (a0 5) g5, bNotesG K (a0 6) g6, bPastG K (a0 7) f7_fairs g7, bTrialsG K (a0 8) ((a0 9) 0) ((a0 10) 0) ((a0 11) 0) g8, bFairG K (a0 9) q4.2.1, bOrderG K (a0 10) q4.2.2.1, bOrderG K (a0 11) q4.2.2.2]) (cTrials_whoStandsAt (a0 := fun b => a0 (8 + b)) (g0 := g8) (g1 := q4.2.1) (g2 := q4.2.2.1) (g3 := q4.2.2.2) h6) rfl rfl (Nat.le_of_ble_eq_true rfl) kTrials_whoStandsAt (List.mem_of_getElem? (i := 60) rfl) (by decide) (by decide) rfl rfl rfl rfl rfl rfl rfl dX11_quietRing_49 ?_
        have hq := Option.some.inj h
        subst hq
        exact r_iret rfl dX11_quietRing_52
      · replace h := it_pos c5 h
        refine r_iload_n 0 dX11_quietRing_40 rfl ?_
        refine r_goto 52 dX11_quietRing_41 (by decide) ?_
        have hq := Option.some.inj h
        subst hq
        exact r_iret rfl dX11_quietRing_52
    · replace h := it_pos c3 h
      refine r_bipush (x := (-3 : Int32)) dX11_quietRing_17 (by decide) ?_
      have hq := Option.some.inj h
      subst hq
      exact r_iret rfl dX11_quietRing_19
end
theorem dX11_fairPrice_0 : decode cX11_fairPrice 0 = .ok (.aload_n 0, 1) := by decide +kernel
theorem dX11_fairPrice_1 : decode cX11_fairPrice 1 = .ok (.iload_n 1, 1) := by decide +kernel
theorem dX11_fairPrice_2 : decode cX11_fairPrice 2 = .ok (.invokevirtual 115, 3) := by decide +kernel
theorem dX11_fairPrice_5 : decode cX11_fairPrice 5 = .ok (.ifCond .eq 22, 3) := by decide +kernel
theorem dX11_fairPrice_8 : decode cX11_fairPrice 8 = .ok (.iload_n 2, 1) := by decide +kernel
theorem dX11_fairPrice_9 : decode cX11_fairPrice 9 = .ok (.iconst 1, 1) := by decide +kernel
theorem dX11_fairPrice_10 : decode cX11_fairPrice 10 = .ok (.bipush 60, 2) := by decide +kernel
theorem dX11_fairPrice_12 : decode cX11_fairPrice 12 = .ok (.invokestatic 70, 3) := by decide +kernel
theorem dX11_fairPrice_15 : decode cX11_fairPrice 15 = .ok (.ifCond .eq 12, 3) := by decide +kernel
theorem dX11_fairPrice_18 : decode cX11_fairPrice 18 = .ok (.iload_n 3, 1) := by decide +kernel
theorem dX11_fairPrice_19 : decode cX11_fairPrice 19 = .ok (.iconst 0, 1) := by decide +kernel
theorem dX11_fairPrice_20 : decode cX11_fairPrice 20 = .ok (.iconst 1, 1) := by decide +kernel
theorem dX11_fairPrice_21 : decode cX11_fairPrice 21 = .ok (.invokestatic 70, 3) := by decide +kernel
theorem dX11_fairPrice_24 : decode cX11_fairPrice 24 = .ok (.ifCond .ne 5, 3) := by decide +kernel
theorem dX11_fairPrice_27 : decode cX11_fairPrice 27 = .ok (.iconst (-1), 1) := by decide +kernel
theorem dX11_fairPrice_28 : decode cX11_fairPrice 28 = .ok (.ireturn, 1) := by decide +kernel
theorem dX11_fairPrice_29 : decode cX11_fairPrice 29 = .ok (.aload_n 0, 1) := by decide +kernel
theorem dX11_fairPrice_30 : decode cX11_fairPrice 30 = .ok (.getfield 58, 3) := by decide +kernel
theorem dX11_fairPrice_33 : decode cX11_fairPrice 33 = .ok (.aload_n 0, 1) := by decide +kernel
theorem dX11_fairPrice_34 : decode cX11_fairPrice 34 = .ok (.getfield 36, 3) := by decide +kernel
theorem dX11_fairPrice_37 : decode cX11_fairPrice 37 = .ok (.getfield 119, 3) := by decide +kernel
theorem dX11_fairPrice_40 : decode cX11_fairPrice 40 = .ok (.aload_n 0, 1) := by decide +kernel
theorem dX11_fairPrice_41 : decode cX11_fairPrice 41 = .ok (.invokevirtual 176, 3) := by decide +kernel
theorem dX11_fairPrice_44 : decode cX11_fairPrice 44 = .ok (.iload_n 1, 1) := by decide +kernel
theorem dX11_fairPrice_45 : decode cX11_fairPrice 45 = .ok (.iload_n 2, 1) := by decide +kernel
theorem dX11_fairPrice_46 : decode cX11_fairPrice 46 = .ok (.invokevirtual 226, 3) := by decide +kernel
theorem dX11_fairPrice_49 : decode cX11_fairPrice 49 = .ok (.aload_n 0, 1) := by decide +kernel
theorem dX11_fairPrice_50 : decode cX11_fairPrice 50 = .ok (.getfield 58, 3) := by decide +kernel
theorem dX11_fairPrice_53 : decode cX11_fairPrice 53 = .ok (.getfield 230, 3) := by decide +kernel
theorem dX11_fairPrice_56 : decode cX11_fairPrice 56 = .ok (.iload_n 3, 1) := by decide +kernel
theorem dX11_fairPrice_57 : decode cX11_fairPrice 57 = .ok (.iaload, 1) := by decide +kernel
theorem dX11_fairPrice_58 : decode cX11_fairPrice 58 = .ok (.ireturn, 1) := by decide +kernel
abbrev MNextStall_fairPrice : rx_M := (RX11, yX11_fairPrice, cX11_fairPrice, 4, (some .int), 7)
theorem kNextStall_fairPrice : rKv MNextStall_fairPrice 3 := ⟨tb_in (i := 34) (j := 3) rfl rfl, tb_in (i := 34) (j := 4) rfl rfl, tb_in (i := 2) (j := 22) rfl rfl, tb_in (i := 15) (j := 11) rfl rfl, ⟨by decide, by decide, by decide +kernel⟩, by decide⟩
section
variable {a0 : Nat → Nat → Nat} {g0 : tyNextStall} {g1 : tyTape} {g2 : tyCursor} {g3 : tyWorld} {g4 : tyFair} {g5 : tyFair} {g6 : tyNotes} {g7 : tyPast} {g8 : tyTrials} {g9 : tyFair} {g10 : tyOrder} {g11 : tyOrder} {f0_rules : Nat → Nat → Nat} {f0_images : Nat → Option Nat} {f7_fairs : Nat → Option Nat} {p0_rules0 : Nat → tyRule}
def mNextStall_fairPrice (x1 : Int32) (x2 : Int32) (x3 : Int32) (g0 : tyNextStall) (g3 : tyWorld) (g5 : tyFair) (g8 : tyTrials) (g9 : tyFair) (p0_rules0 : Nat → tyRule) : Option (Int32 × tyTrials × tyFair × (Nat → tyRule)) := (mNextStall_isStall x1 g5).bind (fun q1 => (if q1 = 0 then some ((-1 : Int32), g8, g9, p0_rules0) else (mNextStall_within x2 (1 : Int32) (60 : Int32)).bind (fun q3 => (if q3 = 0 then some ((-1 : Int32), g8, g9, p0_rules0) else (mNextStall_within x3 (0 : Int32) (1 : Int32)).bind (fun q5 => (if q5 = 0 then some ((-1 : Int32), g8, g9, p0_rules0) else (mNextStall_ruleInForce g0 g3).bind (fun q7 => mt q7 ((mTrials_findFairPricern x1 x2 g8 g9 g5).bind (fun q8 => rq (inb x3 3) (some ((q8.1.1 x3.toNatClampNeg), q8.1, q8.2, p0_rules0)))) (fun j7 => rq (decide (j7 < 6)) ((mTrials_findFairPricerr x1 x2 g8 g9 g5 (p0_rules0 j7)).bind (fun q10 => rq (inb x3 3) (some ((q10.1.1 x3.toNatClampNeg), q10.1, q10.2.1, (va_up p0_rules0 j7 q10.2.2)))))))))))))
set_option maxHeartbeats 4000000 in
set_option maxRecDepth 20000 in
theorem cNextStall_fairPrice {q : Int32 × tyTrials × tyFair × (Nat → tyRule)} {x1 : Int32} {x2 : Int32} {x3 : Int32} (h : mNextStall_fairPrice x1 x2 x3 g0 g3 g5 g8 g9 p0_rules0 = some q) : rMet l D Z (ty7 K) MNextStall_fairPrice [.ref ((a0 0) 0), .int x1, .int x2, .int x3] (List.flatten ([bNextStallG K (a0 0) (fun j => some (f0_rules j 0)) f0_images ((a0 1) 0) ((a0 2) 0) ((a0 3) 0) ((a0 7) 0) ((a0 8) 0) g0, bTapeG K (a0 1) g1, bCursorG K (a0 2) g2, bWorldG K (a0 3) ((a0 4) 0) ((a0 5) 0) ((a0 6) 0) g3, bFairG K (a0 4) g4, bFairG K (a0 5) g5, bNotesG K (a0 6) g6, bPastG K (a0 7) f7_fairs g7, bTrialsG K (a0 8) ((a0 9) 0) ((a0 10) 0) ((a0 11) 0) g8, bFairG K (a0 9) g9, bOrderG K (a0 10) g10, bOrderG K (a0 11) g11] ++ (fam 6 (fun j => bRuleG K (f0_rules j) (p0_rules0 j)) ++ []))) (List.flatten ([bNextStallG K (a0 0) (fun j => some (f0_rules j 0)) f0_images ((a0 1) 0) ((a0 2) 0) ((a0 3) 0) ((a0 7) 0) ((a0 8) 0) g0, bTapeG K (a0 1) g1, bCursorG K (a0 2) g2, bWorldG K (a0 3) ((a0 4) 0) ((a0 5) 0) ((a0 6) 0) g3, bFairG K (a0 4) g4, bFairG K (a0 5) g5, bNotesG K (a0 6) g6, bPastG K (a0 7) f7_fairs g7, bTrialsG K (a0 8) ((a0 9) 0) ((a0 10) 0) ((a0 11) 0) q.2.1, bFairG K (a0 9) q.2.2.1, bOrderG K (a0 10) g10, bOrderG K (a0 11) g11] ++ (fam 6 (fun j => bRuleG K (f0_rules j) (q.2.2.2 j)) ++ []))) (some (.int q.1)) := by
  refine rMet.of (by decide) rfl (Nat.le_of_ble_eq_true rfl) ?_
  refine r_sub (lv' := [(0, .ref ((a0 0) 0)), (1, .int x1), (2, .int x2), (3, .int x3)]) [0, 1, 2, 3] rfl ?_
  unfold mNextStall_fairPrice at h
  refine r_aload_n 0 dX11_fairPrice_0 rfl ?_
  refine r_iload_n 1 dX11_fairPrice_1 rfl ?_
  obtain ⟨q1, h1, h⟩ := bd_some h
  refine b_callV (isC := [0, 1, 2, 3, 4, 5, 6, 7, 8, 9, 10, 11]) (ci := 9)  (st := []) (bs1 := ([bNextStallG K (a0 0) (fun j => some (f0_rules j 0)) f0_images ((a0 1) 0) ((a0 2) 0) ((a0 3) 0) ((a0 7) 0) ((a0 8) 0) g0, bTapeG K (a0 1) g1, bCursorG K (a0 2) g2, bWorldG K (a0 3) ((a0 4) 0) ((a0 5) 0) ((a0 6) 0) g3, bFairG K (a0 4) g4, bFairG K (a0 5) g5, bNotesG K (a0 6) g6, bPastG K (a0 7) f7_fairs g7, bTrialsG K (a0 8) ((a0 9) 0) ((a0 10) 0) ((a0 11) 0) g8, bFairG K (a0 9) g9, bOrderG K (a0 10) g10, bOrderG K (a0 11) g11] ++ (fam 6 (fun j => bRuleG K (f0_rules j) (p0_rules0 j)) ++ []))) (cNextStall_isStall (a0 := a0) (g0 := g0) (g1 := g1) (g2 := g2) (g3 := g3) (g4 := g4) (g5 := g5) (g6 := g6) (g7 := g7) (g8 := g8) (g9 := g9) (g10 := g10) (g11 := g11) h1) rfl rfl (Nat.le_of_ble_eq_true rfl) kNextStall_isStall (tb_in (i := 13) (j := 31) rfl rfl) (by decide) (by decide) rfl rfl rfl rfl rfl rfl rfl dX11_fairPrice_2 ?_
  refine r_if_eq 27 dX11_fairPrice_5 (by decide) (fun c2 => ?_) (fun c2 => ?_)
  · replace h := it_pos c2 h
    refine r_iconst (x := (-1 : Int32)) dX11_fairPrice_27 (by decide) ?_
    have hq := Option.some.inj h
    subst hq
    exact r_iret rfl dX11_fairPrice_28
  · replace h := it_neg c2 h
    refine r_iload_n 2 dX11_fairPrice_8 rfl ?_
    refine r_iconst (x := (1 : Int32)) dX11_fairPrice_9 (by decide) ?_
    refine r_bipush (x := (60 : Int32)) dX11_fairPrice_10 (by decide) ?_
    obtain ⟨q3, h3, h⟩ := bd_some h
    refine b_callS (isC := []) (st := []) (bs1 := ([bNextStallG K (a0 0) (fun j => some (f0_rules j 0)) f0_images ((a0 1) 0) ((a0 2) 0) ((a0 3) 0) ((a0 7) 0) ((a0 8) 0) g0, bTapeG K (a0 1) g1, bCursorG K (a0 2) g2, bWorldG K (a0 3) ((a0 4) 0) ((a0 5) 0) ((a0 6) 0) g3, bFairG K (a0 4) g4, bFairG K (a0 5) g5, bNotesG K (a0 6) g6, bPastG K (a0 7) f7_fairs g7, bTrialsG K (a0 8) ((a0 9) 0) ((a0 10) 0) ((a0 11) 0) g8, bFairG K (a0 9) g9, bOrderG K (a0 10) g10, bOrderG K (a0 11) g11] ++ (fam 6 (fun j => bRuleG K (f0_rules j) (p0_rules0 j)) ++ []))) (cNextStall_within   h3) rfl rfl (Nat.le_of_ble_eq_true rfl) kNextStall_within (tb_in (i := 13) (j := 17) rfl rfl) (by decide) (by decide) rfl rfl rfl dX11_fairPrice_12 ?_
    refine r_if_eq 27 dX11_fairPrice_15 (by decide) (fun c4 => ?_) (fun c4 => ?_)
    · replace h := it_pos c4 h
      refine r_iconst (x := (-1 : Int32)) dX11_fairPrice_27 (by decide) ?_
      have hq := Option.some.inj h
      subst hq
      exact r_iret rfl dX11_fairPrice_28
    · replace h := it_neg c4 h
      refine r_iload_n 3 dX11_fairPrice_18 rfl ?_
      refine r_iconst (x := (0 : Int32)) dX11_fairPrice_19 (by decide) ?_
      refine r_iconst (x := (1 : Int32)) dX11_fairPrice_20 (by decide) ?_
      obtain ⟨q5, h5, h⟩ := bd_some h
      refine b_callS (isC := []) (st := []) (bs1 := ([bNextStallG K (a0 0) (fun j => some (f0_rules j 0)) f0_images ((a0 1) 0) ((a0 2) 0) ((a0 3) 0) ((a0 7) 0) ((a0 8) 0) g0, bTapeG K (a0 1) g1, bCursorG K (a0 2) g2, bWorldG K (a0 3) ((a0 4) 0) ((a0 5) 0) ((a0 6) 0) g3, bFairG K (a0 4) g4, bFairG K (a0 5) g5, bNotesG K (a0 6) g6, bPastG K (a0 7) f7_fairs g7, bTrialsG K (a0 8) ((a0 9) 0) ((a0 10) 0) ((a0 11) 0) g8, bFairG K (a0 9) g9, bOrderG K (a0 10) g10, bOrderG K (a0 11) g11] ++ (fam 6 (fun j => bRuleG K (f0_rules j) (p0_rules0 j)) ++ []))) (cNextStall_within   h5) rfl rfl (Nat.le_of_ble_eq_true rfl) kNextStall_within (tb_in (i := 13) (j := 17) rfl rfl) (by decide) (by decide) rfl rfl rfl dX11_fairPrice_21 ?_
      refine r_if_ne 29 dX11_fairPrice_24 (by decide) (fun c6 => ?_) (fun c6 => ?_)
      · replace h := it_neg c6 h
        refine r_aload_n 0 dX11_fairPrice_29 rfl ?_
        refine gNextStall_trials 0 rfl (tb_in (i := 13) (j := 4) rfl rfl) dX11_fairPrice_30 ?_
        refine r_aload_n 0 dX11_fairPrice_33 rfl ?_
        refine gNextStall_world 0 rfl (tb_in (i := 12) (j := 26) rfl rfl) dX11_fairPrice_34 ?_
        refine gWorld_nowN 3 rfl (List.mem_of_getElem? (i := 55) rfl) dX11_fairPrice_37 ?_
        refine r_aload_n 0 dX11_fairPrice_40 rfl ?_
        obtain ⟨q7, h7, h⟩ := bd_some h
        refine b_callV (isC := ([0, 1, 2, 3, 4, 5, 6, 7, 8, 9, 10, 11] ++ (List.range' 12 6 ++ []))) (ci := 9)  (st := [.ref ((a0 5) 0), .ref ((a0 8) 0)]) (bs1 := ([bNextStallG K (a0 0) (fun j => some (f0_rules j 0)) f0_images ((a0 1) 0) ((a0 2) 0) ((a0 3) 0) ((a0 7) 0) ((a0 8) 0) g0, bTapeG K (a0 1) g1, bCursorG K (a0 2) g2, bWorldG K (a0 3) ((a0 4) 0) ((a0 5) 0) ((a0 6) 0) g3, bFairG K (a0 4) g4, bFairG K (a0 5) g5, bNotesG K (a0 6) g6, bPastG K (a0 7) f7_fairs g7, bTrialsG K (a0 8) ((a0 9) 0) ((a0 10) 0) ((a0 11) 0) g8, bFairG K (a0 9) g9, bOrderG K (a0 10) g10, bOrderG K (a0 11) g11] ++ (fam 6 (fun j => bRuleG K (f0_rules j) (p0_rules0 j)) ++ []))) (cNextStall_ruleInForce (a0 := a0) (f0_rules := f0_rules) (g0 := g0) (g1 := g1) (g2 := g2) (g3 := g3) (g4 := g4) (g5 := g5) (g6 := g6) (g7 := g7) (g8 := g8) (g9 := g9) (g10 := g10) (g11 := g11) (p0_rules0 := p0_rules0) h7) rfl rfl (Nat.le_of_ble_eq_true rfl) kNextStall_ruleInForce (tb_in (i := 14) (j := 11) rfl rfl) (by decide) (by decide +kernel) (map_app rfl (map_app (map_f0 (n := 6) (l := [bNextStallG K (a0 0) (fun j => some (f0_rules j 0)) f0_images ((a0 1) 0) ((a0 2) 0) ((a0 3) 0) ((a0 7) 0) ((a0 8) 0) g0, bTapeG K (a0 1) g1, bCursorG K (a0 2) g2, bWorldG K (a0 3) ((a0 4) 0) ((a0 5) 0) ((a0 6) 0) g3, bFairG K (a0 4) g4, bFairG K (a0 5) g5, bNotesG K (a0 6) g6, bPastG K (a0 7) f7_fairs g7, bTrialsG K (a0 8) ((a0 9) 0) ((a0 10) 0) ((a0 11) 0) g8, bFairG K (a0 9) g9, bOrderG K (a0 10) g10, bOrderG K (a0 11) g11]) rfl) rfl)) (by simp only [List.length_append, fam_len, List.length_range', List.length_cons, List.length_nil]) (stm_a (bs1 := ([bNextStallG K (a0 0) (fun j => some (f0_rules j 0)) f0_images ((a0 1) 0) ((a0 2) 0) ((a0 3) 0) ((a0 7) 0) ((a0 8) 0) g0, bTapeG K (a0 1) g1, bCursorG K (a0 2) g2, bWorldG K (a0 3) ((a0 4) 0) ((a0 5) 0) ((a0 6) 0) g3, bFairG K (a0 4) g4, bFairG K (a0 5) g5, bNotesG K (a0 6) g6, bPastG K (a0 7) f7_fairs g7, bTrialsG K (a0 8) ((a0 9) 0) ((a0 10) 0) ((a0 11) 0) g8, bFairG K (a0 9) g9, bOrderG K (a0 10) g10, bOrderG K (a0 11) g11] ++ (fam 6 (fun j => bRuleG K (f0_rules j) (p0_rules0 j)) ++ []))) rfl rfl (stm_a (bs1 := ([bNextStallG K (a0 0) (fun j => some (f0_rules j 0)) f0_images ((a0 1) 0) ((a0 2) 0) ((a0 3) 0) ((a0 7) 0) ((a0 8) 0) g0, bTapeG K (a0 1) g1, bCursorG K (a0 2) g2, bWorldG K (a0 3) ((a0 4) 0) ((a0 5) 0) ((a0 6) 0) g3, bFairG K (a0 4) g4, bFairG K (a0 5) g5, bNotesG K (a0 6) g6, bPastG K (a0 7) f7_fairs g7, bTrialsG K (a0 8) ((a0 9) 0) ((a0 10) 0) ((a0 11) 0) g8, bFairG K (a0 9) g9, bOrderG K (a0 10) g10, bOrderG K (a0 11) g11] ++ (fam 6 (fun j => bRuleG K (f0_rules j) (p0_rules0 j)) ++ []))) (by rw [List.length_range', fam_len]) (stm_f0 (n := 6) (l := [bNextStallG K (a0 0) (fun j => some (f0_rules j 0)) f0_images ((a0 1) 0) ((a0 2) 0) ((a0 3) 0) ((a0 7) 0) ((a0 8) 0) g0, bTapeG K (a0 1) g1, bCursorG K (a0 2) g2, bWorldG K (a0 3) ((a0 4) 0) ((a0 5) 0) ((a0 6) 0) g3, bFairG K (a0 4) g4, bFairG K (a0 5) g5, bNotesG K (a0 6) g6, bPastG K (a0 7) f7_fairs g7, bTrialsG K (a0 8) ((a0 9) 0) ((a0 10) 0) ((a0 11) 0) g8, bFairG K (a0 9) g9, bOrderG K (a0 10) g10, bOrderG K (a0 11) g11]) rfl) rfl)) rfl rfl rfl rfl dX11_fairPrice_41 ?_
        cases q7 with
        | none =>
          replace h := mt_n h
          refine r_st (st' := [.null, .ref ((a0 5) 0), .ref ((a0 8) 0)]) rfl ?_
          refine r_iload_n 1 dX11_fairPrice_44 rfl ?_
          refine r_iload_n 2 dX11_fairPrice_45 rfl ?_
          obtain ⟨q8, h8, h⟩ := bd_some h
          refine b_callVN (isC := [8, 9, 10, 11, 5]) (ci := 7)  (st := []) (bs1 := ([bNextStallG K (a0 0) (fun j => some (f0_rules j 0)) f0_images ((a0 1) 0) ((a0 2) 0) ((a0 3) 0) ((a0 7) 0) ((a0 8) 0) g0, bTapeG K (a0 1) g1, bCursorG K (a0 2) g2, bWorldG K (a0 3) ((a0 4) 0) ((a0 5) 0) ((a0 6) 0) g3, bFairG K (a0 4) g4, bFairG K (a0 5) g5, bNotesG K (a0 6) g6, bPastG K (a0 7) f7_fairs g7, bTrialsG K (a0 8) ((a0 9) 0) ((a0 10) 0) ((a0 11) 0) q8.1, bFairG K (a0 9) q8.2, bOrderG K (a0 10) g10, bOrderG K (a0 11) g11] ++ (fam 6 (fun j => bRuleG K (f0_rules j) (p0_rules0 j)) ++ []))) (cTrials_findFairPricern (a0 := fun b => a0 (8 + b)) (a1 := (a0 5)) (g0 := g8) (g1 := g9) (g2 := g10) (g3 := g11) (g4 := g5) h8) rfl rfl (Nat.le_of_ble_eq_true rfl) kTrials_findFairPricern (List.mem_of_getElem? (i := 64) rfl) (by decide) (by decide) rfl rfl rfl rfl rfl rfl rfl dX11_fairPrice_46 ?_
          refine r_aload_n 0 dX11_fairPrice_49 rfl ?_
          refine gNextStall_trials 0 rfl (tb_in (i := 13) (j := 4) rfl rfl) dX11_fairPrice_50 ?_
          refine gTrials_foundN 8 rfl (List.mem_of_getElem? (i := 63) rfl) dX11_fairPrice_53 ?_
          refine r_iload_n 3 dX11_fairPrice_56 rfl ?_
          obtain ⟨h9, h⟩ := rq_some h
          refine lTrials_found 8 rfl (inb_in h9) dX11_fairPrice_57 ?_
          have hq := Option.some.inj h
          subst hq
          exact r_iret rfl dX11_fairPrice_58
        | some j7 =>
          replace h := mt_s h
          obtain ⟨hg7, h⟩ := rq_some h
          have hj7 := of_decide_eq_true hg7
          refine r_st (st' := [.ref (f0_rules j7 0), .ref ((a0 5) 0), .ref ((a0 8) 0)]) rfl ?_
          refine r_iload_n 1 dX11_fairPrice_44 rfl ?_
          refine r_iload_n 2 dX11_fairPrice_45 rfl ?_
          obtain ⟨q10, h10, h⟩ := bd_some h
          refine b_callVN (isC := [8, 9, 10, 11, 5, 12 + j7]) (ci := 7)  (st := []) (bs1 := ([bNextStallG K (a0 0) (fun j => some (f0_rules j 0)) f0_images ((a0 1) 0) ((a0 2) 0) ((a0 3) 0) ((a0 7) 0) ((a0 8) 0) g0, bTapeG K (a0 1) g1, bCursorG K (a0 2) g2, bWorldG K (a0 3) ((a0 4) 0) ((a0 5) 0) ((a0 6) 0) g3, bFairG K (a0 4) g4, bFairG K (a0 5) g5, bNotesG K (a0 6) g6, bPastG K (a0 7) f7_fairs g7, bTrialsG K (a0 8) ((a0 9) 0) ((a0 10) 0) ((a0 11) 0) q10.1, bFairG K (a0 9) q10.2.1, bOrderG K (a0 10) g10, bOrderG K (a0 11) g11] ++ (fam 6 (fun j => bRuleG K (f0_rules j) ((va_up p0_rules0 j7 q10.2.2) j)) ++ []))) (cTrials_findFairPricerr (a0 := fun b => a0 (8 + b)) (a1 := (a0 5)) (a2 := f0_rules j7) (g0 := g8) (g1 := g9) (g2 := g10) (g3 := g11) (g4 := g5) (g5 := (p0_rules0 j7)) h10) rfl rfl (Nat.le_of_ble_eq_true rfl) kTrials_findFairPricerr (List.mem_of_getElem? (i := 64) rfl) (by decide) (by simp only [List.nodup_cons, List.mem_cons, List.not_mem_nil, or_false, not_or, List.nodup_nil, not_false_eq_true, and_true]; omega) (map_s (rfl) (map_s (rfl) (map_s (rfl) (map_s (rfl) (map_s (rfl) (map_s (fq0 (B := fun j g => bRuleG K (f0_rules j) g) (l := [bNextStallG K (a0 0) (fun j => some (f0_rules j 0)) f0_images ((a0 1) 0) ((a0 2) 0) ((a0 3) 0) ((a0 7) 0) ((a0 8) 0) g0, bTapeG K (a0 1) g1, bCursorG K (a0 2) g2, bWorldG K (a0 3) ((a0 4) 0) ((a0 5) 0) ((a0 6) 0) g3, bFairG K (a0 4) g4, bFairG K (a0 5) g5, bNotesG K (a0 6) g6, bPastG K (a0 7) f7_fairs g7, bTrialsG K (a0 8) ((a0 9) 0) ((a0 10) 0) ((a0 11) 0) g8, bFairG K (a0 9) g9, bOrderG K (a0 10) g10, bOrderG K (a0 11) g11]) rfl hj7) map_n)))))) rfl (stm_s (bs1 := ([bNextStallG K (a0 0) (fun j => some (f0_rules j 0)) f0_images ((a0 1) 0) ((a0 2) 0) ((a0 3) 0) ((a0 7) 0) ((a0 8) 0) g0, bTapeG K (a0 1) g1, bCursorG K (a0 2) g2, bWorldG K (a0 3) ((a0 4) 0) ((a0 5) 0) ((a0 6) 0) g3, bFairG K (a0 4) g4, bFairG K (a0 5) g5, bNotesG K (a0 6) g6, bPastG K (a0 7) f7_fairs g7, bTrialsG K (a0 8) ((a0 9) 0) ((a0 10) 0) ((a0 11) 0) q10.1, bFairG K (a0 9) g9, bOrderG K (a0 10) g10, bOrderG K (a0 11) g11] ++ (fam 6 (fun j => bRuleG K (f0_rules j) (p0_rules0 j)) ++ []))) (rfl) (stm_s (bs1 := ([bNextStallG K (a0 0) (fun j => some (f0_rules j 0)) f0_images ((a0 1) 0) ((a0 2) 0) ((a0 3) 0) ((a0 7) 0) ((a0 8) 0) g0, bTapeG K (a0 1) g1, bCursorG K (a0 2) g2, bWorldG K (a0 3) ((a0 4) 0) ((a0 5) 0) ((a0 6) 0) g3, bFairG K (a0 4) g4, bFairG K (a0 5) g5, bNotesG K (a0 6) g6, bPastG K (a0 7) f7_fairs g7, bTrialsG K (a0 8) ((a0 9) 0) ((a0 10) 0) ((a0 11) 0) q10.1, bFairG K (a0 9) q10.2.1, bOrderG K (a0 10) g10, bOrderG K (a0 11) g11] ++ (fam 6 (fun j => bRuleG K (f0_rules j) (p0_rules0 j)) ++ []))) (rfl) (stm_s (bs1 := ([bNextStallG K (a0 0) (fun j => some (f0_rules j 0)) f0_images ((a0 1) 0) ((a0 2) 0) ((a0 3) 0) ((a0 7) 0) ((a0 8) 0) g0, bTapeG K (a0 1) g1, bCursorG K (a0 2) g2, bWorldG K (a0 3) ((a0 4) 0) ((a0 5) 0) ((a0 6) 0) g3, bFairG K (a0 4) g4, bFairG K (a0 5) g5, bNotesG K (a0 6) g6, bPastG K (a0 7) f7_fairs g7, bTrialsG K (a0 8) ((a0 9) 0) ((a0 10) 0) ((a0 11) 0) q10.1, bFairG K (a0 9) q10.2.1, bOrderG K (a0 10) g10, bOrderG K (a0 11) g11] ++ (fam 6 (fun j => bRuleG K (f0_rules j) (p0_rules0 j)) ++ []))) (rfl) (stm_s (bs1 := ([bNextStallG K (a0 0) (fun j => some (f0_rules j 0)) f0_images ((a0 1) 0) ((a0 2) 0) ((a0 3) 0) ((a0 7) 0) ((a0 8) 0) g0, bTapeG K (a0 1) g1, bCursorG K (a0 2) g2, bWorldG K (a0 3) ((a0 4) 0) ((a0 5) 0) ((a0 6) 0) g3, bFairG K (a0 4) g4, bFairG K (a0 5) g5, bNotesG K (a0 6) g6, bPastG K (a0 7) f7_fairs g7, bTrialsG K (a0 8) ((a0 9) 0) ((a0 10) 0) ((a0 11) 0) q10.1, bFairG K (a0 9) q10.2.1, bOrderG K (a0 10) g10, bOrderG K (a0 11) g11] ++ (fam 6 (fun j => bRuleG K (f0_rules j) (p0_rules0 j)) ++ []))) (rfl) (stm_s (bs1 := ([bNextStallG K (a0 0) (fun j => some (f0_rules j 0)) f0_images ((a0 1) 0) ((a0 2) 0) ((a0 3) 0) ((a0 7) 0) ((a0 8) 0) g0, bTapeG K (a0 1) g1, bCursorG K (a0 2) g2, bWorldG K (a0 3) ((a0 4) 0) ((a0 5) 0) ((a0 6) 0) g3, bFairG K (a0 4) g4, bFairG K (a0 5) g5, bNotesG K (a0 6) g6, bPastG K (a0 7) f7_fairs g7, bTrialsG K (a0 8) ((a0 9) 0) ((a0 10) 0) ((a0 11) 0) q10.1, bFairG K (a0 9) q10.2.1, bOrderG K (a0 10) g10, bOrderG K (a0 11) g11] ++ (fam 6 (fun j => bRuleG K (f0_rules j) (p0_rules0 j)) ++ []))) (rfl) (stm_s (bs1 := ([bNextStallG K (a0 0) (fun j => some (f0_rules j 0)) f0_images ((a0 1) 0) ((a0 2) 0) ((a0 3) 0) ((a0 7) 0) ((a0 8) 0) g0, bTapeG K (a0 1) g1, bCursorG K (a0 2) g2, bWorldG K (a0 3) ((a0 4) 0) ((a0 5) 0) ((a0 6) 0) g3, bFairG K (a0 4) g4, bFairG K (a0 5) g5, bNotesG K (a0 6) g6, bPastG K (a0 7) f7_fairs g7, bTrialsG K (a0 8) ((a0 9) 0) ((a0 10) 0) ((a0 11) 0) q10.1, bFairG K (a0 9) q10.2.1, bOrderG K (a0 10) g10, bOrderG K (a0 11) g11] ++ (fam 6 (fun j => bRuleG K (f0_rules j) ((va_up p0_rules0 j7 q10.2.2) j)) ++ []))) (fs0 (B := fun j g => bRuleG K (f0_rules j) g) (g := q10.2.2) (l := [bNextStallG K (a0 0) (fun j => some (f0_rules j 0)) f0_images ((a0 1) 0) ((a0 2) 0) ((a0 3) 0) ((a0 7) 0) ((a0 8) 0) g0, bTapeG K (a0 1) g1, bCursorG K (a0 2) g2, bWorldG K (a0 3) ((a0 4) 0) ((a0 5) 0) ((a0 6) 0) g3, bFairG K (a0 4) g4, bFairG K (a0 5) g5, bNotesG K (a0 6) g6, bPastG K (a0 7) f7_fairs g7, bTrialsG K (a0 8) ((a0 9) 0) ((a0 10) 0) ((a0 11) 0) q10.1, bFairG K (a0 9) q10.2.1, bOrderG K (a0 10) g10, bOrderG K (a0 11) g11]) rfl hj7) stm_n)))))) rfl rfl rfl rfl dX11_fairPrice_46 ?_
          refine r_aload_n 0 dX11_fairPrice_49 rfl ?_
          refine gNextStall_trials 0 rfl (tb_in (i := 13) (j := 4) rfl rfl) dX11_fairPrice_50 ?_
          refine gTrials_foundN 8 rfl (List.mem_of_getElem? (i := 63) rfl) dX11_fairPrice_53 ?_
          refine r_iload_n 3 dX11_fairPrice_56 rfl ?_
          obtain ⟨h11, h⟩ := rq_some h
          refine lTrials_found 8 rfl (inb_in h11) dX11_fairPrice_57 ?_
          have hq := Option.some.inj h
          subst hq
          exact r_iret rfl dX11_fairPrice_58
      · replace h := it_pos c6 h
        refine r_iconst (x := (-1 : Int32)) dX11_fairPrice_27 (by decide) ?_
        have hq := Option.some.inj h
        subst hq
        exact r_iret rfl dX11_fairPrice_28
end
theorem dX11_rests_0 : decode cX11_rests 0 = .ok (.aload_n 0, 1) := by decide +kernel
theorem dX11_rests_1 : decode cX11_rests 1 = .ok (.iload_n 1, 1) := by decide +kernel
theorem dX11_rests_2 : decode cX11_rests 2 = .ok (.iload_n 2, 1) := by decide +kernel
theorem dX11_rests_3 : decode cX11_rests 3 = .ok (.invokevirtual 184, 3) := by decide +kernel
theorem dX11_rests_6 : decode cX11_rests 6 = .ok (.ifCond .eq 23, 3) := by decide +kernel
theorem dX11_rests_9 : decode cX11_rests 9 = .ok (.iload_n 3, 1) := by decide +kernel
theorem dX11_rests_10 : decode cX11_rests 10 = .ok (.iconst 1, 1) := by decide +kernel
theorem dX11_rests_11 : decode cX11_rests 11 = .ok (.bipush 20, 2) := by decide +kernel
theorem dX11_rests_13 : decode cX11_rests 13 = .ok (.invokestatic 70, 3) := by decide +kernel
theorem dX11_rests_16 : decode cX11_rests 16 = .ok (.ifCond .eq 13, 3) := by decide +kernel
theorem dX11_rests_19 : decode cX11_rests 19 = .ok (.iload 4, 2) := by decide +kernel
theorem dX11_rests_21 : decode cX11_rests 21 = .ok (.iconst 0, 1) := by decide +kernel
theorem dX11_rests_22 : decode cX11_rests 22 = .ok (.iconst 2, 1) := by decide +kernel
theorem dX11_rests_23 : decode cX11_rests 23 = .ok (.invokestatic 70, 3) := by decide +kernel
theorem dX11_rests_26 : decode cX11_rests 26 = .ok (.ifCond .ne 5, 3) := by decide +kernel
theorem dX11_rests_29 : decode cX11_rests 29 = .ok (.iconst (-1), 1) := by decide +kernel
theorem dX11_rests_30 : decode cX11_rests 30 = .ok (.ireturn, 1) := by decide +kernel
theorem dX11_rests_31 : decode cX11_rests 31 = .ok (.aload_n 0, 1) := by decide +kernel
theorem dX11_rests_32 : decode cX11_rests 32 = .ok (.getfield 58, 3) := by decide +kernel
theorem dX11_rests_35 : decode cX11_rests 35 = .ok (.aload_n 0, 1) := by decide +kernel
theorem dX11_rests_36 : decode cX11_rests 36 = .ok (.getfield 36, 3) := by decide +kernel
theorem dX11_rests_39 : decode cX11_rests 39 = .ok (.getfield 119, 3) := by decide +kernel
theorem dX11_rests_42 : decode cX11_rests 42 = .ok (.aload_n 0, 1) := by decide +kernel
theorem dX11_rests_43 : decode cX11_rests 43 = .ok (.invokevirtual 176, 3) := by decide +kernel
theorem dX11_rests_46 : decode cX11_rests 46 = .ok (.iload_n 1, 1) := by decide +kernel
theorem dX11_rests_47 : decode cX11_rests 47 = .ok (.iload_n 2, 1) := by decide +kernel
theorem dX11_rests_48 : decode cX11_rests 48 = .ok (.iload_n 3, 1) := by decide +kernel
theorem dX11_rests_49 : decode cX11_rests 49 = .ok (.invokevirtual 233, 3) := by decide +kernel
theorem dX11_rests_52 : decode cX11_rests 52 = .ok (.aload_n 0, 1) := by decide +kernel
theorem dX11_rests_53 : decode cX11_rests 53 = .ok (.getfield 58, 3) := by decide +kernel
theorem dX11_rests_56 : decode cX11_rests 56 = .ok (.getfield 230, 3) := by decide +kernel
theorem dX11_rests_59 : decode cX11_rests 59 = .ok (.iload 4, 2) := by decide +kernel
theorem dX11_rests_61 : decode cX11_rests 61 = .ok (.iaload, 1) := by decide +kernel
theorem dX11_rests_62 : decode cX11_rests 62 = .ok (.ireturn, 1) := by decide +kernel
abbrev MNextStall_rests : rx_M := (RX11, yX11_rests, cX11_rests, 5, (some .int), 7)
theorem kNextStall_rests : rKv MNextStall_rests 4 := ⟨tb_in (i := 34) (j := 9) rfl rfl, tb_in (i := 34) (j := 10) rfl rfl, tb_in (i := 2) (j := 22) rfl rfl, tb_in (i := 15) (j := 14) rfl rfl, ⟨by decide, by decide, by decide +kernel⟩, by decide⟩
section
variable {a0 : Nat → Nat → Nat} {g0 : tyNextStall} {g1 : tyTape} {g2 : tyCursor} {g3 : tyWorld} {g4 : tyFair} {g5 : tyFair} {g6 : tyNotes} {g7 : tyPast} {g8 : tyTrials} {g9 : tyFair} {g10 : tyOrder} {g11 : tyOrder} {f0_rules : Nat → Nat → Nat} {f0_images : Nat → Option Nat} {f7_fairs : Nat → Option Nat} {p0_rules0 : Nat → tyRule}
def mNextStall_rests (x1 : Int32) (x2 : Int32) (x3 : Int32) (x4 : Int32) (g0 : tyNextStall) (g3 : tyWorld) (g5 : tyFair) (g8 : tyTrials) (g9 : tyFair) (p0_rules0 : Nat → tyRule) : Option (Int32 × tyTrials × tyFair × (Nat → tyRule)) := (mNextStall_areTwoStalls x1 x2 g5).bind (fun q1 => (if q1 = 0 then some ((-1 : Int32), g8, g9, p0_rules0) else (mNextStall_within x3 (1 : Int32) (20 : Int32)).bind (fun q3 => (if q3 = 0 then some ((-1 : Int32), g8, g9, p0_rules0) else (mNextStall_within x4 (0 : Int32) (2 : Int32)).bind (fun q5 => (if q5 = 0 then some ((-1 : Int32), g8, g9, p0_rules0) else (mNextStall_ruleInForce g0 g3).bind (fun q7 => mt q7 ((mTrials_findRestsrn x1 x2 x3 g8 g9 g5).bind (fun q8 => rq (inb x4 3) (some ((q8.1.1 x4.toNatClampNeg), q8.1, q8.2, p0_rules0)))) (fun j7 => rq (decide (j7 < 6)) ((mTrials_findRestsrr x1 x2 x3 g8 g9 g5 (p0_rules0 j7)).bind (fun q10 => rq (inb x4 3) (some ((q10.1.1 x4.toNatClampNeg), q10.1, q10.2.1, (va_up p0_rules0 j7 q10.2.2)))))))))))))
set_option maxHeartbeats 4000000 in
set_option maxRecDepth 20000 in
theorem cNextStall_rests {q : Int32 × tyTrials × tyFair × (Nat → tyRule)} {x1 : Int32} {x2 : Int32} {x3 : Int32} {x4 : Int32} (h : mNextStall_rests x1 x2 x3 x4 g0 g3 g5 g8 g9 p0_rules0 = some q) : rMet l D Z (ty7 K) MNextStall_rests [.ref ((a0 0) 0), .int x1, .int x2, .int x3, .int x4] (List.flatten ([bNextStallG K (a0 0) (fun j => some (f0_rules j 0)) f0_images ((a0 1) 0) ((a0 2) 0) ((a0 3) 0) ((a0 7) 0) ((a0 8) 0) g0, bTapeG K (a0 1) g1, bCursorG K (a0 2) g2, bWorldG K (a0 3) ((a0 4) 0) ((a0 5) 0) ((a0 6) 0) g3, bFairG K (a0 4) g4, bFairG K (a0 5) g5, bNotesG K (a0 6) g6, bPastG K (a0 7) f7_fairs g7, bTrialsG K (a0 8) ((a0 9) 0) ((a0 10) 0) ((a0 11) 0) g8, bFairG K (a0 9) g9, bOrderG K (a0 10) g10, bOrderG K (a0 11) g11] ++ (fam 6 (fun j => bRuleG K (f0_rules j) (p0_rules0 j)) ++ []))) (List.flatten ([bNextStallG K (a0 0) (fun j => some (f0_rules j 0)) f0_images ((a0 1) 0) ((a0 2) 0) ((a0 3) 0) ((a0 7) 0) ((a0 8) 0) g0, bTapeG K (a0 1) g1, bCursorG K (a0 2) g2, bWorldG K (a0 3) ((a0 4) 0) ((a0 5) 0) ((a0 6) 0) g3, bFairG K (a0 4) g4, bFairG K (a0 5) g5, bNotesG K (a0 6) g6, bPastG K (a0 7) f7_fairs g7, bTrialsG K (a0 8) ((a0 9) 0) ((a0 10) 0) ((a0 11) 0) q.2.1, bFairG K (a0 9) q.2.2.1, bOrderG K (a0 10) g10, bOrderG K (a0 11) g11] ++ (fam 6 (fun j => bRuleG K (f0_rules j) (q.2.2.2 j)) ++ []))) (some (.int q.1)) := by
  refine rMet.of (by decide) rfl (Nat.le_of_ble_eq_true rfl) ?_
  refine r_sub (lv' := [(0, .ref ((a0 0) 0)), (1, .int x1), (2, .int x2), (3, .int x3), (4, .int x4)]) [0, 1, 2, 3, 4] rfl ?_
  unfold mNextStall_rests at h
  refine r_aload_n 0 dX11_rests_0 rfl ?_
  refine r_iload_n 1 dX11_rests_1 rfl ?_
  refine r_iload_n 2 dX11_rests_2 rfl ?_
  obtain ⟨q1, h1, h⟩ := bd_some h
  refine b_callV (isC := [0, 1, 2, 3, 4, 5, 6, 7, 8, 9, 10, 11]) (ci := 9)  (st := []) (bs1 := ([bNextStallG K (a0 0) (fun j => some (f0_rules j 0)) f0_images ((a0 1) 0) ((a0 2) 0) ((a0 3) 0) ((a0 7) 0) ((a0 8) 0) g0, bTapeG K (a0 1) g1, bCursorG K (a0 2) g2, bWorldG K (a0 3) ((a0 4) 0) ((a0 5) 0) ((a0 6) 0) g3, bFairG K (a0 4) g4, bFairG K (a0 5) g5, bNotesG K (a0 6) g6, bPastG K (a0 7) f7_fairs g7, bTrialsG K (a0 8) ((a0 9) 0) ((a0 10) 0) ((a0 11) 0) g8, bFairG K (a0 9) g9, bOrderG K (a0 10) g10, bOrderG K (a0 11) g11] ++ (fam 6 (fun j => bRuleG K (f0_rules j) (p0_rules0 j)) ++ []))) (cNextStall_areTwoStalls (a0 := a0) (g0 := g0) (g1 := g1) (g2 := g2) (g3 := g3) (g4 := g4) (g5 := g5) (g6 := g6) (g7 := g7) (g8 := g8) (g9 := g9) (g10 := g10) (g11 := g11) h1) rfl rfl (Nat.le_of_ble_eq_true rfl) kNextStall_areTwoStalls (tb_in (i := 14) (j := 16) rfl rfl) (by decide) (by decide) rfl rfl rfl rfl rfl rfl rfl dX11_rests_3 ?_
  refine r_if_eq 29 dX11_rests_6 (by decide) (fun c2 => ?_) (fun c2 => ?_)
  · replace h := it_pos c2 h
    refine r_iconst (x := (-1 : Int32)) dX11_rests_29 (by decide) ?_
    have hq := Option.some.inj h
    subst hq
    exact r_iret rfl dX11_rests_30
  · replace h := it_neg c2 h
    refine r_iload_n 3 dX11_rests_9 rfl ?_
    refine r_iconst (x := (1 : Int32)) dX11_rests_10 (by decide) ?_
    refine r_bipush (x := (20 : Int32)) dX11_rests_11 (by decide) ?_
    obtain ⟨q3, h3, h⟩ := bd_some h
    refine b_callS (isC := []) (st := []) (bs1 := ([bNextStallG K (a0 0) (fun j => some (f0_rules j 0)) f0_images ((a0 1) 0) ((a0 2) 0) ((a0 3) 0) ((a0 7) 0) ((a0 8) 0) g0, bTapeG K (a0 1) g1, bCursorG K (a0 2) g2, bWorldG K (a0 3) ((a0 4) 0) ((a0 5) 0) ((a0 6) 0) g3, bFairG K (a0 4) g4, bFairG K (a0 5) g5, bNotesG K (a0 6) g6, bPastG K (a0 7) f7_fairs g7, bTrialsG K (a0 8) ((a0 9) 0) ((a0 10) 0) ((a0 11) 0) g8, bFairG K (a0 9) g9, bOrderG K (a0 10) g10, bOrderG K (a0 11) g11] ++ (fam 6 (fun j => bRuleG K (f0_rules j) (p0_rules0 j)) ++ []))) (cNextStall_within   h3) rfl rfl (Nat.le_of_ble_eq_true rfl) kNextStall_within (tb_in (i := 13) (j := 17) rfl rfl) (by decide) (by decide) rfl rfl rfl dX11_rests_13 ?_
    refine r_if_eq 29 dX11_rests_16 (by decide) (fun c4 => ?_) (fun c4 => ?_)
    · replace h := it_pos c4 h
      refine r_iconst (x := (-1 : Int32)) dX11_rests_29 (by decide) ?_
      have hq := Option.some.inj h
      subst hq
      exact r_iret rfl dX11_rests_30
    · replace h := it_neg c4 h
      refine r_iload 4 dX11_rests_19 rfl ?_
      refine r_iconst (x := (0 : Int32)) dX11_rests_21 (by decide) ?_
      refine r_iconst (x := (2 : Int32)) dX11_rests_22 (by decide) ?_
      obtain ⟨q5, h5, h⟩ := bd_some h
      refine b_callS (isC := []) (st := []) (bs1 := ([bNextStallG K (a0 0) (fun j => some (f0_rules j 0)) f0_images ((a0 1) 0) ((a0 2) 0) ((a0 3) 0) ((a0 7) 0) ((a0 8) 0) g0, bTapeG K (a0 1) g1, bCursorG K (a0 2) g2, bWorldG K (a0 3) ((a0 4) 0) ((a0 5) 0) ((a0 6) 0) g3, bFairG K (a0 4) g4, bFairG K (a0 5) g5, bNotesG K (a0 6) g6, bPastG K (a0 7) f7_fairs g7, bTrialsG K (a0 8) ((a0 9) 0) ((a0 10) 0) ((a0 11) 0) g8, bFairG K (a0 9) g9, bOrderG K (a0 10) g10, bOrderG K (a0 11) g11] ++ (fam 6 (fun j => bRuleG K (f0_rules j) (p0_rules0 j)) ++ []))) (cNextStall_within   h5) rfl rfl (Nat.le_of_ble_eq_true rfl) kNextStall_within (tb_in (i := 13) (j := 17) rfl rfl) (by decide) (by decide) rfl rfl rfl dX11_rests_23 ?_
      refine r_if_ne 31 dX11_rests_26 (by decide) (fun c6 => ?_) (fun c6 => ?_)
      · replace h := it_neg c6 h
        refine r_aload_n 0 dX11_rests_31 rfl ?_
        refine gNextStall_trials 0 rfl (tb_in (i := 13) (j := 4) rfl rfl) dX11_rests_32 ?_
        refine r_aload_n 0 dX11_rests_35 rfl ?_
        refine gNextStall_world 0 rfl (tb_in (i := 12) (j := 26) rfl rfl) dX11_rests_36 ?_
        refine gWorld_nowN 3 rfl (List.mem_of_getElem? (i := 55) rfl) dX11_rests_39 ?_
        refine r_aload_n 0 dX11_rests_42 rfl ?_
        obtain ⟨q7, h7, h⟩ := bd_some h
        refine b_callV (isC := ([0, 1, 2, 3, 4, 5, 6, 7, 8, 9, 10, 11] ++ (List.range' 12 6 ++ []))) (ci := 9)  (st := [.ref ((a0 5) 0), .ref ((a0 8) 0)]) (bs1 := ([bNextStallG K (a0 0) (fun j => some (f0_rules j 0)) f0_images ((a0 1) 0) ((a0 2) 0) ((a0 3) 0) ((a0 7) 0) ((a0 8) 0) g0, bTapeG K (a0 1) g1, bCursorG K (a0 2) g2, bWorldG K (a0 3) ((a0 4) 0) ((a0 5) 0) ((a0 6) 0) g3, bFairG K (a0 4) g4, bFairG K (a0 5) g5, bNotesG K (a0 6) g6, bPastG K (a0 7) f7_fairs g7, bTrialsG K (a0 8) ((a0 9) 0) ((a0 10) 0) ((a0 11) 0) g8, bFairG K (a0 9) g9, bOrderG K (a0 10) g10, bOrderG K (a0 11) g11] ++ (fam 6 (fun j => bRuleG K (f0_rules j) (p0_rules0 j)) ++ []))) (cNextStall_ruleInForce (a0 := a0) (f0_rules := f0_rules) (g0 := g0) (g1 := g1) (g2 := g2) (g3 := g3) (g4 := g4) (g5 := g5) (g6 := g6) (g7 := g7) (g8 := g8) (g9 := g9) (g10 := g10) (g11 := g11) (p0_rules0 := p0_rules0) h7) rfl rfl (Nat.le_of_ble_eq_true rfl) kNextStall_ruleInForce (tb_in (i := 14) (j := 11) rfl rfl) (by decide) (by decide +kernel) (map_app rfl (map_app (map_f0 (n := 6) (l := [bNextStallG K (a0 0) (fun j => some (f0_rules j 0)) f0_images ((a0 1) 0) ((a0 2) 0) ((a0 3) 0) ((a0 7) 0) ((a0 8) 0) g0, bTapeG K (a0 1) g1, bCursorG K (a0 2) g2, bWorldG K (a0 3) ((a0 4) 0) ((a0 5) 0) ((a0 6) 0) g3, bFairG K (a0 4) g4, bFairG K (a0 5) g5, bNotesG K (a0 6) g6, bPastG K (a0 7) f7_fairs g7, bTrialsG K (a0 8) ((a0 9) 0) ((a0 10) 0) ((a0 11) 0) g8, bFairG K (a0 9) g9, bOrderG K (a0 10) g10, bOrderG K (a0 11) g11]) rfl) rfl)) (by simp only [List.length_append, fam_len, List.length_range', List.length_cons, List.length_nil]) (stm_a (bs1 := ([bNextStallG K (a0 0) (fun j => some (f0_rules j 0)) f0_images ((a0 1) 0) ((a0 2) 0) ((a0 3) 0) ((a0 7) 0) ((a0 8) 0) g0, bTapeG K (a0 1) g1, bCursorG K (a0 2) g2, bWorldG K (a0 3) ((a0 4) 0) ((a0 5) 0) ((a0 6) 0) g3, bFairG K (a0 4) g4, bFairG K (a0 5) g5, bNotesG K (a0 6) g6, bPastG K (a0 7) f7_fairs g7, bTrialsG K (a0 8) ((a0 9) 0) ((a0 10) 0) ((a0 11) 0) g8, bFairG K (a0 9) g9, bOrderG K (a0 10) g10, bOrderG K (a0 11) g11] ++ (fam 6 (fun j => bRuleG K (f0_rules j) (p0_rules0 j)) ++ []))) rfl rfl (stm_a (bs1 := ([bNextStallG K (a0 0) (fun j => some (f0_rules j 0)) f0_images ((a0 1) 0) ((a0 2) 0) ((a0 3) 0) ((a0 7) 0) ((a0 8) 0) g0, bTapeG K (a0 1) g1, bCursorG K (a0 2) g2, bWorldG K (a0 3) ((a0 4) 0) ((a0 5) 0) ((a0 6) 0) g3, bFairG K (a0 4) g4, bFairG K (a0 5) g5, bNotesG K (a0 6) g6, bPastG K (a0 7) f7_fairs g7, bTrialsG K (a0 8) ((a0 9) 0) ((a0 10) 0) ((a0 11) 0) g8, bFairG K (a0 9) g9, bOrderG K (a0 10) g10, bOrderG K (a0 11) g11] ++ (fam 6 (fun j => bRuleG K (f0_rules j) (p0_rules0 j)) ++ []))) (by rw [List.length_range', fam_len]) (stm_f0 (n := 6) (l := [bNextStallG K (a0 0) (fun j => some (f0_rules j 0)) f0_images ((a0 1) 0) ((a0 2) 0) ((a0 3) 0) ((a0 7) 0) ((a0 8) 0) g0, bTapeG K (a0 1) g1, bCursorG K (a0 2) g2, bWorldG K (a0 3) ((a0 4) 0) ((a0 5) 0) ((a0 6) 0) g3, bFairG K (a0 4) g4, bFairG K (a0 5) g5, bNotesG K (a0 6) g6, bPastG K (a0 7) f7_fairs g7, bTrialsG K (a0 8) ((a0 9) 0) ((a0 10) 0) ((a0 11) 0) g8, bFairG K (a0 9) g9, bOrderG K (a0 10) g10, bOrderG K (a0 11) g11]) rfl) rfl)) rfl rfl rfl rfl dX11_rests_43 ?_
        cases q7 with
        | none =>
          replace h := mt_n h
          refine r_st (st' := [.null, .ref ((a0 5) 0), .ref ((a0 8) 0)]) rfl ?_
          refine r_iload_n 1 dX11_rests_46 rfl ?_
          refine r_iload_n 2 dX11_rests_47 rfl ?_
          refine r_iload_n 3 dX11_rests_48 rfl ?_
          obtain ⟨q8, h8, h⟩ := bd_some h
          refine b_callVN (isC := [8, 9, 10, 11, 5]) (ci := 7)  (st := []) (bs1 := ([bNextStallG K (a0 0) (fun j => some (f0_rules j 0)) f0_images ((a0 1) 0) ((a0 2) 0) ((a0 3) 0) ((a0 7) 0) ((a0 8) 0) g0, bTapeG K (a0 1) g1, bCursorG K (a0 2) g2, bWorldG K (a0 3) ((a0 4) 0) ((a0 5) 0) ((a0 6) 0) g3, bFairG K (a0 4) g4, bFairG K (a0 5) g5, bNotesG K (a0 6) g6, bPastG K (a0 7) f7_fairs g7, bTrialsG K (a0 8) ((a0 9) 0) ((a0 10) 0) ((a0 11) 0) q8.1, bFairG K (a0 9) q8.2, bOrderG K (a0 10) g10, bOrderG K (a0 11) g11] ++ (fam 6 (fun j => bRuleG K (f0_rules j) (p0_rules0 j)) ++ []))) (cTrials_findRestsrn (a0 := fun b => a0 (8 + b)) (a1 := (a0 5)) (g0 := g8) (g1 := g9) (g2 := g10) (g3 := g11) (g4 := g5) h8) rfl rfl (Nat.le_of_ble_eq_true rfl) kTrials_findRestsrn (List.mem_of_getElem? (i := 65) rfl) (by decide) (by decide) rfl rfl rfl rfl rfl rfl rfl dX11_rests_49 ?_
          refine r_aload_n 0 dX11_rests_52 rfl ?_
          refine gNextStall_trials 0 rfl (tb_in (i := 13) (j := 4) rfl rfl) dX11_rests_53 ?_
          refine gTrials_foundN 8 rfl (List.mem_of_getElem? (i := 63) rfl) dX11_rests_56 ?_
          refine r_iload 4 dX11_rests_59 rfl ?_
          obtain ⟨h9, h⟩ := rq_some h
          refine lTrials_found 8 rfl (inb_in h9) dX11_rests_61 ?_
          have hq := Option.some.inj h
          subst hq
          exact r_iret rfl dX11_rests_62
        | some j7 =>
          replace h := mt_s h
          obtain ⟨hg7, h⟩ := rq_some h
          have hj7 := of_decide_eq_true hg7
          refine r_st (st' := [.ref (f0_rules j7 0), .ref ((a0 5) 0), .ref ((a0 8) 0)]) rfl ?_
          refine r_iload_n 1 dX11_rests_46 rfl ?_
          refine r_iload_n 2 dX11_rests_47 rfl ?_
          refine r_iload_n 3 dX11_rests_48 rfl ?_
          obtain ⟨q10, h10, h⟩ := bd_some h
          refine b_callVN (isC := [8, 9, 10, 11, 5, 12 + j7]) (ci := 7)  (st := []) (bs1 := ([bNextStallG K (a0 0) (fun j => some (f0_rules j 0)) f0_images ((a0 1) 0) ((a0 2) 0) ((a0 3) 0) ((a0 7) 0) ((a0 8) 0) g0, bTapeG K (a0 1) g1, bCursorG K (a0 2) g2, bWorldG K (a0 3) ((a0 4) 0) ((a0 5) 0) ((a0 6) 0) g3, bFairG K (a0 4) g4, bFairG K (a0 5) g5, bNotesG K (a0 6) g6, bPastG K (a0 7) f7_fairs g7, bTrialsG K (a0 8) ((a0 9) 0) ((a0 10) 0) ((a0 11) 0) q10.1, bFairG K (a0 9) q10.2.1, bOrderG K (a0 10) g10, bOrderG K (a0 11) g11] ++ (fam 6 (fun j => bRuleG K (f0_rules j) ((va_up p0_rules0 j7 q10.2.2) j)) ++ []))) (cTrials_findRestsrr (a0 := fun b => a0 (8 + b)) (a1 := (a0 5)) (a2 := f0_rules j7) (g0 := g8) (g1 := g9) (g2 := g10) (g3 := g11) (g4 := g5) (g5 := (p0_rules0 j7)) h10) rfl rfl (Nat.le_of_ble_eq_true rfl) kTrials_findRestsrr (List.mem_of_getElem? (i := 65) rfl) (by decide) (by simp only [List.nodup_cons, List.mem_cons, List.not_mem_nil, or_false, not_or, List.nodup_nil, not_false_eq_true, and_true]; omega) (map_s (rfl) (map_s (rfl) (map_s (rfl) (map_s (rfl) (map_s (rfl) (map_s (fq0 (B := fun j g => bRuleG K (f0_rules j) g) (l := [bNextStallG K (a0 0) (fun j => some (f0_rules j 0)) f0_images ((a0 1) 0) ((a0 2) 0) ((a0 3) 0) ((a0 7) 0) ((a0 8) 0) g0, bTapeG K (a0 1) g1, bCursorG K (a0 2) g2, bWorldG K (a0 3) ((a0 4) 0) ((a0 5) 0) ((a0 6) 0) g3, bFairG K (a0 4) g4, bFairG K (a0 5) g5, bNotesG K (a0 6) g6, bPastG K (a0 7) f7_fairs g7, bTrialsG K (a0 8) ((a0 9) 0) ((a0 10) 0) ((a0 11) 0) g8, bFairG K (a0 9) g9, bOrderG K (a0 10) g10, bOrderG K (a0 11) g11]) rfl hj7) map_n)))))) rfl (stm_s (bs1 := ([bNextStallG K (a0 0) (fun j => some (f0_rules j 0)) f0_images ((a0 1) 0) ((a0 2) 0) ((a0 3) 0) ((a0 7) 0) ((a0 8) 0) g0, bTapeG K (a0 1) g1, bCursorG K (a0 2) g2, bWorldG K (a0 3) ((a0 4) 0) ((a0 5) 0) ((a0 6) 0) g3, bFairG K (a0 4) g4, bFairG K (a0 5) g5, bNotesG K (a0 6) g6, bPastG K (a0 7) f7_fairs g7, bTrialsG K (a0 8) ((a0 9) 0) ((a0 10) 0) ((a0 11) 0) q10.1, bFairG K (a0 9) g9, bOrderG K (a0 10) g10, bOrderG K (a0 11) g11] ++ (fam 6 (fun j => bRuleG K (f0_rules j) (p0_rules0 j)) ++ []))) (rfl) (stm_s (bs1 := ([bNextStallG K (a0 0) (fun j => some (f0_rules j 0)) f0_images ((a0 1) 0) ((a0 2) 0) ((a0 3) 0) ((a0 7) 0) ((a0 8) 0) g0, bTapeG K (a0 1) g1, bCursorG K (a0 2) g2, bWorldG K (a0 3) ((a0 4) 0) ((a0 5) 0) ((a0 6) 0) g3, bFairG K (a0 4) g4, bFairG K (a0 5) g5, bNotesG K (a0 6) g6, bPastG K (a0 7) f7_fairs g7, bTrialsG K (a0 8) ((a0 9) 0) ((a0 10) 0) ((a0 11) 0) q10.1, bFairG K (a0 9) q10.2.1, bOrderG K (a0 10) g10, bOrderG K (a0 11) g11] ++ (fam 6 (fun j => bRuleG K (f0_rules j) (p0_rules0 j)) ++ []))) (rfl) (stm_s (bs1 := ([bNextStallG K (a0 0) (fun j => some (f0_rules j 0)) f0_images ((a0 1) 0) ((a0 2) 0) ((a0 3) 0) ((a0 7) 0) ((a0 8) 0) g0, bTapeG K (a0 1) g1, bCursorG K (a0 2) g2, bWorldG K (a0 3) ((a0 4) 0) ((a0 5) 0) ((a0 6) 0) g3, bFairG K (a0 4) g4, bFairG K (a0 5) g5, bNotesG K (a0 6) g6, bPastG K (a0 7) f7_fairs g7, bTrialsG K (a0 8) ((a0 9) 0) ((a0 10) 0) ((a0 11) 0) q10.1, bFairG K (a0 9) q10.2.1, bOrderG K (a0 10) g10, bOrderG K (a0 11) g11] ++ (fam 6 (fun j => bRuleG K (f0_rules j) (p0_rules0 j)) ++ []))) (rfl) (stm_s (bs1 := ([bNextStallG K (a0 0) (fun j => some (f0_rules j 0)) f0_images ((a0 1) 0) ((a0 2) 0) ((a0 3) 0) ((a0 7) 0) ((a0 8) 0) g0, bTapeG K (a0 1) g1, bCursorG K (a0 2) g2, bWorldG K (a0 3) ((a0 4) 0) ((a0 5) 0) ((a0 6) 0) g3, bFairG K (a0 4) g4, bFairG K (a0 5) g5, bNotesG K (a0 6) g6, bPastG K (a0 7) f7_fairs g7, bTrialsG K (a0 8) ((a0 9) 0) ((a0 10) 0) ((a0 11) 0) q10.1, bFairG K (a0 9) q10.2.1, bOrderG K (a0 10) g10, bOrderG K (a0 11) g11] ++ (fam 6 (fun j => bRuleG K (f0_rules j) (p0_rules0 j)) ++ []))) (rfl) (stm_s (bs1 := ([bNextStallG K (a0 0) (fun j => some (f0_rules j 0)) f0_images ((a0 1) 0) ((a0 2) 0) ((a0 3) 0) ((a0 7) 0) ((a0 8) 0) g0, bTapeG K (a0 1) g1, bCursorG K (a0 2) g2, bWorldG K (a0 3) ((a0 4) 0) ((a0 5) 0) ((a0 6) 0) g3, bFairG K (a0 4) g4, bFairG K (a0 5) g5, bNotesG K (a0 6) g6, bPastG K (a0 7) f7_fairs g7, bTrialsG K (a0 8) ((a0 9) 0) ((a0 10) 0) ((a0 11) 0) q10.1, bFairG K (a0 9) q10.2.1, bOrderG K (a0 10) g10, bOrderG K (a0 11) g11] ++ (fam 6 (fun j => bRuleG K (f0_rules j) (p0_rules0 j)) ++ []))) (rfl) (stm_s (bs1 := ([bNextStallG K (a0 0) (fun j => some (f0_rules j 0)) f0_images ((a0 1) 0) ((a0 2) 0) ((a0 3) 0) ((a0 7) 0) ((a0 8) 0) g0, bTapeG K (a0 1) g1, bCursorG K (a0 2) g2, bWorldG K (a0 3) ((a0 4) 0) ((a0 5) 0) ((a0 6) 0) g3, bFairG K (a0 4) g4, bFairG K (a0 5) g5, bNotesG K (a0 6) g6, bPastG K (a0 7) f7_fairs g7, bTrialsG K (a0 8) ((a0 9) 0) ((a0 10) 0) ((a0 11) 0) q10.1, bFairG K (a0 9) q10.2.1, bOrderG K (a0 10) g10, bOrderG K (a0 11) g11] ++ (fam 6 (fun j => bRuleG K (f0_rules j) ((va_up p0_rules0 j7 q10.2.2) j)) ++ []))) (fs0 (B := fun j g => bRuleG K (f0_rules j) g) (g := q10.2.2) (l := [bNextStallG K (a0 0) (fun j => some (f0_rules j 0)) f0_images ((a0 1) 0) ((a0 2) 0) ((a0 3) 0) ((a0 7) 0) ((a0 8) 0) g0, bTapeG K (a0 1) g1, bCursorG K (a0 2) g2, bWorldG K (a0 3) ((a0 4) 0) ((a0 5) 0) ((a0 6) 0) g3, bFairG K (a0 4) g4, bFairG K (a0 5) g5, bNotesG K (a0 6) g6, bPastG K (a0 7) f7_fairs g7, bTrialsG K (a0 8) ((a0 9) 0) ((a0 10) 0) ((a0 11) 0) q10.1, bFairG K (a0 9) q10.2.1, bOrderG K (a0 10) g10, bOrderG K (a0 11) g11]) rfl hj7) stm_n)))))) rfl rfl rfl rfl dX11_rests_49 ?_
          refine r_aload_n 0 dX11_rests_52 rfl ?_
          refine gNextStall_trials 0 rfl (tb_in (i := 13) (j := 4) rfl rfl) dX11_rests_53 ?_
          refine gTrials_foundN 8 rfl (List.mem_of_getElem? (i := 63) rfl) dX11_rests_56 ?_
          refine r_iload 4 dX11_rests_59 rfl ?_
          obtain ⟨h11, h⟩ := rq_some h
          refine lTrials_found 8 rfl (inb_in h11) dX11_rests_61 ?_
          have hq := Option.some.inj h
          subst hq
          exact r_iret rfl dX11_rests_62
      · replace h := it_pos c6 h
        refine r_iconst (x := (-1 : Int32)) dX11_rests_29 (by decide) ?_
        have hq := Option.some.inj h
        subst hq
        exact r_iret rfl dX11_rests_30
end
theorem dX11_commission_0 : decode cX11_commission 0 = .ok (.aload_n 0, 1) := by decide +kernel
theorem dX11_commission_1 : decode cX11_commission 1 = .ok (.iload_n 1, 1) := by decide +kernel
theorem dX11_commission_2 : decode cX11_commission 2 = .ok (.invokevirtual 115, 3) := by decide +kernel
theorem dX11_commission_5 : decode cX11_commission 5 = .ok (.ifCond .eq 22, 3) := by decide +kernel
theorem dX11_commission_8 : decode cX11_commission 8 = .ok (.iload_n 2, 1) := by decide +kernel
theorem dX11_commission_9 : decode cX11_commission 9 = .ok (.iconst 1, 1) := by decide +kernel
theorem dX11_commission_10 : decode cX11_commission 10 = .ok (.bipush 60, 2) := by decide +kernel
theorem dX11_commission_12 : decode cX11_commission 12 = .ok (.invokestatic 70, 3) := by decide +kernel
theorem dX11_commission_15 : decode cX11_commission 15 = .ok (.ifCond .eq 12, 3) := by decide +kernel
theorem dX11_commission_18 : decode cX11_commission 18 = .ok (.iload_n 3, 1) := by decide +kernel
theorem dX11_commission_19 : decode cX11_commission 19 = .ok (.iconst 0, 1) := by decide +kernel
theorem dX11_commission_20 : decode cX11_commission 20 = .ok (.iconst 1, 1) := by decide +kernel
theorem dX11_commission_21 : decode cX11_commission 21 = .ok (.invokestatic 70, 3) := by decide +kernel
theorem dX11_commission_24 : decode cX11_commission 24 = .ok (.ifCond .ne 5, 3) := by decide +kernel
theorem dX11_commission_27 : decode cX11_commission 27 = .ok (.iconst (-1), 1) := by decide +kernel
theorem dX11_commission_28 : decode cX11_commission 28 = .ok (.ireturn, 1) := by decide +kernel
theorem dX11_commission_29 : decode cX11_commission 29 = .ok (.aload_n 0, 1) := by decide +kernel
theorem dX11_commission_30 : decode cX11_commission 30 = .ok (.getfield 58, 3) := by decide +kernel
theorem dX11_commission_33 : decode cX11_commission 33 = .ok (.aload_n 0, 1) := by decide +kernel
theorem dX11_commission_34 : decode cX11_commission 34 = .ok (.getfield 36, 3) := by decide +kernel
theorem dX11_commission_37 : decode cX11_commission 37 = .ok (.getfield 119, 3) := by decide +kernel
theorem dX11_commission_40 : decode cX11_commission 40 = .ok (.aload_n 0, 1) := by decide +kernel
theorem dX11_commission_41 : decode cX11_commission 41 = .ok (.invokevirtual 176, 3) := by decide +kernel
theorem dX11_commission_44 : decode cX11_commission 44 = .ok (.iload_n 1, 1) := by decide +kernel
theorem dX11_commission_45 : decode cX11_commission 45 = .ok (.iload_n 2, 1) := by decide +kernel
theorem dX11_commission_46 : decode cX11_commission 46 = .ok (.invokevirtual 237, 3) := by decide +kernel
theorem dX11_commission_49 : decode cX11_commission 49 = .ok (.aload_n 0, 1) := by decide +kernel
theorem dX11_commission_50 : decode cX11_commission 50 = .ok (.getfield 58, 3) := by decide +kernel
theorem dX11_commission_53 : decode cX11_commission 53 = .ok (.getfield 230, 3) := by decide +kernel
theorem dX11_commission_56 : decode cX11_commission 56 = .ok (.iload_n 3, 1) := by decide +kernel
theorem dX11_commission_57 : decode cX11_commission 57 = .ok (.iaload, 1) := by decide +kernel
theorem dX11_commission_58 : decode cX11_commission 58 = .ok (.ireturn, 1) := by decide +kernel
abbrev MNextStall_commission : rx_M := (RX11, yX11_commission, cX11_commission, 4, (some .int), 7)
theorem kNextStall_commission : rKv MNextStall_commission 3 := ⟨tb_in (i := 34) (j := 15) rfl rfl, tb_in (i := 34) (j := 16) rfl rfl, tb_in (i := 2) (j := 22) rfl rfl, tb_in (i := 15) (j := 17) rfl rfl, ⟨by decide, by decide, by decide +kernel⟩, by decide⟩
section
variable {a0 : Nat → Nat → Nat} {g0 : tyNextStall} {g1 : tyTape} {g2 : tyCursor} {g3 : tyWorld} {g4 : tyFair} {g5 : tyFair} {g6 : tyNotes} {g7 : tyPast} {g8 : tyTrials} {g9 : tyFair} {g10 : tyOrder} {g11 : tyOrder} {f0_rules : Nat → Nat → Nat} {f0_images : Nat → Option Nat} {f7_fairs : Nat → Option Nat} {p0_rules0 : Nat → tyRule}
def mNextStall_commission (x1 : Int32) (x2 : Int32) (x3 : Int32) (g0 : tyNextStall) (g3 : tyWorld) (g5 : tyFair) (g8 : tyTrials) (g9 : tyFair) (p0_rules0 : Nat → tyRule) : Option (Int32 × tyTrials × tyFair × (Nat → tyRule)) := (mNextStall_isStall x1 g5).bind (fun q1 => (if q1 = 0 then some ((-1 : Int32), g8, g9, p0_rules0) else (mNextStall_within x2 (1 : Int32) (60 : Int32)).bind (fun q3 => (if q3 = 0 then some ((-1 : Int32), g8, g9, p0_rules0) else (mNextStall_within x3 (0 : Int32) (1 : Int32)).bind (fun q5 => (if q5 = 0 then some ((-1 : Int32), g8, g9, p0_rules0) else (mNextStall_ruleInForce g0 g3).bind (fun q7 => mt q7 ((mTrials_findCommissionrn x1 x2 g8 g9 g5).bind (fun q8 => rq (inb x3 3) (some ((q8.1.1 x3.toNatClampNeg), q8.1, q8.2, p0_rules0)))) (fun j7 => rq (decide (j7 < 6)) ((mTrials_findCommissionrr x1 x2 g8 g9 g5 (p0_rules0 j7)).bind (fun q10 => rq (inb x3 3) (some ((q10.1.1 x3.toNatClampNeg), q10.1, q10.2.1, (va_up p0_rules0 j7 q10.2.2)))))))))))))
set_option maxHeartbeats 4000000 in
set_option maxRecDepth 20000 in
theorem cNextStall_commission {q : Int32 × tyTrials × tyFair × (Nat → tyRule)} {x1 : Int32} {x2 : Int32} {x3 : Int32} (h : mNextStall_commission x1 x2 x3 g0 g3 g5 g8 g9 p0_rules0 = some q) : rMet l D Z (ty7 K) MNextStall_commission [.ref ((a0 0) 0), .int x1, .int x2, .int x3] (List.flatten ([bNextStallG K (a0 0) (fun j => some (f0_rules j 0)) f0_images ((a0 1) 0) ((a0 2) 0) ((a0 3) 0) ((a0 7) 0) ((a0 8) 0) g0, bTapeG K (a0 1) g1, bCursorG K (a0 2) g2, bWorldG K (a0 3) ((a0 4) 0) ((a0 5) 0) ((a0 6) 0) g3, bFairG K (a0 4) g4, bFairG K (a0 5) g5, bNotesG K (a0 6) g6, bPastG K (a0 7) f7_fairs g7, bTrialsG K (a0 8) ((a0 9) 0) ((a0 10) 0) ((a0 11) 0) g8, bFairG K (a0 9) g9, bOrderG K (a0 10) g10, bOrderG K (a0 11) g11] ++ (fam 6 (fun j => bRuleG K (f0_rules j) (p0_rules0 j)) ++ []))) (List.flatten ([bNextStallG K (a0 0) (fun j => some (f0_rules j 0)) f0_images ((a0 1) 0) ((a0 2) 0) ((a0 3) 0) ((a0 7) 0) ((a0 8) 0) g0, bTapeG K (a0 1) g1, bCursorG K (a0 2) g2, bWorldG K (a0 3) ((a0 4) 0) ((a0 5) 0) ((a0 6) 0) g3, bFairG K (a0 4) g4, bFairG K (a0 5) g5, bNotesG K (a0 6) g6, bPastG K (a0 7) f7_fairs g7, bTrialsG K (a0 8) ((a0 9) 0) ((a0 10) 0) ((a0 11) 0) q.2.1, bFairG K (a0 9) q.2.2.1, bOrderG K (a0 10) g10, bOrderG K (a0 11) g11] ++ (fam 6 (fun j => bRuleG K (f0_rules j) (q.2.2.2 j)) ++ []))) (some (.int q.1)) := by
  refine rMet.of (by decide) rfl (Nat.le_of_ble_eq_true rfl) ?_
  refine r_sub (lv' := [(0, .ref ((a0 0) 0)), (1, .int x1), (2, .int x2), (3, .int x3)]) [0, 1, 2, 3] rfl ?_
  unfold mNextStall_commission at h
  refine r_aload_n 0 dX11_commission_0 rfl ?_
  refine r_iload_n 1 dX11_commission_1 rfl ?_
  obtain ⟨q1, h1, h⟩ := bd_some h
  refine b_callV (isC := [0, 1, 2, 3, 4, 5, 6, 7, 8, 9, 10, 11]) (ci := 9)  (st := []) (bs1 := ([bNextStallG K (a0 0) (fun j => some (f0_rules j 0)) f0_images ((a0 1) 0) ((a0 2) 0) ((a0 3) 0) ((a0 7) 0) ((a0 8) 0) g0, bTapeG K (a0 1) g1, bCursorG K (a0 2) g2, bWorldG K (a0 3) ((a0 4) 0) ((a0 5) 0) ((a0 6) 0) g3, bFairG K (a0 4) g4, bFairG K (a0 5) g5, bNotesG K (a0 6) g6, bPastG K (a0 7) f7_fairs g7, bTrialsG K (a0 8) ((a0 9) 0) ((a0 10) 0) ((a0 11) 0) g8, bFairG K (a0 9) g9, bOrderG K (a0 10) g10, bOrderG K (a0 11) g11] ++ (fam 6 (fun j => bRuleG K (f0_rules j) (p0_rules0 j)) ++ []))) (cNextStall_isStall (a0 := a0) (g0 := g0) (g1 := g1) (g2 := g2) (g3 := g3) (g4 := g4) (g5 := g5) (g6 := g6) (g7 := g7) (g8 := g8) (g9 := g9) (g10 := g10) (g11 := g11) h1) rfl rfl (Nat.le_of_ble_eq_true rfl) kNextStall_isStall (tb_in (i := 13) (j := 31) rfl rfl) (by decide) (by decide) rfl rfl rfl rfl rfl rfl rfl dX11_commission_2 ?_
  refine r_if_eq 27 dX11_commission_5 (by decide) (fun c2 => ?_) (fun c2 => ?_)
  · replace h := it_pos c2 h
    refine r_iconst (x := (-1 : Int32)) dX11_commission_27 (by decide) ?_
    have hq := Option.some.inj h
    subst hq
    exact r_iret rfl dX11_commission_28
  · replace h := it_neg c2 h
    refine r_iload_n 2 dX11_commission_8 rfl ?_
    refine r_iconst (x := (1 : Int32)) dX11_commission_9 (by decide) ?_
    refine r_bipush (x := (60 : Int32)) dX11_commission_10 (by decide) ?_
    obtain ⟨q3, h3, h⟩ := bd_some h
    refine b_callS (isC := []) (st := []) (bs1 := ([bNextStallG K (a0 0) (fun j => some (f0_rules j 0)) f0_images ((a0 1) 0) ((a0 2) 0) ((a0 3) 0) ((a0 7) 0) ((a0 8) 0) g0, bTapeG K (a0 1) g1, bCursorG K (a0 2) g2, bWorldG K (a0 3) ((a0 4) 0) ((a0 5) 0) ((a0 6) 0) g3, bFairG K (a0 4) g4, bFairG K (a0 5) g5, bNotesG K (a0 6) g6, bPastG K (a0 7) f7_fairs g7, bTrialsG K (a0 8) ((a0 9) 0) ((a0 10) 0) ((a0 11) 0) g8, bFairG K (a0 9) g9, bOrderG K (a0 10) g10, bOrderG K (a0 11) g11] ++ (fam 6 (fun j => bRuleG K (f0_rules j) (p0_rules0 j)) ++ []))) (cNextStall_within   h3) rfl rfl (Nat.le_of_ble_eq_true rfl) kNextStall_within (tb_in (i := 13) (j := 17) rfl rfl) (by decide) (by decide) rfl rfl rfl dX11_commission_12 ?_
    refine r_if_eq 27 dX11_commission_15 (by decide) (fun c4 => ?_) (fun c4 => ?_)
    · replace h := it_pos c4 h
      refine r_iconst (x := (-1 : Int32)) dX11_commission_27 (by decide) ?_
      have hq := Option.some.inj h
      subst hq
      exact r_iret rfl dX11_commission_28
    · replace h := it_neg c4 h
      refine r_iload_n 3 dX11_commission_18 rfl ?_
      refine r_iconst (x := (0 : Int32)) dX11_commission_19 (by decide) ?_
      refine r_iconst (x := (1 : Int32)) dX11_commission_20 (by decide) ?_
      obtain ⟨q5, h5, h⟩ := bd_some h
      refine b_callS (isC := []) (st := []) (bs1 := ([bNextStallG K (a0 0) (fun j => some (f0_rules j 0)) f0_images ((a0 1) 0) ((a0 2) 0) ((a0 3) 0) ((a0 7) 0) ((a0 8) 0) g0, bTapeG K (a0 1) g1, bCursorG K (a0 2) g2, bWorldG K (a0 3) ((a0 4) 0) ((a0 5) 0) ((a0 6) 0) g3, bFairG K (a0 4) g4, bFairG K (a0 5) g5, bNotesG K (a0 6) g6, bPastG K (a0 7) f7_fairs g7, bTrialsG K (a0 8) ((a0 9) 0) ((a0 10) 0) ((a0 11) 0) g8, bFairG K (a0 9) g9, bOrderG K (a0 10) g10, bOrderG K (a0 11) g11] ++ (fam 6 (fun j => bRuleG K (f0_rules j) (p0_rules0 j)) ++ []))) (cNextStall_within   h5) rfl rfl (Nat.le_of_ble_eq_true rfl) kNextStall_within (tb_in (i := 13) (j := 17) rfl rfl) (by decide) (by decide) rfl rfl rfl dX11_commission_21 ?_
      refine r_if_ne 29 dX11_commission_24 (by decide) (fun c6 => ?_) (fun c6 => ?_)
      · replace h := it_neg c6 h
        refine r_aload_n 0 dX11_commission_29 rfl ?_
        refine gNextStall_trials 0 rfl (tb_in (i := 13) (j := 4) rfl rfl) dX11_commission_30 ?_
        refine r_aload_n 0 dX11_commission_33 rfl ?_
        refine gNextStall_world 0 rfl (tb_in (i := 12) (j := 26) rfl rfl) dX11_commission_34 ?_
        refine gWorld_nowN 3 rfl (List.mem_of_getElem? (i := 55) rfl) dX11_commission_37 ?_
        refine r_aload_n 0 dX11_commission_40 rfl ?_
        obtain ⟨q7, h7, h⟩ := bd_some h
        refine b_callV (isC := ([0, 1, 2, 3, 4, 5, 6, 7, 8, 9, 10, 11] ++ (List.range' 12 6 ++ []))) (ci := 9)  (st := [.ref ((a0 5) 0), .ref ((a0 8) 0)]) (bs1 := ([bNextStallG K (a0 0) (fun j => some (f0_rules j 0)) f0_images ((a0 1) 0) ((a0 2) 0) ((a0 3) 0) ((a0 7) 0) ((a0 8) 0) g0, bTapeG K (a0 1) g1, bCursorG K (a0 2) g2, bWorldG K (a0 3) ((a0 4) 0) ((a0 5) 0) ((a0 6) 0) g3, bFairG K (a0 4) g4, bFairG K (a0 5) g5, bNotesG K (a0 6) g6, bPastG K (a0 7) f7_fairs g7, bTrialsG K (a0 8) ((a0 9) 0) ((a0 10) 0) ((a0 11) 0) g8, bFairG K (a0 9) g9, bOrderG K (a0 10) g10, bOrderG K (a0 11) g11] ++ (fam 6 (fun j => bRuleG K (f0_rules j) (p0_rules0 j)) ++ []))) (cNextStall_ruleInForce (a0 := a0) (f0_rules := f0_rules) (g0 := g0) (g1 := g1) (g2 := g2) (g3 := g3) (g4 := g4) (g5 := g5) (g6 := g6) (g7 := g7) (g8 := g8) (g9 := g9) (g10 := g10) (g11 := g11) (p0_rules0 := p0_rules0) h7) rfl rfl (Nat.le_of_ble_eq_true rfl) kNextStall_ruleInForce (tb_in (i := 14) (j := 11) rfl rfl) (by decide) (by decide +kernel) (map_app rfl (map_app (map_f0 (n := 6) (l := [bNextStallG K (a0 0) (fun j => some (f0_rules j 0)) f0_images ((a0 1) 0) ((a0 2) 0) ((a0 3) 0) ((a0 7) 0) ((a0 8) 0) g0, bTapeG K (a0 1) g1, bCursorG K (a0 2) g2, bWorldG K (a0 3) ((a0 4) 0) ((a0 5) 0) ((a0 6) 0) g3, bFairG K (a0 4) g4, bFairG K (a0 5) g5, bNotesG K (a0 6) g6, bPastG K (a0 7) f7_fairs g7, bTrialsG K (a0 8) ((a0 9) 0) ((a0 10) 0) ((a0 11) 0) g8, bFairG K (a0 9) g9, bOrderG K (a0 10) g10, bOrderG K (a0 11) g11]) rfl) rfl)) (by simp only [List.length_append, fam_len, List.length_range', List.length_cons, List.length_nil]) (stm_a (bs1 := ([bNextStallG K (a0 0) (fun j => some (f0_rules j 0)) f0_images ((a0 1) 0) ((a0 2) 0) ((a0 3) 0) ((a0 7) 0) ((a0 8) 0) g0, bTapeG K (a0 1) g1, bCursorG K (a0 2) g2, bWorldG K (a0 3) ((a0 4) 0) ((a0 5) 0) ((a0 6) 0) g3, bFairG K (a0 4) g4, bFairG K (a0 5) g5, bNotesG K (a0 6) g6, bPastG K (a0 7) f7_fairs g7, bTrialsG K (a0 8) ((a0 9) 0) ((a0 10) 0) ((a0 11) 0) g8, bFairG K (a0 9) g9, bOrderG K (a0 10) g10, bOrderG K (a0 11) g11] ++ (fam 6 (fun j => bRuleG K (f0_rules j) (p0_rules0 j)) ++ []))) rfl rfl (stm_a (bs1 := ([bNextStallG K (a0 0) (fun j => some (f0_rules j 0)) f0_images ((a0 1) 0) ((a0 2) 0) ((a0 3) 0) ((a0 7) 0) ((a0 8) 0) g0, bTapeG K (a0 1) g1, bCursorG K (a0 2) g2, bWorldG K (a0 3) ((a0 4) 0) ((a0 5) 0) ((a0 6) 0) g3, bFairG K (a0 4) g4, bFairG K (a0 5) g5, bNotesG K (a0 6) g6, bPastG K (a0 7) f7_fairs g7, bTrialsG K (a0 8) ((a0 9) 0) ((a0 10) 0) ((a0 11) 0) g8, bFairG K (a0 9) g9, bOrderG K (a0 10) g10, bOrderG K (a0 11) g11] ++ (fam 6 (fun j => bRuleG K (f0_rules j) (p0_rules0 j)) ++ []))) (by rw [List.length_range', fam_len]) (stm_f0 (n := 6) (l := [bNextStallG K (a0 0) (fun j => some (f0_rules j 0)) f0_images ((a0 1) 0) ((a0 2) 0) ((a0 3) 0) ((a0 7) 0) ((a0 8) 0) g0, bTapeG K (a0 1) g1, bCursorG K (a0 2) g2, bWorldG K (a0 3) ((a0 4) 0) ((a0 5) 0) ((a0 6) 0) g3, bFairG K (a0 4) g4, bFairG K (a0 5) g5, bNotesG K (a0 6) g6, bPastG K (a0 7) f7_fairs g7, bTrialsG K (a0 8) ((a0 9) 0) ((a0 10) 0) ((a0 11) 0) g8, bFairG K (a0 9) g9, bOrderG K (a0 10) g10, bOrderG K (a0 11) g11]) rfl) rfl)) rfl rfl rfl rfl dX11_commission_41 ?_
        cases q7 with
        | none =>
          replace h := mt_n h
          refine r_st (st' := [.null, .ref ((a0 5) 0), .ref ((a0 8) 0)]) rfl ?_
          refine r_iload_n 1 dX11_commission_44 rfl ?_
          refine r_iload_n 2 dX11_commission_45 rfl ?_
          obtain ⟨q8, h8, h⟩ := bd_some h
          refine b_callVN (isC := [8, 9, 10, 11, 5]) (ci := 7)  (st := []) (bs1 := ([bNextStallG K (a0 0) (fun j => some (f0_rules j 0)) f0_images ((a0 1) 0) ((a0 2) 0) ((a0 3) 0) ((a0 7) 0) ((a0 8) 0) g0, bTapeG K (a0 1) g1, bCursorG K (a0 2) g2, bWorldG K (a0 3) ((a0 4) 0) ((a0 5) 0) ((a0 6) 0) g3, bFairG K (a0 4) g4, bFairG K (a0 5) g5, bNotesG K (a0 6) g6, bPastG K (a0 7) f7_fairs g7, bTrialsG K (a0 8) ((a0 9) 0) ((a0 10) 0) ((a0 11) 0) q8.1, bFairG K (a0 9) q8.2, bOrderG K (a0 10) g10, bOrderG K (a0 11) g11] ++ (fam 6 (fun j => bRuleG K (f0_rules j) (p0_rules0 j)) ++ []))) (cTrials_findCommissionrn (a0 := fun b => a0 (8 + b)) (a1 := (a0 5)) (g0 := g8) (g1 := g9) (g2 := g10) (g3 := g11) (g4 := g5) h8) rfl rfl (Nat.le_of_ble_eq_true rfl) kTrials_findCommissionrn (List.mem_of_getElem? (i := 66) rfl) (by decide) (by decide) rfl rfl rfl rfl rfl rfl rfl dX11_commission_46 ?_
          refine r_aload_n 0 dX11_commission_49 rfl ?_
          refine gNextStall_trials 0 rfl (tb_in (i := 13) (j := 4) rfl rfl) dX11_commission_50 ?_
          refine gTrials_foundN 8 rfl (List.mem_of_getElem? (i := 63) rfl) dX11_commission_53 ?_
          refine r_iload_n 3 dX11_commission_56 rfl ?_
          obtain ⟨h9, h⟩ := rq_some h
          refine lTrials_found 8 rfl (inb_in h9) dX11_commission_57 ?_
          have hq := Option.some.inj h
          subst hq
          exact r_iret rfl dX11_commission_58
        | some j7 =>
          replace h := mt_s h
          obtain ⟨hg7, h⟩ := rq_some h
          have hj7 := of_decide_eq_true hg7
          refine r_st (st' := [.ref (f0_rules j7 0), .ref ((a0 5) 0), .ref ((a0 8) 0)]) rfl ?_
          refine r_iload_n 1 dX11_commission_44 rfl ?_
          refine r_iload_n 2 dX11_commission_45 rfl ?_
          obtain ⟨q10, h10, h⟩ := bd_some h
          refine b_callVN (isC := [8, 9, 10, 11, 5, 12 + j7]) (ci := 7)  (st := []) (bs1 := ([bNextStallG K (a0 0) (fun j => some (f0_rules j 0)) f0_images ((a0 1) 0) ((a0 2) 0) ((a0 3) 0) ((a0 7) 0) ((a0 8) 0) g0, bTapeG K (a0 1) g1, bCursorG K (a0 2) g2, bWorldG K (a0 3) ((a0 4) 0) ((a0 5) 0) ((a0 6) 0) g3, bFairG K (a0 4) g4, bFairG K (a0 5) g5, bNotesG K (a0 6) g6, bPastG K (a0 7) f7_fairs g7, bTrialsG K (a0 8) ((a0 9) 0) ((a0 10) 0) ((a0 11) 0) q10.1, bFairG K (a0 9) q10.2.1, bOrderG K (a0 10) g10, bOrderG K (a0 11) g11] ++ (fam 6 (fun j => bRuleG K (f0_rules j) ((va_up p0_rules0 j7 q10.2.2) j)) ++ []))) (cTrials_findCommissionrr (a0 := fun b => a0 (8 + b)) (a1 := (a0 5)) (a2 := f0_rules j7) (g0 := g8) (g1 := g9) (g2 := g10) (g3 := g11) (g4 := g5) (g5 := (p0_rules0 j7)) h10) rfl rfl (Nat.le_of_ble_eq_true rfl) kTrials_findCommissionrr (List.mem_of_getElem? (i := 66) rfl) (by decide) (by simp only [List.nodup_cons, List.mem_cons, List.not_mem_nil, or_false, not_or, List.nodup_nil, not_false_eq_true, and_true]; omega) (map_s (rfl) (map_s (rfl) (map_s (rfl) (map_s (rfl) (map_s (rfl) (map_s (fq0 (B := fun j g => bRuleG K (f0_rules j) g) (l := [bNextStallG K (a0 0) (fun j => some (f0_rules j 0)) f0_images ((a0 1) 0) ((a0 2) 0) ((a0 3) 0) ((a0 7) 0) ((a0 8) 0) g0, bTapeG K (a0 1) g1, bCursorG K (a0 2) g2, bWorldG K (a0 3) ((a0 4) 0) ((a0 5) 0) ((a0 6) 0) g3, bFairG K (a0 4) g4, bFairG K (a0 5) g5, bNotesG K (a0 6) g6, bPastG K (a0 7) f7_fairs g7, bTrialsG K (a0 8) ((a0 9) 0) ((a0 10) 0) ((a0 11) 0) g8, bFairG K (a0 9) g9, bOrderG K (a0 10) g10, bOrderG K (a0 11) g11]) rfl hj7) map_n)))))) rfl (stm_s (bs1 := ([bNextStallG K (a0 0) (fun j => some (f0_rules j 0)) f0_images ((a0 1) 0) ((a0 2) 0) ((a0 3) 0) ((a0 7) 0) ((a0 8) 0) g0, bTapeG K (a0 1) g1, bCursorG K (a0 2) g2, bWorldG K (a0 3) ((a0 4) 0) ((a0 5) 0) ((a0 6) 0) g3, bFairG K (a0 4) g4, bFairG K (a0 5) g5, bNotesG K (a0 6) g6, bPastG K (a0 7) f7_fairs g7, bTrialsG K (a0 8) ((a0 9) 0) ((a0 10) 0) ((a0 11) 0) q10.1, bFairG K (a0 9) g9, bOrderG K (a0 10) g10, bOrderG K (a0 11) g11] ++ (fam 6 (fun j => bRuleG K (f0_rules j) (p0_rules0 j)) ++ []))) (rfl) (stm_s (bs1 := ([bNextStallG K (a0 0) (fun j => some (f0_rules j 0)) f0_images ((a0 1) 0) ((a0 2) 0) ((a0 3) 0) ((a0 7) 0) ((a0 8) 0) g0, bTapeG K (a0 1) g1, bCursorG K (a0 2) g2, bWorldG K (a0 3) ((a0 4) 0) ((a0 5) 0) ((a0 6) 0) g3, bFairG K (a0 4) g4, bFairG K (a0 5) g5, bNotesG K (a0 6) g6, bPastG K (a0 7) f7_fairs g7, bTrialsG K (a0 8) ((a0 9) 0) ((a0 10) 0) ((a0 11) 0) q10.1, bFairG K (a0 9) q10.2.1, bOrderG K (a0 10) g10, bOrderG K (a0 11) g11] ++ (fam 6 (fun j => bRuleG K (f0_rules j) (p0_rules0 j)) ++ []))) (rfl) (stm_s (bs1 := ([bNextStallG K (a0 0) (fun j => some (f0_rules j 0)) f0_images ((a0 1) 0) ((a0 2) 0) ((a0 3) 0) ((a0 7) 0) ((a0 8) 0) g0, bTapeG K (a0 1) g1, bCursorG K (a0 2) g2, bWorldG K (a0 3) ((a0 4) 0) ((a0 5) 0) ((a0 6) 0) g3, bFairG K (a0 4) g4, bFairG K (a0 5) g5, bNotesG K (a0 6) g6, bPastG K (a0 7) f7_fairs g7, bTrialsG K (a0 8) ((a0 9) 0) ((a0 10) 0) ((a0 11) 0) q10.1, bFairG K (a0 9) q10.2.1, bOrderG K (a0 10) g10, bOrderG K (a0 11) g11] ++ (fam 6 (fun j => bRuleG K (f0_rules j) (p0_rules0 j)) ++ []))) (rfl) (stm_s (bs1 := ([bNextStallG K (a0 0) (fun j => some (f0_rules j 0)) f0_images ((a0 1) 0) ((a0 2) 0) ((a0 3) 0) ((a0 7) 0) ((a0 8) 0) g0, bTapeG K (a0 1) g1, bCursorG K (a0 2) g2, bWorldG K (a0 3) ((a0 4) 0) ((a0 5) 0) ((a0 6) 0) g3, bFairG K (a0 4) g4, bFairG K (a0 5) g5, bNotesG K (a0 6) g6, bPastG K (a0 7) f7_fairs g7, bTrialsG K (a0 8) ((a0 9) 0) ((a0 10) 0) ((a0 11) 0) q10.1, bFairG K (a0 9) q10.2.1, bOrderG K (a0 10) g10, bOrderG K (a0 11) g11] ++ (fam 6 (fun j => bRuleG K (f0_rules j) (p0_rules0 j)) ++ []))) (rfl) (stm_s (bs1 := ([bNextStallG K (a0 0) (fun j => some (f0_rules j 0)) f0_images ((a0 1) 0) ((a0 2) 0) ((a0 3) 0) ((a0 7) 0) ((a0 8) 0) g0, bTapeG K (a0 1) g1, bCursorG K (a0 2) g2, bWorldG K (a0 3) ((a0 4) 0) ((a0 5) 0) ((a0 6) 0) g3, bFairG K (a0 4) g4, bFairG K (a0 5) g5, bNotesG K (a0 6) g6, bPastG K (a0 7) f7_fairs g7, bTrialsG K (a0 8) ((a0 9) 0) ((a0 10) 0) ((a0 11) 0) q10.1, bFairG K (a0 9) q10.2.1, bOrderG K (a0 10) g10, bOrderG K (a0 11) g11] ++ (fam 6 (fun j => bRuleG K (f0_rules j) (p0_rules0 j)) ++ []))) (rfl) (stm_s (bs1 := ([bNextStallG K (a0 0) (fun j => some (f0_rules j 0)) f0_images ((a0 1) 0) ((a0 2) 0) ((a0 3) 0) ((a0 7) 0) ((a0 8) 0) g0, bTapeG K (a0 1) g1, bCursorG K (a0 2) g2, bWorldG K (a0 3) ((a0 4) 0) ((a0 5) 0) ((a0 6) 0) g3, bFairG K (a0 4) g4, bFairG K (a0 5) g5, bNotesG K (a0 6) g6, bPastG K (a0 7) f7_fairs g7, bTrialsG K (a0 8) ((a0 9) 0) ((a0 10) 0) ((a0 11) 0) q10.1, bFairG K (a0 9) q10.2.1, bOrderG K (a0 10) g10, bOrderG K (a0 11) g11] ++ (fam 6 (fun j => bRuleG K (f0_rules j) ((va_up p0_rules0 j7 q10.2.2) j)) ++ []))) (fs0 (B := fun j g => bRuleG K (f0_rules j) g) (g := q10.2.2) (l := [bNextStallG K (a0 0) (fun j => some (f0_rules j 0)) f0_images ((a0 1) 0) ((a0 2) 0) ((a0 3) 0) ((a0 7) 0) ((a0 8) 0) g0, bTapeG K (a0 1) g1, bCursorG K (a0 2) g2, bWorldG K (a0 3) ((a0 4) 0) ((a0 5) 0) ((a0 6) 0) g3, bFairG K (a0 4) g4, bFairG K (a0 5) g5, bNotesG K (a0 6) g6, bPastG K (a0 7) f7_fairs g7, bTrialsG K (a0 8) ((a0 9) 0) ((a0 10) 0) ((a0 11) 0) q10.1, bFairG K (a0 9) q10.2.1, bOrderG K (a0 10) g10, bOrderG K (a0 11) g11]) rfl hj7) stm_n)))))) rfl rfl rfl rfl dX11_commission_46 ?_
          refine r_aload_n 0 dX11_commission_49 rfl ?_
          refine gNextStall_trials 0 rfl (tb_in (i := 13) (j := 4) rfl rfl) dX11_commission_50 ?_
          refine gTrials_foundN 8 rfl (List.mem_of_getElem? (i := 63) rfl) dX11_commission_53 ?_
          refine r_iload_n 3 dX11_commission_56 rfl ?_
          obtain ⟨h11, h⟩ := rq_some h
          refine lTrials_found 8 rfl (inb_in h11) dX11_commission_57 ?_
          have hq := Option.some.inj h
          subst hq
          exact r_iret rfl dX11_commission_58
      · replace h := it_pos c6 h
        refine r_iconst (x := (-1 : Int32)) dX11_commission_27 (by decide) ?_
        have hq := Option.some.inj h
        subst hq
        exact r_iret rfl dX11_commission_28
end
theorem dX11_makeUp_0 : decode cX11_makeUp 0 = .ok (.aload_n 0, 1) := by decide +kernel
theorem dX11_makeUp_1 : decode cX11_makeUp 1 = .ok (.getfield 36, 3) := by decide +kernel
theorem dX11_makeUp_4 : decode cX11_makeUp 4 = .ok (.getfield 166, 3) := by decide +kernel
theorem dX11_makeUp_7 : decode cX11_makeUp 7 = .ok (.ifCond .eq 22, 3) := by decide +kernel
theorem dX11_makeUp_10 : decode cX11_makeUp 10 = .ok (.iload_n 1, 1) := by decide +kernel
theorem dX11_makeUp_11 : decode cX11_makeUp 11 = .ok (.iconst 1, 1) := by decide +kernel
theorem dX11_makeUp_12 : decode cX11_makeUp 12 = .ok (.bipush 40, 2) := by decide +kernel
theorem dX11_makeUp_14 : decode cX11_makeUp 14 = .ok (.invokestatic 70, 3) := by decide +kernel
theorem dX11_makeUp_17 : decode cX11_makeUp 17 = .ok (.ifCond .eq 12, 3) := by decide +kernel
theorem dX11_makeUp_20 : decode cX11_makeUp 20 = .ok (.iload_n 2, 1) := by decide +kernel
theorem dX11_makeUp_21 : decode cX11_makeUp 21 = .ok (.iconst 0, 1) := by decide +kernel
theorem dX11_makeUp_22 : decode cX11_makeUp 22 = .ok (.iconst 2, 1) := by decide +kernel
theorem dX11_makeUp_23 : decode cX11_makeUp 23 = .ok (.invokestatic 70, 3) := by decide +kernel
theorem dX11_makeUp_26 : decode cX11_makeUp 26 = .ok (.ifCond .ne 5, 3) := by decide +kernel
theorem dX11_makeUp_29 : decode cX11_makeUp 29 = .ok (.iconst (-1), 1) := by decide +kernel
theorem dX11_makeUp_30 : decode cX11_makeUp 30 = .ok (.ireturn, 1) := by decide +kernel
theorem dX11_makeUp_31 : decode cX11_makeUp 31 = .ok (.aload_n 0, 1) := by decide +kernel
theorem dX11_makeUp_32 : decode cX11_makeUp 32 = .ok (.getfield 58, 3) := by decide +kernel
theorem dX11_makeUp_35 : decode cX11_makeUp 35 = .ok (.aload_n 0, 1) := by decide +kernel
theorem dX11_makeUp_36 : decode cX11_makeUp 36 = .ok (.getfield 36, 3) := by decide +kernel
theorem dX11_makeUp_39 : decode cX11_makeUp 39 = .ok (.getfield 119, 3) := by decide +kernel
theorem dX11_makeUp_42 : decode cX11_makeUp 42 = .ok (.aload_n 0, 1) := by decide +kernel
theorem dX11_makeUp_43 : decode cX11_makeUp 43 = .ok (.invokevirtual 176, 3) := by decide +kernel
theorem dX11_makeUp_46 : decode cX11_makeUp 46 = .ok (.iload_n 1, 1) := by decide +kernel
theorem dX11_makeUp_47 : decode cX11_makeUp 47 = .ok (.invokevirtual 240, 3) := by decide +kernel
theorem dX11_makeUp_50 : decode cX11_makeUp 50 = .ok (.aload_n 0, 1) := by decide +kernel
theorem dX11_makeUp_51 : decode cX11_makeUp 51 = .ok (.getfield 58, 3) := by decide +kernel
theorem dX11_makeUp_54 : decode cX11_makeUp 54 = .ok (.getfield 230, 3) := by decide +kernel
theorem dX11_makeUp_57 : decode cX11_makeUp 57 = .ok (.iload_n 2, 1) := by decide +kernel
theorem dX11_makeUp_58 : decode cX11_makeUp 58 = .ok (.iaload, 1) := by decide +kernel
theorem dX11_makeUp_59 : decode cX11_makeUp 59 = .ok (.ireturn, 1) := by decide +kernel
abbrev MNextStall_makeUp : rx_M := (RX11, yX11_makeUp, cX11_makeUp, 3, (some .int), 7)
theorem kNextStall_makeUp : rKv MNextStall_makeUp 2 := ⟨tb_in (i := 34) (j := 21) rfl rfl, tb_in (i := 34) (j := 22) rfl rfl, tb_in (i := 2) (j := 22) rfl rfl, tb_in (i := 15) (j := 20) rfl rfl, ⟨by decide, by decide, by decide +kernel⟩, by decide⟩
section
variable {a0 : Nat → Nat → Nat} {g0 : tyNextStall} {g1 : tyTape} {g2 : tyCursor} {g3 : tyWorld} {g4 : tyFair} {g5 : tyFair} {g6 : tyNotes} {g7 : tyPast} {g8 : tyTrials} {g9 : tyFair} {g10 : tyOrder} {g11 : tyOrder} {f0_rules : Nat → Nat → Nat} {f0_images : Nat → Option Nat} {f7_fairs : Nat → Option Nat} {p0_rules0 : Nat → tyRule}
def mNextStall_makeUp (x1 : Int32) (x2 : Int32) (g0 : tyNextStall) (g3 : tyWorld) (g5 : tyFair) (g8 : tyTrials) (g9 : tyFair) (p0_rules0 : Nat → tyRule) : Option (Int32 × tyTrials × tyFair × (Nat → tyRule)) := (if g3.1 = 0 then some ((-1 : Int32), g8, g9, p0_rules0) else (mNextStall_within x1 (1 : Int32) (40 : Int32)).bind (fun q2 => (if q2 = 0 then some ((-1 : Int32), g8, g9, p0_rules0) else (mNextStall_within x2 (0 : Int32) (2 : Int32)).bind (fun q4 => (if q4 = 0 then some ((-1 : Int32), g8, g9, p0_rules0) else (mNextStall_ruleInForce g0 g3).bind (fun q6 => mt q6 ((mTrials_findMakeUprn x1 g8 g9 g5).bind (fun q7 => rq (inb x2 3) (some ((q7.1.1 x2.toNatClampNeg), q7.1, q7.2, p0_rules0)))) (fun j6 => rq (decide (j6 < 6)) ((mTrials_findMakeUprr x1 g8 g9 g5 (p0_rules0 j6)).bind (fun q9 => rq (inb x2 3) (some ((q9.1.1 x2.toNatClampNeg), q9.1, q9.2.1, (va_up p0_rules0 j6 q9.2.2))))))))))))
set_option maxHeartbeats 4000000 in
set_option maxRecDepth 20000 in
theorem cNextStall_makeUp {q : Int32 × tyTrials × tyFair × (Nat → tyRule)} {x1 : Int32} {x2 : Int32} (h : mNextStall_makeUp x1 x2 g0 g3 g5 g8 g9 p0_rules0 = some q) : rMet l D Z (ty7 K) MNextStall_makeUp [.ref ((a0 0) 0), .int x1, .int x2] (List.flatten ([bNextStallG K (a0 0) (fun j => some (f0_rules j 0)) f0_images ((a0 1) 0) ((a0 2) 0) ((a0 3) 0) ((a0 7) 0) ((a0 8) 0) g0, bTapeG K (a0 1) g1, bCursorG K (a0 2) g2, bWorldG K (a0 3) ((a0 4) 0) ((a0 5) 0) ((a0 6) 0) g3, bFairG K (a0 4) g4, bFairG K (a0 5) g5, bNotesG K (a0 6) g6, bPastG K (a0 7) f7_fairs g7, bTrialsG K (a0 8) ((a0 9) 0) ((a0 10) 0) ((a0 11) 0) g8, bFairG K (a0 9) g9, bOrderG K (a0 10) g10, bOrderG K (a0 11) g11] ++ (fam 6 (fun j => bRuleG K (f0_rules j) (p0_rules0 j)) ++ []))) (List.flatten ([bNextStallG K (a0 0) (fun j => some (f0_rules j 0)) f0_images ((a0 1) 0) ((a0 2) 0) ((a0 3) 0) ((a0 7) 0) ((a0 8) 0) g0, bTapeG K (a0 1) g1, bCursorG K (a0 2) g2, bWorldG K (a0 3) ((a0 4) 0) ((a0 5) 0) ((a0 6) 0) g3, bFairG K (a0 4) g4, bFairG K (a0 5) g5, bNotesG K (a0 6) g6, bPastG K (a0 7) f7_fairs g7, bTrialsG K (a0 8) ((a0 9) 0) ((a0 10) 0) ((a0 11) 0) q.2.1, bFairG K (a0 9) q.2.2.1, bOrderG K (a0 10) g10, bOrderG K (a0 11) g11] ++ (fam 6 (fun j => bRuleG K (f0_rules j) (q.2.2.2 j)) ++ []))) (some (.int q.1)) := by
  refine rMet.of (by decide) rfl (Nat.le_of_ble_eq_true rfl) ?_
  refine r_sub (lv' := [(0, .ref ((a0 0) 0)), (1, .int x1), (2, .int x2)]) [0, 1, 2] rfl ?_
  unfold mNextStall_makeUp at h
  refine r_aload_n 0 dX11_makeUp_0 rfl ?_
  refine gNextStall_world 0 rfl (tb_in (i := 12) (j := 26) rfl rfl) dX11_makeUp_1 ?_
  refine gWorld_openN 3 rfl (List.mem_of_getElem? (i := 50) rfl) dX11_makeUp_4 ?_
  refine r_if_eq 29 dX11_makeUp_7 (by decide) (fun c1 => ?_) (fun c1 => ?_)
  · replace h := it_pos c1 h
    refine r_iconst (x := (-1 : Int32)) dX11_makeUp_29 (by decide) ?_
    have hq := Option.some.inj h
    subst hq
    exact r_iret rfl dX11_makeUp_30
  · replace h := it_neg c1 h
    refine r_iload_n 1 dX11_makeUp_10 rfl ?_
    refine r_iconst (x := (1 : Int32)) dX11_makeUp_11 (by decide) ?_
    refine r_bipush (x := (40 : Int32)) dX11_makeUp_12 (by decide) ?_
    obtain ⟨q2, h2, h⟩ := bd_some h
    refine b_callS (isC := []) (st := []) (bs1 := ([bNextStallG K (a0 0) (fun j => some (f0_rules j 0)) f0_images ((a0 1) 0) ((a0 2) 0) ((a0 3) 0) ((a0 7) 0) ((a0 8) 0) g0, bTapeG K (a0 1) g1, bCursorG K (a0 2) g2, bWorldG K (a0 3) ((a0 4) 0) ((a0 5) 0) ((a0 6) 0) g3, bFairG K (a0 4) g4, bFairG K (a0 5) g5, bNotesG K (a0 6) g6, bPastG K (a0 7) f7_fairs g7, bTrialsG K (a0 8) ((a0 9) 0) ((a0 10) 0) ((a0 11) 0) g8, bFairG K (a0 9) g9, bOrderG K (a0 10) g10, bOrderG K (a0 11) g11] ++ (fam 6 (fun j => bRuleG K (f0_rules j) (p0_rules0 j)) ++ []))) (cNextStall_within   h2) rfl rfl (Nat.le_of_ble_eq_true rfl) kNextStall_within (tb_in (i := 13) (j := 17) rfl rfl) (by decide) (by decide) rfl rfl rfl dX11_makeUp_14 ?_
    refine r_if_eq 29 dX11_makeUp_17 (by decide) (fun c3 => ?_) (fun c3 => ?_)
    · replace h := it_pos c3 h
      refine r_iconst (x := (-1 : Int32)) dX11_makeUp_29 (by decide) ?_
      have hq := Option.some.inj h
      subst hq
      exact r_iret rfl dX11_makeUp_30
    · replace h := it_neg c3 h
      refine r_iload_n 2 dX11_makeUp_20 rfl ?_
      refine r_iconst (x := (0 : Int32)) dX11_makeUp_21 (by decide) ?_
      refine r_iconst (x := (2 : Int32)) dX11_makeUp_22 (by decide) ?_
      obtain ⟨q4, h4, h⟩ := bd_some h
      refine b_callS (isC := []) (st := []) (bs1 := ([bNextStallG K (a0 0) (fun j => some (f0_rules j 0)) f0_images ((a0 1) 0) ((a0 2) 0) ((a0 3) 0) ((a0 7) 0) ((a0 8) 0) g0, bTapeG K (a0 1) g1, bCursorG K (a0 2) g2, bWorldG K (a0 3) ((a0 4) 0) ((a0 5) 0) ((a0 6) 0) g3, bFairG K (a0 4) g4, bFairG K (a0 5) g5, bNotesG K (a0 6) g6, bPastG K (a0 7) f7_fairs g7, bTrialsG K (a0 8) ((a0 9) 0) ((a0 10) 0) ((a0 11) 0) g8, bFairG K (a0 9) g9, bOrderG K (a0 10) g10, bOrderG K (a0 11) g11] ++ (fam 6 (fun j => bRuleG K (f0_rules j) (p0_rules0 j)) ++ []))) (cNextStall_within   h4) rfl rfl (Nat.le_of_ble_eq_true rfl) kNextStall_within (tb_in (i := 13) (j := 17) rfl rfl) (by decide) (by decide) rfl rfl rfl dX11_makeUp_23 ?_
      refine r_if_ne 31 dX11_makeUp_26 (by decide) (fun c5 => ?_) (fun c5 => ?_)
      · replace h := it_neg c5 h
        refine r_aload_n 0 dX11_makeUp_31 rfl ?_
        refine gNextStall_trials 0 rfl (tb_in (i := 13) (j := 4) rfl rfl) dX11_makeUp_32 ?_
        refine r_aload_n 0 dX11_makeUp_35 rfl ?_
        refine gNextStall_world 0 rfl (tb_in (i := 12) (j := 26) rfl rfl) dX11_makeUp_36 ?_
        refine gWorld_nowN 3 rfl (List.mem_of_getElem? (i := 55) rfl) dX11_makeUp_39 ?_
        refine r_aload_n 0 dX11_makeUp_42 rfl ?_
        obtain ⟨q6, h6, h⟩ := bd_some h
        refine b_callV (isC := ([0, 1, 2, 3, 4, 5, 6, 7, 8, 9, 10, 11] ++ (List.range' 12 6 ++ []))) (ci := 9)  (st := [.ref ((a0 5) 0), .ref ((a0 8) 0)]) (bs1 := ([bNextStallG K (a0 0) (fun j => some (f0_rules j 0)) f0_images ((a0 1) 0) ((a0 2) 0) ((a0 3) 0) ((a0 7) 0) ((a0 8) 0) g0, bTapeG K (a0 1) g1, bCursorG K (a0 2) g2, bWorldG K (a0 3) ((a0 4) 0) ((a0 5) 0) ((a0 6) 0) g3, bFairG K (a0 4) g4, bFairG K (a0 5) g5, bNotesG K (a0 6) g6, bPastG K (a0 7) f7_fairs g7, bTrialsG K (a0 8) ((a0 9) 0) ((a0 10) 0) ((a0 11) 0) g8, bFairG K (a0 9) g9, bOrderG K (a0 10) g10, bOrderG K (a0 11) g11] ++ (fam 6 (fun j => bRuleG K (f0_rules j) (p0_rules0 j)) ++ []))) (cNextStall_ruleInForce (a0 := a0) (f0_rules := f0_rules) (g0 := g0) (g1 := g1) (g2 := g2) (g3 := g3) (g4 := g4) (g5 := g5) (g6 := g6) (g7 := g7) (g8 := g8) (g9 := g9) (g10 := g10) (g11 := g11) (p0_rules0 := p0_rules0) h6) rfl rfl (Nat.le_of_ble_eq_true rfl) kNextStall_ruleInForce (tb_in (i := 14) (j := 11) rfl rfl) (by decide) (by decide +kernel) (map_app rfl (map_app (map_f0 (n := 6) (l := [bNextStallG K (a0 0) (fun j => some (f0_rules j 0)) f0_images ((a0 1) 0) ((a0 2) 0) ((a0 3) 0) ((a0 7) 0) ((a0 8) 0) g0, bTapeG K (a0 1) g1, bCursorG K (a0 2) g2, bWorldG K (a0 3) ((a0 4) 0) ((a0 5) 0) ((a0 6) 0) g3, bFairG K (a0 4) g4, bFairG K (a0 5) g5, bNotesG K (a0 6) g6, bPastG K (a0 7) f7_fairs g7, bTrialsG K (a0 8) ((a0 9) 0) ((a0 10) 0) ((a0 11) 0) g8, bFairG K (a0 9) g9, bOrderG K (a0 10) g10, bOrderG K (a0 11) g11]) rfl) rfl)) (by simp only [List.length_append, fam_len, List.length_range', List.length_cons, List.length_nil]) (stm_a (bs1 := ([bNextStallG K (a0 0) (fun j => some (f0_rules j 0)) f0_images ((a0 1) 0) ((a0 2) 0) ((a0 3) 0) ((a0 7) 0) ((a0 8) 0) g0, bTapeG K (a0 1) g1, bCursorG K (a0 2) g2, bWorldG K (a0 3) ((a0 4) 0) ((a0 5) 0) ((a0 6) 0) g3, bFairG K (a0 4) g4, bFairG K (a0 5) g5, bNotesG K (a0 6) g6, bPastG K (a0 7) f7_fairs g7, bTrialsG K (a0 8) ((a0 9) 0) ((a0 10) 0) ((a0 11) 0) g8, bFairG K (a0 9) g9, bOrderG K (a0 10) g10, bOrderG K (a0 11) g11] ++ (fam 6 (fun j => bRuleG K (f0_rules j) (p0_rules0 j)) ++ []))) rfl rfl (stm_a (bs1 := ([bNextStallG K (a0 0) (fun j => some (f0_rules j 0)) f0_images ((a0 1) 0) ((a0 2) 0) ((a0 3) 0) ((a0 7) 0) ((a0 8) 0) g0, bTapeG K (a0 1) g1, bCursorG K (a0 2) g2, bWorldG K (a0 3) ((a0 4) 0) ((a0 5) 0) ((a0 6) 0) g3, bFairG K (a0 4) g4, bFairG K (a0 5) g5, bNotesG K (a0 6) g6, bPastG K (a0 7) f7_fairs g7, bTrialsG K (a0 8) ((a0 9) 0) ((a0 10) 0) ((a0 11) 0) g8, bFairG K (a0 9) g9, bOrderG K (a0 10) g10, bOrderG K (a0 11) g11] ++ (fam 6 (fun j => bRuleG K (f0_rules j) (p0_rules0 j)) ++ []))) (by rw [List.length_range', fam_len]) (stm_f0 (n := 6) (l := [bNextStallG K (a0 0) (fun j => some (f0_rules j 0)) f0_images ((a0 1) 0) ((a0 2) 0) ((a0 3) 0) ((a0 7) 0) ((a0 8) 0) g0, bTapeG K (a0 1) g1, bCursorG K (a0 2) g2, bWorldG K (a0 3) ((a0 4) 0) ((a0 5) 0) ((a0 6) 0) g3, bFairG K (a0 4) g4, bFairG K (a0 5) g5, bNotesG K (a0 6) g6, bPastG K (a0 7) f7_fairs g7, bTrialsG K (a0 8) ((a0 9) 0) ((a0 10) 0) ((a0 11) 0) g8, bFairG K (a0 9) g9, bOrderG K (a0 10) g10, bOrderG K (a0 11) g11]) rfl) rfl)) rfl rfl rfl rfl dX11_makeUp_43 ?_
        cases q6 with
        | none =>
          replace h := mt_n h
          refine r_st (st' := [.null, .ref ((a0 5) 0), .ref ((a0 8) 0)]) rfl ?_
          refine r_iload_n 1 dX11_makeUp_46 rfl ?_
          obtain ⟨q7, h7, h⟩ := bd_some h
          refine b_callVN (isC := [8, 9, 10, 11, 5]) (ci := 7)  (st := []) (bs1 := ([bNextStallG K (a0 0) (fun j => some (f0_rules j 0)) f0_images ((a0 1) 0) ((a0 2) 0) ((a0 3) 0) ((a0 7) 0) ((a0 8) 0) g0, bTapeG K (a0 1) g1, bCursorG K (a0 2) g2, bWorldG K (a0 3) ((a0 4) 0) ((a0 5) 0) ((a0 6) 0) g3, bFairG K (a0 4) g4, bFairG K (a0 5) g5, bNotesG K (a0 6) g6, bPastG K (a0 7) f7_fairs g7, bTrialsG K (a0 8) ((a0 9) 0) ((a0 10) 0) ((a0 11) 0) q7.1, bFairG K (a0 9) q7.2, bOrderG K (a0 10) g10, bOrderG K (a0 11) g11] ++ (fam 6 (fun j => bRuleG K (f0_rules j) (p0_rules0 j)) ++ []))) (cTrials_findMakeUprn (a0 := fun b => a0 (8 + b)) (a1 := (a0 5)) (g0 := g8) (g1 := g9) (g2 := g10) (g3 := g11) (g4 := g5) h7) rfl rfl (Nat.le_of_ble_eq_true rfl) kTrials_findMakeUprn (List.mem_of_getElem? (i := 67) rfl) (by decide) (by decide) rfl rfl rfl rfl rfl rfl rfl dX11_makeUp_47 ?_
          refine r_aload_n 0 dX11_makeUp_50 rfl ?_
          refine gNextStall_trials 0 rfl (tb_in (i := 13) (j := 4) rfl rfl) dX11_makeUp_51 ?_
          refine gTrials_foundN 8 rfl (List.mem_of_getElem? (i := 63) rfl) dX11_makeUp_54 ?_
          refine r_iload_n 2 dX11_makeUp_57 rfl ?_
          obtain ⟨h8, h⟩ := rq_some h
          refine lTrials_found 8 rfl (inb_in h8) dX11_makeUp_58 ?_
          have hq := Option.some.inj h
          subst hq
          exact r_iret rfl dX11_makeUp_59
        | some j6 =>
          replace h := mt_s h
          obtain ⟨hg6, h⟩ := rq_some h
          have hj6 := of_decide_eq_true hg6
          refine r_st (st' := [.ref (f0_rules j6 0), .ref ((a0 5) 0), .ref ((a0 8) 0)]) rfl ?_
          refine r_iload_n 1 dX11_makeUp_46 rfl ?_
          obtain ⟨q9, h9, h⟩ := bd_some h
          refine b_callVN (isC := [8, 9, 10, 11, 5, 12 + j6]) (ci := 7)  (st := []) (bs1 := ([bNextStallG K (a0 0) (fun j => some (f0_rules j 0)) f0_images ((a0 1) 0) ((a0 2) 0) ((a0 3) 0) ((a0 7) 0) ((a0 8) 0) g0, bTapeG K (a0 1) g1, bCursorG K (a0 2) g2, bWorldG K (a0 3) ((a0 4) 0) ((a0 5) 0) ((a0 6) 0) g3, bFairG K (a0 4) g4, bFairG K (a0 5) g5, bNotesG K (a0 6) g6, bPastG K (a0 7) f7_fairs g7, bTrialsG K (a0 8) ((a0 9) 0) ((a0 10) 0) ((a0 11) 0) q9.1, bFairG K (a0 9) q9.2.1, bOrderG K (a0 10) g10, bOrderG K (a0 11) g11] ++ (fam 6 (fun j => bRuleG K (f0_rules j) ((va_up p0_rules0 j6 q9.2.2) j)) ++ []))) (cTrials_findMakeUprr (a0 := fun b => a0 (8 + b)) (a1 := (a0 5)) (a2 := f0_rules j6) (g0 := g8) (g1 := g9) (g2 := g10) (g3 := g11) (g4 := g5) (g5 := (p0_rules0 j6)) h9) rfl rfl (Nat.le_of_ble_eq_true rfl) kTrials_findMakeUprr (List.mem_of_getElem? (i := 67) rfl) (by decide) (by simp only [List.nodup_cons, List.mem_cons, List.not_mem_nil, or_false, not_or, List.nodup_nil, not_false_eq_true, and_true]; omega) (map_s (rfl) (map_s (rfl) (map_s (rfl) (map_s (rfl) (map_s (rfl) (map_s (fq0 (B := fun j g => bRuleG K (f0_rules j) g) (l := [bNextStallG K (a0 0) (fun j => some (f0_rules j 0)) f0_images ((a0 1) 0) ((a0 2) 0) ((a0 3) 0) ((a0 7) 0) ((a0 8) 0) g0, bTapeG K (a0 1) g1, bCursorG K (a0 2) g2, bWorldG K (a0 3) ((a0 4) 0) ((a0 5) 0) ((a0 6) 0) g3, bFairG K (a0 4) g4, bFairG K (a0 5) g5, bNotesG K (a0 6) g6, bPastG K (a0 7) f7_fairs g7, bTrialsG K (a0 8) ((a0 9) 0) ((a0 10) 0) ((a0 11) 0) g8, bFairG K (a0 9) g9, bOrderG K (a0 10) g10, bOrderG K (a0 11) g11]) rfl hj6) map_n)))))) rfl (stm_s (bs1 := ([bNextStallG K (a0 0) (fun j => some (f0_rules j 0)) f0_images ((a0 1) 0) ((a0 2) 0) ((a0 3) 0) ((a0 7) 0) ((a0 8) 0) g0, bTapeG K (a0 1) g1, bCursorG K (a0 2) g2, bWorldG K (a0 3) ((a0 4) 0) ((a0 5) 0) ((a0 6) 0) g3, bFairG K (a0 4) g4, bFairG K (a0 5) g5, bNotesG K (a0 6) g6, bPastG K (a0 7) f7_fairs g7, bTrialsG K (a0 8) ((a0 9) 0) ((a0 10) 0) ((a0 11) 0) q9.1, bFairG K (a0 9) g9, bOrderG K (a0 10) g10, bOrderG K (a0 11) g11] ++ (fam 6 (fun j => bRuleG K (f0_rules j) (p0_rules0 j)) ++ []))) (rfl) (stm_s (bs1 := ([bNextStallG K (a0 0) (fun j => some (f0_rules j 0)) f0_images ((a0 1) 0) ((a0 2) 0) ((a0 3) 0) ((a0 7) 0) ((a0 8) 0) g0, bTapeG K (a0 1) g1, bCursorG K (a0 2) g2, bWorldG K (a0 3) ((a0 4) 0) ((a0 5) 0) ((a0 6) 0) g3, bFairG K (a0 4) g4, bFairG K (a0 5) g5, bNotesG K (a0 6) g6, bPastG K (a0 7) f7_fairs g7, bTrialsG K (a0 8) ((a0 9) 0) ((a0 10) 0) ((a0 11) 0) q9.1, bFairG K (a0 9) q9.2.1, bOrderG K (a0 10) g10, bOrderG K (a0 11) g11] ++ (fam 6 (fun j => bRuleG K (f0_rules j) (p0_rules0 j)) ++ []))) (rfl) (stm_s (bs1 := ([bNextStallG K (a0 0) (fun j => some (f0_rules j 0)) f0_images ((a0 1) 0) ((a0 2) 0) ((a0 3) 0) ((a0 7) 0) ((a0 8) 0) g0, bTapeG K (a0 1) g1, bCursorG K (a0 2) g2, bWorldG K (a0 3) ((a0 4) 0) ((a0 5) 0) ((a0 6) 0) g3, bFairG K (a0 4) g4, bFairG K (a0 5) g5, bNotesG K (a0 6) g6, bPastG K (a0 7) f7_fairs g7, bTrialsG K (a0 8) ((a0 9) 0) ((a0 10) 0) ((a0 11) 0) q9.1, bFairG K (a0 9) q9.2.1, bOrderG K (a0 10) g10, bOrderG K (a0 11) g11] ++ (fam 6 (fun j => bRuleG K (f0_rules j) (p0_rules0 j)) ++ []))) (rfl) (stm_s (bs1 := ([bNextStallG K (a0 0) (fun j => some (f0_rules j 0)) f0_images ((a0 1) 0) ((a0 2) 0) ((a0 3) 0) ((a0 7) 0) ((a0 8) 0) g0, bTapeG K (a0 1) g1, bCursorG K (a0 2) g2, bWorldG K (a0 3) ((a0 4) 0) ((a0 5) 0) ((a0 6) 0) g3, bFairG K (a0 4) g4, bFairG K (a0 5) g5, bNotesG K (a0 6) g6, bPastG K (a0 7) f7_fairs g7, bTrialsG K (a0 8) ((a0 9) 0) ((a0 10) 0) ((a0 11) 0) q9.1, bFairG K (a0 9) q9.2.1, bOrderG K (a0 10) g10, bOrderG K (a0 11) g11] ++ (fam 6 (fun j => bRuleG K (f0_rules j) (p0_rules0 j)) ++ []))) (rfl) (stm_s (bs1 := ([bNextStallG K (a0 0) (fun j => some (f0_rules j 0)) f0_images ((a0 1) 0) ((a0 2) 0) ((a0 3) 0) ((a0 7) 0) ((a0 8) 0) g0, bTapeG K (a0 1) g1, bCursorG K (a0 2) g2, bWorldG K (a0 3) ((a0 4) 0) ((a0 5) 0) ((a0 6) 0) g3, bFairG K (a0 4) g4, bFairG K (a0 5) g5, bNotesG K (a0 6) g6, bPastG K (a0 7) f7_fairs g7, bTrialsG K (a0 8) ((a0 9) 0) ((a0 10) 0) ((a0 11) 0) q9.1, bFairG K (a0 9) q9.2.1, bOrderG K (a0 10) g10, bOrderG K (a0 11) g11] ++ (fam 6 (fun j => bRuleG K (f0_rules j) (p0_rules0 j)) ++ []))) (rfl) (stm_s (bs1 := ([bNextStallG K (a0 0) (fun j => some (f0_rules j 0)) f0_images ((a0 1) 0) ((a0 2) 0) ((a0 3) 0) ((a0 7) 0) ((a0 8) 0) g0, bTapeG K (a0 1) g1, bCursorG K (a0 2) g2, bWorldG K (a0 3) ((a0 4) 0) ((a0 5) 0) ((a0 6) 0) g3, bFairG K (a0 4) g4, bFairG K (a0 5) g5, bNotesG K (a0 6) g6, bPastG K (a0 7) f7_fairs g7, bTrialsG K (a0 8) ((a0 9) 0) ((a0 10) 0) ((a0 11) 0) q9.1, bFairG K (a0 9) q9.2.1, bOrderG K (a0 10) g10, bOrderG K (a0 11) g11] ++ (fam 6 (fun j => bRuleG K (f0_rules j) ((va_up p0_rules0 j6 q9.2.2) j)) ++ []))) (fs0 (B := fun j g => bRuleG K (f0_rules j) g) (g := q9.2.2) (l := [bNextStallG K (a0 0) (fun j => some (f0_rules j 0)) f0_images ((a0 1) 0) ((a0 2) 0) ((a0 3) 0) ((a0 7) 0) ((a0 8) 0) g0, bTapeG K (a0 1) g1, bCursorG K (a0 2) g2, bWorldG K (a0 3) ((a0 4) 0) ((a0 5) 0) ((a0 6) 0) g3, bFairG K (a0 4) g4, bFairG K (a0 5) g5, bNotesG K (a0 6) g6, bPastG K (a0 7) f7_fairs g7, bTrialsG K (a0 8) ((a0 9) 0) ((a0 10) 0) ((a0 11) 0) q9.1, bFairG K (a0 9) q9.2.1, bOrderG K (a0 10) g10, bOrderG K (a0 11) g11]) rfl hj6) stm_n)))))) rfl rfl rfl rfl dX11_makeUp_47 ?_
          refine r_aload_n 0 dX11_makeUp_50 rfl ?_
          refine gNextStall_trials 0 rfl (tb_in (i := 13) (j := 4) rfl rfl) dX11_makeUp_51 ?_
          refine gTrials_foundN 8 rfl (List.mem_of_getElem? (i := 63) rfl) dX11_makeUp_54 ?_
          refine r_iload_n 2 dX11_makeUp_57 rfl ?_
          obtain ⟨h10, h⟩ := rq_some h
          refine lTrials_found 8 rfl (inb_in h10) dX11_makeUp_58 ?_
          have hq := Option.some.inj h
          subst hq
          exact r_iret rfl dX11_makeUp_59
      · replace h := it_pos c5 h
        refine r_iconst (x := (-1 : Int32)) dX11_makeUp_29 (by decide) ?_
        have hq := Option.some.inj h
        subst hq
        exact r_iret rfl dX11_makeUp_30
end
theorem dX11_away_0 : decode cX11_away 0 = .ok (.aload_n 0, 1) := by decide +kernel
theorem dX11_away_1 : decode cX11_away 1 = .ok (.getfield 36, 3) := by decide +kernel
theorem dX11_away_4 : decode cX11_away 4 = .ok (.getfield 166, 3) := by decide +kernel
theorem dX11_away_7 : decode cX11_away 7 = .ok (.ifCond .eq 22, 3) := by decide +kernel
theorem dX11_away_10 : decode cX11_away 10 = .ok (.iload_n 1, 1) := by decide +kernel
theorem dX11_away_11 : decode cX11_away 11 = .ok (.iconst 1, 1) := by decide +kernel
theorem dX11_away_12 : decode cX11_away 12 = .ok (.bipush 40, 2) := by decide +kernel
theorem dX11_away_14 : decode cX11_away 14 = .ok (.invokestatic 70, 3) := by decide +kernel
theorem dX11_away_17 : decode cX11_away 17 = .ok (.ifCond .eq 12, 3) := by decide +kernel
theorem dX11_away_20 : decode cX11_away 20 = .ok (.iload_n 2, 1) := by decide +kernel
theorem dX11_away_21 : decode cX11_away 21 = .ok (.iconst 0, 1) := by decide +kernel
theorem dX11_away_22 : decode cX11_away 22 = .ok (.iconst 1, 1) := by decide +kernel
theorem dX11_away_23 : decode cX11_away 23 = .ok (.invokestatic 70, 3) := by decide +kernel
theorem dX11_away_26 : decode cX11_away 26 = .ok (.ifCond .ne 6, 3) := by decide +kernel
theorem dX11_away_29 : decode cX11_away 29 = .ok (.bipush (-2), 2) := by decide +kernel
theorem dX11_away_31 : decode cX11_away 31 = .ok (.ireturn, 1) := by decide +kernel
theorem dX11_away_32 : decode cX11_away 32 = .ok (.aload_n 0, 1) := by decide +kernel
theorem dX11_away_33 : decode cX11_away 33 = .ok (.getfield 58, 3) := by decide +kernel
theorem dX11_away_36 : decode cX11_away 36 = .ok (.aload_n 0, 1) := by decide +kernel
theorem dX11_away_37 : decode cX11_away 37 = .ok (.getfield 36, 3) := by decide +kernel
theorem dX11_away_40 : decode cX11_away 40 = .ok (.getfield 119, 3) := by decide +kernel
theorem dX11_away_43 : decode cX11_away 43 = .ok (.aload_n 0, 1) := by decide +kernel
theorem dX11_away_44 : decode cX11_away 44 = .ok (.invokevirtual 176, 3) := by decide +kernel
theorem dX11_away_47 : decode cX11_away 47 = .ok (.iload_n 1, 1) := by decide +kernel
theorem dX11_away_48 : decode cX11_away 48 = .ok (.invokevirtual 244, 3) := by decide +kernel
theorem dX11_away_51 : decode cX11_away 51 = .ok (.aload_n 0, 1) := by decide +kernel
theorem dX11_away_52 : decode cX11_away 52 = .ok (.getfield 58, 3) := by decide +kernel
theorem dX11_away_55 : decode cX11_away 55 = .ok (.getfield 230, 3) := by decide +kernel
theorem dX11_away_58 : decode cX11_away 58 = .ok (.iload_n 2, 1) := by decide +kernel
theorem dX11_away_59 : decode cX11_away 59 = .ok (.iaload, 1) := by decide +kernel
theorem dX11_away_60 : decode cX11_away 60 = .ok (.ireturn, 1) := by decide +kernel
abbrev MNextStall_away : rx_M := (RX11, yX11_away, cX11_away, 3, (some .int), 7)
theorem kNextStall_away : rKv MNextStall_away 2 := ⟨tb_in (i := 34) (j := 27) rfl rfl, tb_in (i := 34) (j := 28) rfl rfl, tb_in (i := 2) (j := 22) rfl rfl, tb_in (i := 15) (j := 23) rfl rfl, ⟨by decide, by decide, by decide +kernel⟩, by decide⟩
section
variable {a0 : Nat → Nat → Nat} {g0 : tyNextStall} {g1 : tyTape} {g2 : tyCursor} {g3 : tyWorld} {g4 : tyFair} {g5 : tyFair} {g6 : tyNotes} {g7 : tyPast} {g8 : tyTrials} {g9 : tyFair} {g10 : tyOrder} {g11 : tyOrder} {f0_rules : Nat → Nat → Nat} {f0_images : Nat → Option Nat} {f7_fairs : Nat → Option Nat} {p0_rules0 : Nat → tyRule}
def mNextStall_away (x1 : Int32) (x2 : Int32) (g0 : tyNextStall) (g3 : tyWorld) (g5 : tyFair) (g8 : tyTrials) (g9 : tyFair) (p0_rules0 : Nat → tyRule) : Option (Int32 × tyTrials × tyFair × (Nat → tyRule)) := (if g3.1 = 0 then some ((-2 : Int32), g8, g9, p0_rules0) else (mNextStall_within x1 (1 : Int32) (40 : Int32)).bind (fun q2 => (if q2 = 0 then some ((-2 : Int32), g8, g9, p0_rules0) else (mNextStall_within x2 (0 : Int32) (1 : Int32)).bind (fun q4 => (if q4 = 0 then some ((-2 : Int32), g8, g9, p0_rules0) else (mNextStall_ruleInForce g0 g3).bind (fun q6 => mt q6 ((mTrials_findAwayrn x1 g8 g9 g5).bind (fun q7 => rq (inb x2 3) (some ((q7.1.1 x2.toNatClampNeg), q7.1, q7.2, p0_rules0)))) (fun j6 => rq (decide (j6 < 6)) ((mTrials_findAwayrr x1 g8 g9 g5 (p0_rules0 j6)).bind (fun q9 => rq (inb x2 3) (some ((q9.1.1 x2.toNatClampNeg), q9.1, q9.2.1, (va_up p0_rules0 j6 q9.2.2))))))))))))
set_option maxHeartbeats 4000000 in
set_option maxRecDepth 20000 in
theorem cNextStall_away {q : Int32 × tyTrials × tyFair × (Nat → tyRule)} {x1 : Int32} {x2 : Int32} (h : mNextStall_away x1 x2 g0 g3 g5 g8 g9 p0_rules0 = some q) : rMet l D Z (ty7 K) MNextStall_away [.ref ((a0 0) 0), .int x1, .int x2] (List.flatten ([bNextStallG K (a0 0) (fun j => some (f0_rules j 0)) f0_images ((a0 1) 0) ((a0 2) 0) ((a0 3) 0) ((a0 7) 0) ((a0 8) 0) g0, bTapeG K (a0 1) g1, bCursorG K (a0 2) g2, bWorldG K (a0 3) ((a0 4) 0) ((a0 5) 0) ((a0 6) 0) g3, bFairG K (a0 4) g4, bFairG K (a0 5) g5, bNotesG K (a0 6) g6, bPastG K (a0 7) f7_fairs g7, bTrialsG K (a0 8) ((a0 9) 0) ((a0 10) 0) ((a0 11) 0) g8, bFairG K (a0 9) g9, bOrderG K (a0 10) g10, bOrderG K (a0 11) g11] ++ (fam 6 (fun j => bRuleG K (f0_rules j) (p0_rules0 j)) ++ []))) (List.flatten ([bNextStallG K (a0 0) (fun j => some (f0_rules j 0)) f0_images ((a0 1) 0) ((a0 2) 0) ((a0 3) 0) ((a0 7) 0) ((a0 8) 0) g0, bTapeG K (a0 1) g1, bCursorG K (a0 2) g2, bWorldG K (a0 3) ((a0 4) 0) ((a0 5) 0) ((a0 6) 0) g3, bFairG K (a0 4) g4, bFairG K (a0 5) g5, bNotesG K (a0 6) g6, bPastG K (a0 7) f7_fairs g7, bTrialsG K (a0 8) ((a0 9) 0) ((a0 10) 0) ((a0 11) 0) q.2.1, bFairG K (a0 9) q.2.2.1, bOrderG K (a0 10) g10, bOrderG K (a0 11) g11] ++ (fam 6 (fun j => bRuleG K (f0_rules j) (q.2.2.2 j)) ++ []))) (some (.int q.1)) := by
  refine rMet.of (by decide) rfl (Nat.le_of_ble_eq_true rfl) ?_
  refine r_sub (lv' := [(0, .ref ((a0 0) 0)), (1, .int x1), (2, .int x2)]) [0, 1, 2] rfl ?_
  unfold mNextStall_away at h
  refine r_aload_n 0 dX11_away_0 rfl ?_
  refine gNextStall_world 0 rfl (tb_in (i := 12) (j := 26) rfl rfl) dX11_away_1 ?_
  refine gWorld_openN 3 rfl (List.mem_of_getElem? (i := 50) rfl) dX11_away_4 ?_
  refine r_if_eq 29 dX11_away_7 (by decide) (fun c1 => ?_) (fun c1 => ?_)
  · replace h := it_pos c1 h
    refine r_bipush (x := (-2 : Int32)) dX11_away_29 (by decide) ?_
    have hq := Option.some.inj h
    subst hq
    exact r_iret rfl dX11_away_31
  · replace h := it_neg c1 h
    refine r_iload_n 1 dX11_away_10 rfl ?_
    refine r_iconst (x := (1 : Int32)) dX11_away_11 (by decide) ?_
    refine r_bipush (x := (40 : Int32)) dX11_away_12 (by decide) ?_
    obtain ⟨q2, h2, h⟩ := bd_some h
    refine b_callS (isC := []) (st := []) (bs1 := ([bNextStallG K (a0 0) (fun j => some (f0_rules j 0)) f0_images ((a0 1) 0) ((a0 2) 0) ((a0 3) 0) ((a0 7) 0) ((a0 8) 0) g0, bTapeG K (a0 1) g1, bCursorG K (a0 2) g2, bWorldG K (a0 3) ((a0 4) 0) ((a0 5) 0) ((a0 6) 0) g3, bFairG K (a0 4) g4, bFairG K (a0 5) g5, bNotesG K (a0 6) g6, bPastG K (a0 7) f7_fairs g7, bTrialsG K (a0 8) ((a0 9) 0) ((a0 10) 0) ((a0 11) 0) g8, bFairG K (a0 9) g9, bOrderG K (a0 10) g10, bOrderG K (a0 11) g11] ++ (fam 6 (fun j => bRuleG K (f0_rules j) (p0_rules0 j)) ++ []))) (cNextStall_within   h2) rfl rfl (Nat.le_of_ble_eq_true rfl) kNextStall_within (tb_in (i := 13) (j := 17) rfl rfl) (by decide) (by decide) rfl rfl rfl dX11_away_14 ?_
    refine r_if_eq 29 dX11_away_17 (by decide) (fun c3 => ?_) (fun c3 => ?_)
    · replace h := it_pos c3 h
      refine r_bipush (x := (-2 : Int32)) dX11_away_29 (by decide) ?_
      have hq := Option.some.inj h
      subst hq
      exact r_iret rfl dX11_away_31
    · replace h := it_neg c3 h
      refine r_iload_n 2 dX11_away_20 rfl ?_
      refine r_iconst (x := (0 : Int32)) dX11_away_21 (by decide) ?_
      refine r_iconst (x := (1 : Int32)) dX11_away_22 (by decide) ?_
      obtain ⟨q4, h4, h⟩ := bd_some h
      refine b_callS (isC := []) (st := []) (bs1 := ([bNextStallG K (a0 0) (fun j => some (f0_rules j 0)) f0_images ((a0 1) 0) ((a0 2) 0) ((a0 3) 0) ((a0 7) 0) ((a0 8) 0) g0, bTapeG K (a0 1) g1, bCursorG K (a0 2) g2, bWorldG K (a0 3) ((a0 4) 0) ((a0 5) 0) ((a0 6) 0) g3, bFairG K (a0 4) g4, bFairG K (a0 5) g5, bNotesG K (a0 6) g6, bPastG K (a0 7) f7_fairs g7, bTrialsG K (a0 8) ((a0 9) 0) ((a0 10) 0) ((a0 11) 0) g8, bFairG K (a0 9) g9, bOrderG K (a0 10) g10, bOrderG K (a0 11) g11] ++ (fam 6 (fun j => bRuleG K (f0_rules j) (p0_rules0 j)) ++ []))) (cNextStall_within   h4) rfl rfl (Nat.le_of_ble_eq_true rfl) kNextStall_within (tb_in (i := 13) (j := 17) rfl rfl) (by decide) (by decide) rfl rfl rfl dX11_away_23 ?_
      refine r_if_ne 32 dX11_away_26 (by decide) (fun c5 => ?_) (fun c5 => ?_)
      · replace h := it_neg c5 h
        refine r_aload_n 0 dX11_away_32 rfl ?_
        refine gNextStall_trials 0 rfl (tb_in (i := 13) (j := 4) rfl rfl) dX11_away_33 ?_
        refine r_aload_n 0 dX11_away_36 rfl ?_
        refine gNextStall_world 0 rfl (tb_in (i := 12) (j := 26) rfl rfl) dX11_away_37 ?_
        refine gWorld_nowN 3 rfl (List.mem_of_getElem? (i := 55) rfl) dX11_away_40 ?_
        refine r_aload_n 0 dX11_away_43 rfl ?_
        obtain ⟨q6, h6, h⟩ := bd_some h
        refine b_callV (isC := ([0, 1, 2, 3, 4, 5, 6, 7, 8, 9, 10, 11] ++ (List.range' 12 6 ++ []))) (ci := 9)  (st := [.ref ((a0 5) 0), .ref ((a0 8) 0)]) (bs1 := ([bNextStallG K (a0 0) (fun j => some (f0_rules j 0)) f0_images ((a0 1) 0) ((a0 2) 0) ((a0 3) 0) ((a0 7) 0) ((a0 8) 0) g0, bTapeG K (a0 1) g1, bCursorG K (a0 2) g2, bWorldG K (a0 3) ((a0 4) 0) ((a0 5) 0) ((a0 6) 0) g3, bFairG K (a0 4) g4, bFairG K (a0 5) g5, bNotesG K (a0 6) g6, bPastG K (a0 7) f7_fairs g7, bTrialsG K (a0 8) ((a0 9) 0) ((a0 10) 0) ((a0 11) 0) g8, bFairG K (a0 9) g9, bOrderG K (a0 10) g10, bOrderG K (a0 11) g11] ++ (fam 6 (fun j => bRuleG K (f0_rules j) (p0_rules0 j)) ++ []))) (cNextStall_ruleInForce (a0 := a0) (f0_rules := f0_rules) (g0 := g0) (g1 := g1) (g2 := g2) (g3 := g3) (g4 := g4) (g5 := g5) (g6 := g6) (g7 := g7) (g8 := g8) (g9 := g9) (g10 := g10) (g11 := g11) (p0_rules0 := p0_rules0) h6) rfl rfl (Nat.le_of_ble_eq_true rfl) kNextStall_ruleInForce (tb_in (i := 14) (j := 11) rfl rfl) (by decide) (by decide +kernel) (map_app rfl (map_app (map_f0 (n := 6) (l := [bNextStallG K (a0 0) (fun j => some (f0_rules j 0)) f0_images ((a0 1) 0) ((a0 2) 0) ((a0 3) 0) ((a0 7) 0) ((a0 8) 0) g0, bTapeG K (a0 1) g1, bCursorG K (a0 2) g2, bWorldG K (a0 3) ((a0 4) 0) ((a0 5) 0) ((a0 6) 0) g3, bFairG K (a0 4) g4, bFairG K (a0 5) g5, bNotesG K (a0 6) g6, bPastG K (a0 7) f7_fairs g7, bTrialsG K (a0 8) ((a0 9) 0) ((a0 10) 0) ((a0 11) 0) g8, bFairG K (a0 9) g9, bOrderG K (a0 10) g10, bOrderG K (a0 11) g11]) rfl) rfl)) (by simp only [List.length_append, fam_len, List.length_range', List.length_cons, List.length_nil]) (stm_a (bs1 := ([bNextStallG K (a0 0) (fun j => some (f0_rules j 0)) f0_images ((a0 1) 0) ((a0 2) 0) ((a0 3) 0) ((a0 7) 0) ((a0 8) 0) g0, bTapeG K (a0 1) g1, bCursorG K (a0 2) g2, bWorldG K (a0 3) ((a0 4) 0) ((a0 5) 0) ((a0 6) 0) g3, bFairG K (a0 4) g4, bFairG K (a0 5) g5, bNotesG K (a0 6) g6, bPastG K (a0 7) f7_fairs g7, bTrialsG K (a0 8) ((a0 9) 0) ((a0 10) 0) ((a0 11) 0) g8, bFairG K (a0 9) g9, bOrderG K (a0 10) g10, bOrderG K (a0 11) g11] ++ (fam 6 (fun j => bRuleG K (f0_rules j) (p0_rules0 j)) ++ []))) rfl rfl (stm_a (bs1 := ([bNextStallG K (a0 0) (fun j => some (f0_rules j 0)) f0_images ((a0 1) 0) ((a0 2) 0) ((a0 3) 0) ((a0 7) 0) ((a0 8) 0) g0, bTapeG K (a0 1) g1, bCursorG K (a0 2) g2, bWorldG K (a0 3) ((a0 4) 0) ((a0 5) 0) ((a0 6) 0) g3, bFairG K (a0 4) g4, bFairG K (a0 5) g5, bNotesG K (a0 6) g6, bPastG K (a0 7) f7_fairs g7, bTrialsG K (a0 8) ((a0 9) 0) ((a0 10) 0) ((a0 11) 0) g8, bFairG K (a0 9) g9, bOrderG K (a0 10) g10, bOrderG K (a0 11) g11] ++ (fam 6 (fun j => bRuleG K (f0_rules j) (p0_rules0 j)) ++ []))) (by rw [List.length_range', fam_len]) (stm_f0 (n := 6) (l := [bNextStallG K (a0 0) (fun j => some (f0_rules j 0)) f0_images ((a0 1) 0) ((a0 2) 0) ((a0 3) 0) ((a0 7) 0) ((a0 8) 0) g0, bTapeG K (a0 1) g1, bCursorG K (a0 2) g2, bWorldG K (a0 3) ((a0 4) 0) ((a0 5) 0) ((a0 6) 0) g3, bFairG K (a0 4) g4, bFairG K (a0 5) g5, bNotesG K (a0 6) g6, bPastG K (a0 7) f7_fairs g7, bTrialsG K (a0 8) ((a0 9) 0) ((a0 10) 0) ((a0 11) 0) g8, bFairG K (a0 9) g9, bOrderG K (a0 10) g10, bOrderG K (a0 11) g11]) rfl) rfl)) rfl rfl rfl rfl dX11_away_44 ?_
        cases q6 with
        | none =>
          replace h := mt_n h
          refine r_st (st' := [.null, .ref ((a0 5) 0), .ref ((a0 8) 0)]) rfl ?_
          refine r_iload_n 1 dX11_away_47 rfl ?_
          obtain ⟨q7, h7, h⟩ := bd_some h
          refine b_callVN (isC := [8, 9, 10, 11, 5]) (ci := 7)  (st := []) (bs1 := ([bNextStallG K (a0 0) (fun j => some (f0_rules j 0)) f0_images ((a0 1) 0) ((a0 2) 0) ((a0 3) 0) ((a0 7) 0) ((a0 8) 0) g0, bTapeG K (a0 1) g1, bCursorG K (a0 2) g2, bWorldG K (a0 3) ((a0 4) 0) ((a0 5) 0) ((a0 6) 0) g3, bFairG K (a0 4) g4, bFairG K (a0 5) g5, bNotesG K (a0 6) g6, bPastG K (a0 7) f7_fairs g7, bTrialsG K (a0 8) ((a0 9) 0) ((a0 10) 0) ((a0 11) 0) q7.1, bFairG K (a0 9) q7.2, bOrderG K (a0 10) g10, bOrderG K (a0 11) g11] ++ (fam 6 (fun j => bRuleG K (f0_rules j) (p0_rules0 j)) ++ []))) (cTrials_findAwayrn (a0 := fun b => a0 (8 + b)) (a1 := (a0 5)) (g0 := g8) (g1 := g9) (g2 := g10) (g3 := g11) (g4 := g5) h7) rfl rfl (Nat.le_of_ble_eq_true rfl) kTrials_findAwayrn (List.mem_of_getElem? (i := 70) rfl) (by decide) (by decide) rfl rfl rfl rfl rfl rfl rfl dX11_away_48 ?_
          refine r_aload_n 0 dX11_away_51 rfl ?_
          refine gNextStall_trials 0 rfl (tb_in (i := 13) (j := 4) rfl rfl) dX11_away_52 ?_
          refine gTrials_foundN 8 rfl (List.mem_of_getElem? (i := 63) rfl) dX11_away_55 ?_
          refine r_iload_n 2 dX11_away_58 rfl ?_
          obtain ⟨h8, h⟩ := rq_some h
          refine lTrials_found 8 rfl (inb_in h8) dX11_away_59 ?_
          have hq := Option.some.inj h
          subst hq
          exact r_iret rfl dX11_away_60
        | some j6 =>
          replace h := mt_s h
          obtain ⟨hg6, h⟩ := rq_some h
          have hj6 := of_decide_eq_true hg6
          refine r_st (st' := [.ref (f0_rules j6 0), .ref ((a0 5) 0), .ref ((a0 8) 0)]) rfl ?_
          refine r_iload_n 1 dX11_away_47 rfl ?_
          obtain ⟨q9, h9, h⟩ := bd_some h
          refine b_callVN (isC := [8, 9, 10, 11, 5, 12 + j6]) (ci := 7)  (st := []) (bs1 := ([bNextStallG K (a0 0) (fun j => some (f0_rules j 0)) f0_images ((a0 1) 0) ((a0 2) 0) ((a0 3) 0) ((a0 7) 0) ((a0 8) 0) g0, bTapeG K (a0 1) g1, bCursorG K (a0 2) g2, bWorldG K (a0 3) ((a0 4) 0) ((a0 5) 0) ((a0 6) 0) g3, bFairG K (a0 4) g4, bFairG K (a0 5) g5, bNotesG K (a0 6) g6, bPastG K (a0 7) f7_fairs g7, bTrialsG K (a0 8) ((a0 9) 0) ((a0 10) 0) ((a0 11) 0) q9.1, bFairG K (a0 9) q9.2.1, bOrderG K (a0 10) g10, bOrderG K (a0 11) g11] ++ (fam 6 (fun j => bRuleG K (f0_rules j) ((va_up p0_rules0 j6 q9.2.2) j)) ++ []))) (cTrials_findAwayrr (a0 := fun b => a0 (8 + b)) (a1 := (a0 5)) (a2 := f0_rules j6) (g0 := g8) (g1 := g9) (g2 := g10) (g3 := g11) (g4 := g5) (g5 := (p0_rules0 j6)) h9) rfl rfl (Nat.le_of_ble_eq_true rfl) kTrials_findAwayrr (List.mem_of_getElem? (i := 70) rfl) (by decide) (by simp only [List.nodup_cons, List.mem_cons, List.not_mem_nil, or_false, not_or, List.nodup_nil, not_false_eq_true, and_true]; omega) (map_s (rfl) (map_s (rfl) (map_s (rfl) (map_s (rfl) (map_s (rfl) (map_s (fq0 (B := fun j g => bRuleG K (f0_rules j) g) (l := [bNextStallG K (a0 0) (fun j => some (f0_rules j 0)) f0_images ((a0 1) 0) ((a0 2) 0) ((a0 3) 0) ((a0 7) 0) ((a0 8) 0) g0, bTapeG K (a0 1) g1, bCursorG K (a0 2) g2, bWorldG K (a0 3) ((a0 4) 0) ((a0 5) 0) ((a0 6) 0) g3, bFairG K (a0 4) g4, bFairG K (a0 5) g5, bNotesG K (a0 6) g6, bPastG K (a0 7) f7_fairs g7, bTrialsG K (a0 8) ((a0 9) 0) ((a0 10) 0) ((a0 11) 0) g8, bFairG K (a0 9) g9, bOrderG K (a0 10) g10, bOrderG K (a0 11) g11]) rfl hj6) map_n)))))) rfl (stm_s (bs1 := ([bNextStallG K (a0 0) (fun j => some (f0_rules j 0)) f0_images ((a0 1) 0) ((a0 2) 0) ((a0 3) 0) ((a0 7) 0) ((a0 8) 0) g0, bTapeG K (a0 1) g1, bCursorG K (a0 2) g2, bWorldG K (a0 3) ((a0 4) 0) ((a0 5) 0) ((a0 6) 0) g3, bFairG K (a0 4) g4, bFairG K (a0 5) g5, bNotesG K (a0 6) g6, bPastG K (a0 7) f7_fairs g7, bTrialsG K (a0 8) ((a0 9) 0) ((a0 10) 0) ((a0 11) 0) q9.1, bFairG K (a0 9) g9, bOrderG K (a0 10) g10, bOrderG K (a0 11) g11] ++ (fam 6 (fun j => bRuleG K (f0_rules j) (p0_rules0 j)) ++ []))) (rfl) (stm_s (bs1 := ([bNextStallG K (a0 0) (fun j => some (f0_rules j 0)) f0_images ((a0 1) 0) ((a0 2) 0) ((a0 3) 0) ((a0 7) 0) ((a0 8) 0) g0, bTapeG K (a0 1) g1, bCursorG K (a0 2) g2, bWorldG K (a0 3) ((a0 4) 0) ((a0 5) 0) ((a0 6) 0) g3, bFairG K (a0 4) g4, bFairG K (a0 5) g5, bNotesG K (a0 6) g6, bPastG K (a0 7) f7_fairs g7, bTrialsG K (a0 8) ((a0 9) 0) ((a0 10) 0) ((a0 11) 0) q9.1, bFairG K (a0 9) q9.2.1, bOrderG K (a0 10) g10, bOrderG K (a0 11) g11] ++ (fam 6 (fun j => bRuleG K (f0_rules j) (p0_rules0 j)) ++ []))) (rfl) (stm_s (bs1 := ([bNextStallG K (a0 0) (fun j => some (f0_rules j 0)) f0_images ((a0 1) 0) ((a0 2) 0) ((a0 3) 0) ((a0 7) 0) ((a0 8) 0) g0, bTapeG K (a0 1) g1, bCursorG K (a0 2) g2, bWorldG K (a0 3) ((a0 4) 0) ((a0 5) 0) ((a0 6) 0) g3, bFairG K (a0 4) g4, bFairG K (a0 5) g5, bNotesG K (a0 6) g6, bPastG K (a0 7) f7_fairs g7, bTrialsG K (a0 8) ((a0 9) 0) ((a0 10) 0) ((a0 11) 0) q9.1, bFairG K (a0 9) q9.2.1, bOrderG K (a0 10) g10, bOrderG K (a0 11) g11] ++ (fam 6 (fun j => bRuleG K (f0_rules j) (p0_rules0 j)) ++ []))) (rfl) (stm_s (bs1 := ([bNextStallG K (a0 0) (fun j => some (f0_rules j 0)) f0_images ((a0 1) 0) ((a0 2) 0) ((a0 3) 0) ((a0 7) 0) ((a0 8) 0) g0, bTapeG K (a0 1) g1, bCursorG K (a0 2) g2, bWorldG K (a0 3) ((a0 4) 0) ((a0 5) 0) ((a0 6) 0) g3, bFairG K (a0 4) g4, bFairG K (a0 5) g5, bNotesG K (a0 6) g6, bPastG K (a0 7) f7_fairs g7, bTrialsG K (a0 8) ((a0 9) 0) ((a0 10) 0) ((a0 11) 0) q9.1, bFairG K (a0 9) q9.2.1, bOrderG K (a0 10) g10, bOrderG K (a0 11) g11] ++ (fam 6 (fun j => bRuleG K (f0_rules j) (p0_rules0 j)) ++ []))) (rfl) (stm_s (bs1 := ([bNextStallG K (a0 0) (fun j => some (f0_rules j 0)) f0_images ((a0 1) 0) ((a0 2) 0) ((a0 3) 0) ((a0 7) 0) ((a0 8) 0) g0, bTapeG K (a0 1) g1, bCursorG K (a0 2) g2, bWorldG K (a0 3) ((a0 4) 0) ((a0 5) 0) ((a0 6) 0) g3, bFairG K (a0 4) g4, bFairG K (a0 5) g5, bNotesG K (a0 6) g6, bPastG K (a0 7) f7_fairs g7, bTrialsG K (a0 8) ((a0 9) 0) ((a0 10) 0) ((a0 11) 0) q9.1, bFairG K (a0 9) q9.2.1, bOrderG K (a0 10) g10, bOrderG K (a0 11) g11] ++ (fam 6 (fun j => bRuleG K (f0_rules j) (p0_rules0 j)) ++ []))) (rfl) (stm_s (bs1 := ([bNextStallG K (a0 0) (fun j => some (f0_rules j 0)) f0_images ((a0 1) 0) ((a0 2) 0) ((a0 3) 0) ((a0 7) 0) ((a0 8) 0) g0, bTapeG K (a0 1) g1, bCursorG K (a0 2) g2, bWorldG K (a0 3) ((a0 4) 0) ((a0 5) 0) ((a0 6) 0) g3, bFairG K (a0 4) g4, bFairG K (a0 5) g5, bNotesG K (a0 6) g6, bPastG K (a0 7) f7_fairs g7, bTrialsG K (a0 8) ((a0 9) 0) ((a0 10) 0) ((a0 11) 0) q9.1, bFairG K (a0 9) q9.2.1, bOrderG K (a0 10) g10, bOrderG K (a0 11) g11] ++ (fam 6 (fun j => bRuleG K (f0_rules j) ((va_up p0_rules0 j6 q9.2.2) j)) ++ []))) (fs0 (B := fun j g => bRuleG K (f0_rules j) g) (g := q9.2.2) (l := [bNextStallG K (a0 0) (fun j => some (f0_rules j 0)) f0_images ((a0 1) 0) ((a0 2) 0) ((a0 3) 0) ((a0 7) 0) ((a0 8) 0) g0, bTapeG K (a0 1) g1, bCursorG K (a0 2) g2, bWorldG K (a0 3) ((a0 4) 0) ((a0 5) 0) ((a0 6) 0) g3, bFairG K (a0 4) g4, bFairG K (a0 5) g5, bNotesG K (a0 6) g6, bPastG K (a0 7) f7_fairs g7, bTrialsG K (a0 8) ((a0 9) 0) ((a0 10) 0) ((a0 11) 0) q9.1, bFairG K (a0 9) q9.2.1, bOrderG K (a0 10) g10, bOrderG K (a0 11) g11]) rfl hj6) stm_n)))))) rfl rfl rfl rfl dX11_away_48 ?_
          refine r_aload_n 0 dX11_away_51 rfl ?_
          refine gNextStall_trials 0 rfl (tb_in (i := 13) (j := 4) rfl rfl) dX11_away_52 ?_
          refine gTrials_foundN 8 rfl (List.mem_of_getElem? (i := 63) rfl) dX11_away_55 ?_
          refine r_iload_n 2 dX11_away_58 rfl ?_
          obtain ⟨h10, h⟩ := rq_some h
          refine lTrials_found 8 rfl (inb_in h10) dX11_away_59 ?_
          have hq := Option.some.inj h
          subst hq
          exact r_iret rfl dX11_away_60
      · replace h := it_pos c5 h
        refine r_bipush (x := (-2 : Int32)) dX11_away_29 (by decide) ?_
        have hq := Option.some.inj h
        subst hq
        exact r_iret rfl dX11_away_31
end
theorem dX11_swaps_0 : decode cX11_swaps 0 = .ok (.aload_n 0, 1) := by decide +kernel
theorem dX11_swaps_1 : decode cX11_swaps 1 = .ok (.getfield 36, 3) := by decide +kernel
theorem dX11_swaps_4 : decode cX11_swaps 4 = .ok (.getfield 166, 3) := by decide +kernel
theorem dX11_swaps_7 : decode cX11_swaps 7 = .ok (.ifCond .eq 22, 3) := by decide +kernel
theorem dX11_swaps_10 : decode cX11_swaps 10 = .ok (.iload_n 1, 1) := by decide +kernel
theorem dX11_swaps_11 : decode cX11_swaps 11 = .ok (.iconst 1, 1) := by decide +kernel
theorem dX11_swaps_12 : decode cX11_swaps 12 = .ok (.bipush 40, 2) := by decide +kernel
theorem dX11_swaps_14 : decode cX11_swaps 14 = .ok (.invokestatic 70, 3) := by decide +kernel
theorem dX11_swaps_17 : decode cX11_swaps 17 = .ok (.ifCond .eq 12, 3) := by decide +kernel
theorem dX11_swaps_20 : decode cX11_swaps 20 = .ok (.iload_n 2, 1) := by decide +kernel
theorem dX11_swaps_21 : decode cX11_swaps 21 = .ok (.iconst 0, 1) := by decide +kernel
theorem dX11_swaps_22 : decode cX11_swaps 22 = .ok (.iconst 2, 1) := by decide +kernel
theorem dX11_swaps_23 : decode cX11_swaps 23 = .ok (.invokestatic 70, 3) := by decide +kernel
theorem dX11_swaps_26 : decode cX11_swaps 26 = .ok (.ifCond .ne 5, 3) := by decide +kernel
theorem dX11_swaps_29 : decode cX11_swaps 29 = .ok (.iconst (-1), 1) := by decide +kernel
theorem dX11_swaps_30 : decode cX11_swaps 30 = .ok (.ireturn, 1) := by decide +kernel
theorem dX11_swaps_31 : decode cX11_swaps 31 = .ok (.aload_n 0, 1) := by decide +kernel
theorem dX11_swaps_32 : decode cX11_swaps 32 = .ok (.getfield 58, 3) := by decide +kernel
theorem dX11_swaps_35 : decode cX11_swaps 35 = .ok (.aload_n 0, 1) := by decide +kernel
theorem dX11_swaps_36 : decode cX11_swaps 36 = .ok (.getfield 36, 3) := by decide +kernel
theorem dX11_swaps_39 : decode cX11_swaps 39 = .ok (.getfield 119, 3) := by decide +kernel
theorem dX11_swaps_42 : decode cX11_swaps 42 = .ok (.aload_n 0, 1) := by decide +kernel
theorem dX11_swaps_43 : decode cX11_swaps 43 = .ok (.invokevirtual 176, 3) := by decide +kernel
theorem dX11_swaps_46 : decode cX11_swaps 46 = .ok (.iload_n 1, 1) := by decide +kernel
theorem dX11_swaps_47 : decode cX11_swaps 47 = .ok (.invokevirtual 247, 3) := by decide +kernel
theorem dX11_swaps_50 : decode cX11_swaps 50 = .ok (.aload_n 0, 1) := by decide +kernel
theorem dX11_swaps_51 : decode cX11_swaps 51 = .ok (.getfield 58, 3) := by decide +kernel
theorem dX11_swaps_54 : decode cX11_swaps 54 = .ok (.getfield 230, 3) := by decide +kernel
theorem dX11_swaps_57 : decode cX11_swaps 57 = .ok (.iload_n 2, 1) := by decide +kernel
theorem dX11_swaps_58 : decode cX11_swaps 58 = .ok (.iaload, 1) := by decide +kernel
theorem dX11_swaps_59 : decode cX11_swaps 59 = .ok (.ireturn, 1) := by decide +kernel
abbrev MNextStall_swaps : rx_M := (RX11, yX11_swaps, cX11_swaps, 3, (some .int), 7)
theorem kNextStall_swaps : rKv MNextStall_swaps 2 := ⟨tb_in (i := 35) (j := 1) rfl rfl, tb_in (i := 35) (j := 2) rfl rfl, tb_in (i := 2) (j := 22) rfl rfl, tb_in (i := 15) (j := 26) rfl rfl, ⟨by decide, by decide, by decide +kernel⟩, by decide⟩
section
variable {a0 : Nat → Nat → Nat} {g0 : tyNextStall} {g1 : tyTape} {g2 : tyCursor} {g3 : tyWorld} {g4 : tyFair} {g5 : tyFair} {g6 : tyNotes} {g7 : tyPast} {g8 : tyTrials} {g9 : tyFair} {g10 : tyOrder} {g11 : tyOrder} {f0_rules : Nat → Nat → Nat} {f0_images : Nat → Option Nat} {f7_fairs : Nat → Option Nat} {p0_rules0 : Nat → tyRule}
def mNextStall_swaps (x1 : Int32) (x2 : Int32) (g0 : tyNextStall) (g3 : tyWorld) (g5 : tyFair) (g8 : tyTrials) (g9 : tyFair) (p0_rules0 : Nat → tyRule) : Option (Int32 × tyTrials × tyFair × (Nat → tyRule)) := (if g3.1 = 0 then some ((-1 : Int32), g8, g9, p0_rules0) else (mNextStall_within x1 (1 : Int32) (40 : Int32)).bind (fun q2 => (if q2 = 0 then some ((-1 : Int32), g8, g9, p0_rules0) else (mNextStall_within x2 (0 : Int32) (2 : Int32)).bind (fun q4 => (if q4 = 0 then some ((-1 : Int32), g8, g9, p0_rules0) else (mNextStall_ruleInForce g0 g3).bind (fun q6 => mt q6 ((mTrials_findSwapsrn x1 g8 g9 g5).bind (fun q7 => rq (inb x2 3) (some ((q7.1.1 x2.toNatClampNeg), q7.1, q7.2, p0_rules0)))) (fun j6 => rq (decide (j6 < 6)) ((mTrials_findSwapsrr x1 g8 g9 g5 (p0_rules0 j6)).bind (fun q9 => rq (inb x2 3) (some ((q9.1.1 x2.toNatClampNeg), q9.1, q9.2.1, (va_up p0_rules0 j6 q9.2.2))))))))))))
set_option maxHeartbeats 4000000 in
set_option maxRecDepth 20000 in
theorem cNextStall_swaps {q : Int32 × tyTrials × tyFair × (Nat → tyRule)} {x1 : Int32} {x2 : Int32} (h : mNextStall_swaps x1 x2 g0 g3 g5 g8 g9 p0_rules0 = some q) : rMet l D Z (ty7 K) MNextStall_swaps [.ref ((a0 0) 0), .int x1, .int x2] (List.flatten ([bNextStallG K (a0 0) (fun j => some (f0_rules j 0)) f0_images ((a0 1) 0) ((a0 2) 0) ((a0 3) 0) ((a0 7) 0) ((a0 8) 0) g0, bTapeG K (a0 1) g1, bCursorG K (a0 2) g2, bWorldG K (a0 3) ((a0 4) 0) ((a0 5) 0) ((a0 6) 0) g3, bFairG K (a0 4) g4, bFairG K (a0 5) g5, bNotesG K (a0 6) g6, bPastG K (a0 7) f7_fairs g7, bTrialsG K (a0 8) ((a0 9) 0) ((a0 10) 0) ((a0 11) 0) g8, bFairG K (a0 9) g9, bOrderG K (a0 10) g10, bOrderG K (a0 11) g11] ++ (fam 6 (fun j => bRuleG K (f0_rules j) (p0_rules0 j)) ++ []))) (List.flatten ([bNextStallG K (a0 0) (fun j => some (f0_rules j 0)) f0_images ((a0 1) 0) ((a0 2) 0) ((a0 3) 0) ((a0 7) 0) ((a0 8) 0) g0, bTapeG K (a0 1) g1, bCursorG K (a0 2) g2, bWorldG K (a0 3) ((a0 4) 0) ((a0 5) 0) ((a0 6) 0) g3, bFairG K (a0 4) g4, bFairG K (a0 5) g5, bNotesG K (a0 6) g6, bPastG K (a0 7) f7_fairs g7, bTrialsG K (a0 8) ((a0 9) 0) ((a0 10) 0) ((a0 11) 0) q.2.1, bFairG K (a0 9) q.2.2.1, bOrderG K (a0 10) g10, bOrderG K (a0 11) g11] ++ (fam 6 (fun j => bRuleG K (f0_rules j) (q.2.2.2 j)) ++ []))) (some (.int q.1)) := by
  refine rMet.of (by decide) rfl (Nat.le_of_ble_eq_true rfl) ?_
  refine r_sub (lv' := [(0, .ref ((a0 0) 0)), (1, .int x1), (2, .int x2)]) [0, 1, 2] rfl ?_
  unfold mNextStall_swaps at h
  refine r_aload_n 0 dX11_swaps_0 rfl ?_
  refine gNextStall_world 0 rfl (tb_in (i := 12) (j := 26) rfl rfl) dX11_swaps_1 ?_
  refine gWorld_openN 3 rfl (List.mem_of_getElem? (i := 50) rfl) dX11_swaps_4 ?_
  refine r_if_eq 29 dX11_swaps_7 (by decide) (fun c1 => ?_) (fun c1 => ?_)
  · replace h := it_pos c1 h
    refine r_iconst (x := (-1 : Int32)) dX11_swaps_29 (by decide) ?_
    have hq := Option.some.inj h
    subst hq
    exact r_iret rfl dX11_swaps_30
  · replace h := it_neg c1 h
    refine r_iload_n 1 dX11_swaps_10 rfl ?_
    refine r_iconst (x := (1 : Int32)) dX11_swaps_11 (by decide) ?_
    refine r_bipush (x := (40 : Int32)) dX11_swaps_12 (by decide) ?_
    obtain ⟨q2, h2, h⟩ := bd_some h
    refine b_callS (isC := []) (st := []) (bs1 := ([bNextStallG K (a0 0) (fun j => some (f0_rules j 0)) f0_images ((a0 1) 0) ((a0 2) 0) ((a0 3) 0) ((a0 7) 0) ((a0 8) 0) g0, bTapeG K (a0 1) g1, bCursorG K (a0 2) g2, bWorldG K (a0 3) ((a0 4) 0) ((a0 5) 0) ((a0 6) 0) g3, bFairG K (a0 4) g4, bFairG K (a0 5) g5, bNotesG K (a0 6) g6, bPastG K (a0 7) f7_fairs g7, bTrialsG K (a0 8) ((a0 9) 0) ((a0 10) 0) ((a0 11) 0) g8, bFairG K (a0 9) g9, bOrderG K (a0 10) g10, bOrderG K (a0 11) g11] ++ (fam 6 (fun j => bRuleG K (f0_rules j) (p0_rules0 j)) ++ []))) (cNextStall_within   h2) rfl rfl (Nat.le_of_ble_eq_true rfl) kNextStall_within (tb_in (i := 13) (j := 17) rfl rfl) (by decide) (by decide) rfl rfl rfl dX11_swaps_14 ?_
    refine r_if_eq 29 dX11_swaps_17 (by decide) (fun c3 => ?_) (fun c3 => ?_)
    · replace h := it_pos c3 h
      refine r_iconst (x := (-1 : Int32)) dX11_swaps_29 (by decide) ?_
      have hq := Option.some.inj h
      subst hq
      exact r_iret rfl dX11_swaps_30
    · replace h := it_neg c3 h
      refine r_iload_n 2 dX11_swaps_20 rfl ?_
      refine r_iconst (x := (0 : Int32)) dX11_swaps_21 (by decide) ?_
      refine r_iconst (x := (2 : Int32)) dX11_swaps_22 (by decide) ?_
      obtain ⟨q4, h4, h⟩ := bd_some h
      refine b_callS (isC := []) (st := []) (bs1 := ([bNextStallG K (a0 0) (fun j => some (f0_rules j 0)) f0_images ((a0 1) 0) ((a0 2) 0) ((a0 3) 0) ((a0 7) 0) ((a0 8) 0) g0, bTapeG K (a0 1) g1, bCursorG K (a0 2) g2, bWorldG K (a0 3) ((a0 4) 0) ((a0 5) 0) ((a0 6) 0) g3, bFairG K (a0 4) g4, bFairG K (a0 5) g5, bNotesG K (a0 6) g6, bPastG K (a0 7) f7_fairs g7, bTrialsG K (a0 8) ((a0 9) 0) ((a0 10) 0) ((a0 11) 0) g8, bFairG K (a0 9) g9, bOrderG K (a0 10) g10, bOrderG K (a0 11) g11] ++ (fam 6 (fun j => bRuleG K (f0_rules j) (p0_rules0 j)) ++ []))) (cNextStall_within   h4) rfl rfl (Nat.le_of_ble_eq_true rfl) kNextStall_within (tb_in (i := 13) (j := 17) rfl rfl) (by decide) (by decide) rfl rfl rfl dX11_swaps_23 ?_
      refine r_if_ne 31 dX11_swaps_26 (by decide) (fun c5 => ?_) (fun c5 => ?_)
      · replace h := it_neg c5 h
        refine r_aload_n 0 dX11_swaps_31 rfl ?_
        refine gNextStall_trials 0 rfl (tb_in (i := 13) (j := 4) rfl rfl) dX11_swaps_32 ?_
        refine r_aload_n 0 dX11_swaps_35 rfl ?_
        refine gNextStall_world 0 rfl (tb_in (i := 12) (j := 26) rfl rfl) dX11_swaps_36 ?_
        refine gWorld_nowN 3 rfl (List.mem_of_getElem? (i := 55) rfl) dX11_swaps_39 ?_
        refine r_aload_n 0 dX11_swaps_42 rfl ?_
        obtain ⟨q6, h6, h⟩ := bd_some h
        refine b_callV (isC := ([0, 1, 2, 3, 4, 5, 6, 7, 8, 9, 10, 11] ++ (List.range' 12 6 ++ []))) (ci := 9)  (st := [.ref ((a0 5) 0), .ref ((a0 8) 0)]) (bs1 := ([bNextStallG K (a0 0) (fun j => some (f0_rules j 0)) f0_images ((a0 1) 0) ((a0 2) 0) ((a0 3) 0) ((a0 7) 0) ((a0 8) 0) g0, bTapeG K (a0 1) g1, bCursorG K (a0 2) g2, bWorldG K (a0 3) ((a0 4) 0) ((a0 5) 0) ((a0 6) 0) g3, bFairG K (a0 4) g4, bFairG K (a0 5) g5, bNotesG K (a0 6) g6, bPastG K (a0 7) f7_fairs g7, bTrialsG K (a0 8) ((a0 9) 0) ((a0 10) 0) ((a0 11) 0) g8, bFairG K (a0 9) g9, bOrderG K (a0 10) g10, bOrderG K (a0 11) g11] ++ (fam 6 (fun j => bRuleG K (f0_rules j) (p0_rules0 j)) ++ []))) (cNextStall_ruleInForce (a0 := a0) (f0_rules := f0_rules) (g0 := g0) (g1 := g1) (g2 := g2) (g3 := g3) (g4 := g4) (g5 := g5) (g6 := g6) (g7 := g7) (g8 := g8) (g9 := g9) (g10 := g10) (g11 := g11) (p0_rules0 := p0_rules0) h6) rfl rfl (Nat.le_of_ble_eq_true rfl) kNextStall_ruleInForce (tb_in (i := 14) (j := 11) rfl rfl) (by decide) (by decide +kernel) (map_app rfl (map_app (map_f0 (n := 6) (l := [bNextStallG K (a0 0) (fun j => some (f0_rules j 0)) f0_images ((a0 1) 0) ((a0 2) 0) ((a0 3) 0) ((a0 7) 0) ((a0 8) 0) g0, bTapeG K (a0 1) g1, bCursorG K (a0 2) g2, bWorldG K (a0 3) ((a0 4) 0) ((a0 5) 0) ((a0 6) 0) g3, bFairG K (a0 4) g4, bFairG K (a0 5) g5, bNotesG K (a0 6) g6, bPastG K (a0 7) f7_fairs g7, bTrialsG K (a0 8) ((a0 9) 0) ((a0 10) 0) ((a0 11) 0) g8, bFairG K (a0 9) g9, bOrderG K (a0 10) g10, bOrderG K (a0 11) g11]) rfl) rfl)) (by simp only [List.length_append, fam_len, List.length_range', List.length_cons, List.length_nil]) (stm_a (bs1 := ([bNextStallG K (a0 0) (fun j => some (f0_rules j 0)) f0_images ((a0 1) 0) ((a0 2) 0) ((a0 3) 0) ((a0 7) 0) ((a0 8) 0) g0, bTapeG K (a0 1) g1, bCursorG K (a0 2) g2, bWorldG K (a0 3) ((a0 4) 0) ((a0 5) 0) ((a0 6) 0) g3, bFairG K (a0 4) g4, bFairG K (a0 5) g5, bNotesG K (a0 6) g6, bPastG K (a0 7) f7_fairs g7, bTrialsG K (a0 8) ((a0 9) 0) ((a0 10) 0) ((a0 11) 0) g8, bFairG K (a0 9) g9, bOrderG K (a0 10) g10, bOrderG K (a0 11) g11] ++ (fam 6 (fun j => bRuleG K (f0_rules j) (p0_rules0 j)) ++ []))) rfl rfl (stm_a (bs1 := ([bNextStallG K (a0 0) (fun j => some (f0_rules j 0)) f0_images ((a0 1) 0) ((a0 2) 0) ((a0 3) 0) ((a0 7) 0) ((a0 8) 0) g0, bTapeG K (a0 1) g1, bCursorG K (a0 2) g2, bWorldG K (a0 3) ((a0 4) 0) ((a0 5) 0) ((a0 6) 0) g3, bFairG K (a0 4) g4, bFairG K (a0 5) g5, bNotesG K (a0 6) g6, bPastG K (a0 7) f7_fairs g7, bTrialsG K (a0 8) ((a0 9) 0) ((a0 10) 0) ((a0 11) 0) g8, bFairG K (a0 9) g9, bOrderG K (a0 10) g10, bOrderG K (a0 11) g11] ++ (fam 6 (fun j => bRuleG K (f0_rules j) (p0_rules0 j)) ++ []))) (by rw [List.length_range', fam_len]) (stm_f0 (n := 6) (l := [bNextStallG K (a0 0) (fun j => some (f0_rules j 0)) f0_images ((a0 1) 0) ((a0 2) 0) ((a0 3) 0) ((a0 7) 0) ((a0 8) 0) g0, bTapeG K (a0 1) g1, bCursorG K (a0 2) g2, bWorldG K (a0 3) ((a0 4) 0) ((a0 5) 0) ((a0 6) 0) g3, bFairG K (a0 4) g4, bFairG K (a0 5) g5, bNotesG K (a0 6) g6, bPastG K (a0 7) f7_fairs g7, bTrialsG K (a0 8) ((a0 9) 0) ((a0 10) 0) ((a0 11) 0) g8, bFairG K (a0 9) g9, bOrderG K (a0 10) g10, bOrderG K (a0 11) g11]) rfl) rfl)) rfl rfl rfl rfl dX11_swaps_43 ?_
        cases q6 with
        | none =>
          replace h := mt_n h
          refine r_st (st' := [.null, .ref ((a0 5) 0), .ref ((a0 8) 0)]) rfl ?_
          refine r_iload_n 1 dX11_swaps_46 rfl ?_
          obtain ⟨q7, h7, h⟩ := bd_some h
          refine b_callVN (isC := [8, 9, 10, 11, 5]) (ci := 7)  (st := []) (bs1 := ([bNextStallG K (a0 0) (fun j => some (f0_rules j 0)) f0_images ((a0 1) 0) ((a0 2) 0) ((a0 3) 0) ((a0 7) 0) ((a0 8) 0) g0, bTapeG K (a0 1) g1, bCursorG K (a0 2) g2, bWorldG K (a0 3) ((a0 4) 0) ((a0 5) 0) ((a0 6) 0) g3, bFairG K (a0 4) g4, bFairG K (a0 5) g5, bNotesG K (a0 6) g6, bPastG K (a0 7) f7_fairs g7, bTrialsG K (a0 8) ((a0 9) 0) ((a0 10) 0) ((a0 11) 0) q7.1, bFairG K (a0 9) q7.2, bOrderG K (a0 10) g10, bOrderG K (a0 11) g11] ++ (fam 6 (fun j => bRuleG K (f0_rules j) (p0_rules0 j)) ++ []))) (cTrials_findSwapsrn (a0 := fun b => a0 (8 + b)) (a1 := (a0 5)) (g0 := g8) (g1 := g9) (g2 := g10) (g3 := g11) (g4 := g5) h7) rfl rfl (Nat.le_of_ble_eq_true rfl) kTrials_findSwapsrn (List.mem_of_getElem? (i := 71) rfl) (by decide) (by decide) rfl rfl rfl rfl rfl rfl rfl dX11_swaps_47 ?_
          refine r_aload_n 0 dX11_swaps_50 rfl ?_
          refine gNextStall_trials 0 rfl (tb_in (i := 13) (j := 4) rfl rfl) dX11_swaps_51 ?_
          refine gTrials_foundN 8 rfl (List.mem_of_getElem? (i := 63) rfl) dX11_swaps_54 ?_
          refine r_iload_n 2 dX11_swaps_57 rfl ?_
          obtain ⟨h8, h⟩ := rq_some h
          refine lTrials_found 8 rfl (inb_in h8) dX11_swaps_58 ?_
          have hq := Option.some.inj h
          subst hq
          exact r_iret rfl dX11_swaps_59
        | some j6 =>
          replace h := mt_s h
          obtain ⟨hg6, h⟩ := rq_some h
          have hj6 := of_decide_eq_true hg6
          refine r_st (st' := [.ref (f0_rules j6 0), .ref ((a0 5) 0), .ref ((a0 8) 0)]) rfl ?_
          refine r_iload_n 1 dX11_swaps_46 rfl ?_
          obtain ⟨q9, h9, h⟩ := bd_some h
          refine b_callVN (isC := [8, 9, 10, 11, 5, 12 + j6]) (ci := 7)  (st := []) (bs1 := ([bNextStallG K (a0 0) (fun j => some (f0_rules j 0)) f0_images ((a0 1) 0) ((a0 2) 0) ((a0 3) 0) ((a0 7) 0) ((a0 8) 0) g0, bTapeG K (a0 1) g1, bCursorG K (a0 2) g2, bWorldG K (a0 3) ((a0 4) 0) ((a0 5) 0) ((a0 6) 0) g3, bFairG K (a0 4) g4, bFairG K (a0 5) g5, bNotesG K (a0 6) g6, bPastG K (a0 7) f7_fairs g7, bTrialsG K (a0 8) ((a0 9) 0) ((a0 10) 0) ((a0 11) 0) q9.1, bFairG K (a0 9) q9.2.1, bOrderG K (a0 10) g10, bOrderG K (a0 11) g11] ++ (fam 6 (fun j => bRuleG K (f0_rules j) ((va_up p0_rules0 j6 q9.2.2) j)) ++ []))) (cTrials_findSwapsrr (a0 := fun b => a0 (8 + b)) (a1 := (a0 5)) (a2 := f0_rules j6) (g0 := g8) (g1 := g9) (g2 := g10) (g3 := g11) (g4 := g5) (g5 := (p0_rules0 j6)) h9) rfl rfl (Nat.le_of_ble_eq_true rfl) kTrials_findSwapsrr (List.mem_of_getElem? (i := 71) rfl) (by decide) (by simp only [List.nodup_cons, List.mem_cons, List.not_mem_nil, or_false, not_or, List.nodup_nil, not_false_eq_true, and_true]; omega) (map_s (rfl) (map_s (rfl) (map_s (rfl) (map_s (rfl) (map_s (rfl) (map_s (fq0 (B := fun j g => bRuleG K (f0_rules j) g) (l := [bNextStallG K (a0 0) (fun j => some (f0_rules j 0)) f0_images ((a0 1) 0) ((a0 2) 0) ((a0 3) 0) ((a0 7) 0) ((a0 8) 0) g0, bTapeG K (a0 1) g1, bCursorG K (a0 2) g2, bWorldG K (a0 3) ((a0 4) 0) ((a0 5) 0) ((a0 6) 0) g3, bFairG K (a0 4) g4, bFairG K (a0 5) g5, bNotesG K (a0 6) g6, bPastG K (a0 7) f7_fairs g7, bTrialsG K (a0 8) ((a0 9) 0) ((a0 10) 0) ((a0 11) 0) g8, bFairG K (a0 9) g9, bOrderG K (a0 10) g10, bOrderG K (a0 11) g11]) rfl hj6) map_n)))))) rfl (stm_s (bs1 := ([bNextStallG K (a0 0) (fun j => some (f0_rules j 0)) f0_images ((a0 1) 0) ((a0 2) 0) ((a0 3) 0) ((a0 7) 0) ((a0 8) 0) g0, bTapeG K (a0 1) g1, bCursorG K (a0 2) g2, bWorldG K (a0 3) ((a0 4) 0) ((a0 5) 0) ((a0 6) 0) g3, bFairG K (a0 4) g4, bFairG K (a0 5) g5, bNotesG K (a0 6) g6, bPastG K (a0 7) f7_fairs g7, bTrialsG K (a0 8) ((a0 9) 0) ((a0 10) 0) ((a0 11) 0) q9.1, bFairG K (a0 9) g9, bOrderG K (a0 10) g10, bOrderG K (a0 11) g11] ++ (fam 6 (fun j => bRuleG K (f0_rules j) (p0_rules0 j)) ++ []))) (rfl) (stm_s (bs1 := ([bNextStallG K (a0 0) (fun j => some (f0_rules j 0)) f0_images ((a0 1) 0) ((a0 2) 0) ((a0 3) 0) ((a0 7) 0) ((a0 8) 0) g0, bTapeG K (a0 1) g1, bCursorG K (a0 2) g2, bWorldG K (a0 3) ((a0 4) 0) ((a0 5) 0) ((a0 6) 0) g3, bFairG K (a0 4) g4, bFairG K (a0 5) g5, bNotesG K (a0 6) g6, bPastG K (a0 7) f7_fairs g7, bTrialsG K (a0 8) ((a0 9) 0) ((a0 10) 0) ((a0 11) 0) q9.1, bFairG K (a0 9) q9.2.1, bOrderG K (a0 10) g10, bOrderG K (a0 11) g11] ++ (fam 6 (fun j => bRuleG K (f0_rules j) (p0_rules0 j)) ++ []))) (rfl) (stm_s (bs1 := ([bNextStallG K (a0 0) (fun j => some (f0_rules j 0)) f0_images ((a0 1) 0) ((a0 2) 0) ((a0 3) 0) ((a0 7) 0) ((a0 8) 0) g0, bTapeG K (a0 1) g1, bCursorG K (a0 2) g2, bWorldG K (a0 3) ((a0 4) 0) ((a0 5) 0) ((a0 6) 0) g3, bFairG K (a0 4) g4, bFairG K (a0 5) g5, bNotesG K (a0 6) g6, bPastG K (a0 7) f7_fairs g7, bTrialsG K (a0 8) ((a0 9) 0) ((a0 10) 0) ((a0 11) 0) q9.1, bFairG K (a0 9) q9.2.1, bOrderG K (a0 10) g10, bOrderG K (a0 11) g11] ++ (fam 6 (fun j => bRuleG K (f0_rules j) (p0_rules0 j)) ++ []))) (rfl) (stm_s (bs1 := ([bNextStallG K (a0 0) (fun j => some (f0_rules j 0)) f0_images ((a0 1) 0) ((a0 2) 0) ((a0 3) 0) ((a0 7) 0) ((a0 8) 0) g0, bTapeG K (a0 1) g1, bCursorG K (a0 2) g2, bWorldG K (a0 3) ((a0 4) 0) ((a0 5) 0) ((a0 6) 0) g3, bFairG K (a0 4) g4, bFairG K (a0 5) g5, bNotesG K (a0 6) g6, bPastG K (a0 7) f7_fairs g7, bTrialsG K (a0 8) ((a0 9) 0) ((a0 10) 0) ((a0 11) 0) q9.1, bFairG K (a0 9) q9.2.1, bOrderG K (a0 10) g10, bOrderG K (a0 11) g11] ++ (fam 6 (fun j => bRuleG K (f0_rules j) (p0_rules0 j)) ++ []))) (rfl) (stm_s (bs1 := ([bNextStallG K (a0 0) (fun j => some (f0_rules j 0)) f0_images ((a0 1) 0) ((a0 2) 0) ((a0 3) 0) ((a0 7) 0) ((a0 8) 0) g0, bTapeG K (a0 1) g1, bCursorG K (a0 2) g2, bWorldG K (a0 3) ((a0 4) 0) ((a0 5) 0) ((a0 6) 0) g3, bFairG K (a0 4) g4, bFairG K (a0 5) g5, bNotesG K (a0 6) g6, bPastG K (a0 7) f7_fairs g7, bTrialsG K (a0 8) ((a0 9) 0) ((a0 10) 0) ((a0 11) 0) q9.1, bFairG K (a0 9) q9.2.1, bOrderG K (a0 10) g10, bOrderG K (a0 11) g11] ++ (fam 6 (fun j => bRuleG K (f0_rules j) (p0_rules0 j)) ++ []))) (rfl) (stm_s (bs1 := ([bNextStallG K (a0 0) (fun j => some (f0_rules j 0)) f0_images ((a0 1) 0) ((a0 2) 0) ((a0 3) 0) ((a0 7) 0) ((a0 8) 0) g0, bTapeG K (a0 1) g1, bCursorG K (a0 2) g2, bWorldG K (a0 3) ((a0 4) 0) ((a0 5) 0) ((a0 6) 0) g3, bFairG K (a0 4) g4, bFairG K (a0 5) g5, bNotesG K (a0 6) g6, bPastG K (a0 7) f7_fairs g7, bTrialsG K (a0 8) ((a0 9) 0) ((a0 10) 0) ((a0 11) 0) q9.1, bFairG K (a0 9) q9.2.1, bOrderG K (a0 10) g10, bOrderG K (a0 11) g11] ++ (fam 6 (fun j => bRuleG K (f0_rules j) ((va_up p0_rules0 j6 q9.2.2) j)) ++ []))) (fs0 (B := fun j g => bRuleG K (f0_rules j) g) (g := q9.2.2) (l := [bNextStallG K (a0 0) (fun j => some (f0_rules j 0)) f0_images ((a0 1) 0) ((a0 2) 0) ((a0 3) 0) ((a0 7) 0) ((a0 8) 0) g0, bTapeG K (a0 1) g1, bCursorG K (a0 2) g2, bWorldG K (a0 3) ((a0 4) 0) ((a0 5) 0) ((a0 6) 0) g3, bFairG K (a0 4) g4, bFairG K (a0 5) g5, bNotesG K (a0 6) g6, bPastG K (a0 7) f7_fairs g7, bTrialsG K (a0 8) ((a0 9) 0) ((a0 10) 0) ((a0 11) 0) q9.1, bFairG K (a0 9) q9.2.1, bOrderG K (a0 10) g10, bOrderG K (a0 11) g11]) rfl hj6) stm_n)))))) rfl rfl rfl rfl dX11_swaps_47 ?_
          refine r_aload_n 0 dX11_swaps_50 rfl ?_
          refine gNextStall_trials 0 rfl (tb_in (i := 13) (j := 4) rfl rfl) dX11_swaps_51 ?_
          refine gTrials_foundN 8 rfl (List.mem_of_getElem? (i := 63) rfl) dX11_swaps_54 ?_
          refine r_iload_n 2 dX11_swaps_57 rfl ?_
          obtain ⟨h10, h⟩ := rq_some h
          refine lTrials_found 8 rfl (inb_in h10) dX11_swaps_58 ?_
          have hq := Option.some.inj h
          subst hq
          exact r_iret rfl dX11_swaps_59
      · replace h := it_pos c5 h
        refine r_iconst (x := (-1 : Int32)) dX11_swaps_29 (by decide) ?_
        have hq := Option.some.inj h
        subst hq
        exact r_iret rfl dX11_swaps_30
end
theorem dX11_pence_0 : decode cX11_pence 0 = .ok (.aload_n 0, 1) := by decide +kernel
theorem dX11_pence_1 : decode cX11_pence 1 = .ok (.iload_n 2, 1) := by decide +kernel
theorem dX11_pence_2 : decode cX11_pence 2 = .ok (.invokevirtual 115, 3) := by decide +kernel
theorem dX11_pence_5 : decode cX11_pence 5 = .ok (.ifCond .eq 14, 3) := by decide +kernel
theorem dX11_pence_8 : decode cX11_pence 8 = .ok (.iload_n 1, 1) := by decide +kernel
theorem dX11_pence_9 : decode cX11_pence 9 = .ok (.iconst 0, 1) := by decide +kernel
theorem dX11_pence_10 : decode cX11_pence 10 = .ok (.sipush 9999, 3) := by decide +kernel
theorem dX11_pence_13 : decode cX11_pence 13 = .ok (.invokestatic 70, 3) := by decide +kernel
theorem dX11_pence_16 : decode cX11_pence 16 = .ok (.ifCond .ne 5, 3) := by decide +kernel
theorem dX11_pence_19 : decode cX11_pence 19 = .ok (.iconst (-1), 1) := by decide +kernel
theorem dX11_pence_20 : decode cX11_pence 20 = .ok (.ireturn, 1) := by decide +kernel
theorem dX11_pence_21 : decode cX11_pence 21 = .ok (.aload_n 0, 1) := by decide +kernel
theorem dX11_pence_22 : decode cX11_pence 22 = .ok (.getfield 36, 3) := by decide +kernel
theorem dX11_pence_25 : decode cX11_pence 25 = .ok (.getfield 119, 3) := by decide +kernel
theorem dX11_pence_28 : decode cX11_pence 28 = .ok (.iload_n 1, 1) := by decide +kernel
theorem dX11_pence_29 : decode cX11_pence 29 = .ok (.iload_n 2, 1) := by decide +kernel
theorem dX11_pence_30 : decode cX11_pence 30 = .ok (.invokevirtual 250, 3) := by decide +kernel
theorem dX11_pence_33 : decode cX11_pence 33 = .ok (.ireturn, 1) := by decide +kernel
abbrev MNextStall_pence : rx_M := (RX11, yX11_pence, cX11_pence, 3, (some .int), 3)
theorem kNextStall_pence : rKv MNextStall_pence 2 := ⟨tb_in (i := 35) (j := 7) rfl rfl, tb_in (i := 35) (j := 8) rfl rfl, tb_in (i := 2) (j := 22) rfl rfl, tb_in (i := 15) (j := 27) rfl rfl, ⟨by decide, by decide, by decide +kernel⟩, by decide⟩
section
variable {a0 : Nat → Nat → Nat} {g0 : tyNextStall} {g1 : tyTape} {g2 : tyCursor} {g3 : tyWorld} {g4 : tyFair} {g5 : tyFair} {g6 : tyNotes} {g7 : tyPast} {g8 : tyTrials} {g9 : tyFair} {g10 : tyOrder} {g11 : tyOrder} {f0_rules : Nat → Option Nat} {f0_images : Nat → Option Nat} {f7_fairs : Nat → Option Nat}
def mNextStall_pence (x1 : Int32) (x2 : Int32) (g5 : tyFair) : Option (Int32) := (mNextStall_isStall x2 g5).bind (fun q1 => (if q1 = 0 then some ((-1 : Int32)) else (mNextStall_within x1 (0 : Int32) (9999 : Int32)).bind (fun q3 => (if q3 = 0 then some ((-1 : Int32)) else (mFair_partOf x1 x2 g5.2.2.1 g5.2.2.2.2.2.2.2.2.2.1).bind (fun q5 => some (q5))))))
set_option maxHeartbeats 4000000 in
set_option maxRecDepth 20000 in
theorem cNextStall_pence {q : Int32} {x1 : Int32} {x2 : Int32} (h : mNextStall_pence x1 x2 g5 = some q) : rMet l D Z (ty7 K) MNextStall_pence [.ref ((a0 0) 0), .int x1, .int x2] (List.flatten [bNextStallG K (a0 0) f0_rules f0_images ((a0 1) 0) ((a0 2) 0) ((a0 3) 0) ((a0 7) 0) ((a0 8) 0) g0, bTapeG K (a0 1) g1, bCursorG K (a0 2) g2, bWorldG K (a0 3) ((a0 4) 0) ((a0 5) 0) ((a0 6) 0) g3, bFairG K (a0 4) g4, bFairG K (a0 5) g5, bNotesG K (a0 6) g6, bPastG K (a0 7) f7_fairs g7, bTrialsG K (a0 8) ((a0 9) 0) ((a0 10) 0) ((a0 11) 0) g8, bFairG K (a0 9) g9, bOrderG K (a0 10) g10, bOrderG K (a0 11) g11]) (List.flatten [bNextStallG K (a0 0) f0_rules f0_images ((a0 1) 0) ((a0 2) 0) ((a0 3) 0) ((a0 7) 0) ((a0 8) 0) g0, bTapeG K (a0 1) g1, bCursorG K (a0 2) g2, bWorldG K (a0 3) ((a0 4) 0) ((a0 5) 0) ((a0 6) 0) g3, bFairG K (a0 4) g4, bFairG K (a0 5) g5, bNotesG K (a0 6) g6, bPastG K (a0 7) f7_fairs g7, bTrialsG K (a0 8) ((a0 9) 0) ((a0 10) 0) ((a0 11) 0) g8, bFairG K (a0 9) g9, bOrderG K (a0 10) g10, bOrderG K (a0 11) g11]) (some (.int q)) := by
  refine rMet.of (by decide) rfl (Nat.le_of_ble_eq_true rfl) ?_
  refine r_sub (lv' := [(0, .ref ((a0 0) 0)), (1, .int x1), (2, .int x2)]) [0, 1, 2] rfl ?_
  unfold mNextStall_pence at h
  refine r_aload_n 0 dX11_pence_0 rfl ?_
  refine r_iload_n 2 dX11_pence_1 rfl ?_
  obtain ⟨q1, h1, h⟩ := bd_some h
  refine b_callV (isC := [0, 1, 2, 3, 4, 5, 6, 7, 8, 9, 10, 11]) (ci := 9)  (st := []) (bs1 := [bNextStallG K (a0 0) f0_rules f0_images ((a0 1) 0) ((a0 2) 0) ((a0 3) 0) ((a0 7) 0) ((a0 8) 0) g0, bTapeG K (a0 1) g1, bCursorG K (a0 2) g2, bWorldG K (a0 3) ((a0 4) 0) ((a0 5) 0) ((a0 6) 0) g3, bFairG K (a0 4) g4, bFairG K (a0 5) g5, bNotesG K (a0 6) g6, bPastG K (a0 7) f7_fairs g7, bTrialsG K (a0 8) ((a0 9) 0) ((a0 10) 0) ((a0 11) 0) g8, bFairG K (a0 9) g9, bOrderG K (a0 10) g10, bOrderG K (a0 11) g11]) (cNextStall_isStall (a0 := a0) (g0 := g0) (g1 := g1) (g2 := g2) (g3 := g3) (g4 := g4) (g5 := g5) (g6 := g6) (g7 := g7) (g8 := g8) (g9 := g9) (g10 := g10) (g11 := g11) h1) rfl rfl (Nat.le_of_ble_eq_true rfl) kNextStall_isStall (tb_in (i := 13) (j := 31) rfl rfl) (by decide) (by decide) rfl rfl rfl rfl rfl rfl rfl dX11_pence_2 ?_
  refine r_if_eq 19 dX11_pence_5 (by decide) (fun c2 => ?_) (fun c2 => ?_)
  · replace h := it_pos c2 h
    refine r_iconst (x := (-1 : Int32)) dX11_pence_19 (by decide) ?_
    have hq := Option.some.inj h
    subst hq
    exact r_iret rfl dX11_pence_20
  · replace h := it_neg c2 h
    refine r_iload_n 1 dX11_pence_8 rfl ?_
    refine r_iconst (x := (0 : Int32)) dX11_pence_9 (by decide) ?_
    refine r_sipush (x := (9999 : Int32)) dX11_pence_10 (by decide) ?_
    obtain ⟨q3, h3, h⟩ := bd_some h
    refine b_callS (isC := []) (st := []) (bs1 := [bNextStallG K (a0 0) f0_rules f0_images ((a0 1) 0) ((a0 2) 0) ((a0 3) 0) ((a0 7) 0) ((a0 8) 0) g0, bTapeG K (a0 1) g1, bCursorG K (a0 2) g2, bWorldG K (a0 3) ((a0 4) 0) ((a0 5) 0) ((a0 6) 0) g3, bFairG K (a0 4) g4, bFairG K (a0 5) g5, bNotesG K (a0 6) g6, bPastG K (a0 7) f7_fairs g7, bTrialsG K (a0 8) ((a0 9) 0) ((a0 10) 0) ((a0 11) 0) g8, bFairG K (a0 9) g9, bOrderG K (a0 10) g10, bOrderG K (a0 11) g11]) (cNextStall_within   h3) rfl rfl (Nat.le_of_ble_eq_true rfl) kNextStall_within (tb_in (i := 13) (j := 17) rfl rfl) (by decide) (by decide) rfl rfl rfl dX11_pence_13 ?_
    refine r_if_ne 21 dX11_pence_16 (by decide) (fun c4 => ?_) (fun c4 => ?_)
    · replace h := it_neg c4 h
      refine r_aload_n 0 dX11_pence_21 rfl ?_
      refine gNextStall_world 0 rfl (tb_in (i := 12) (j := 26) rfl rfl) dX11_pence_22 ?_
      refine gWorld_nowN 3 rfl (List.mem_of_getElem? (i := 55) rfl) dX11_pence_25 ?_
      refine r_iload_n 1 dX11_pence_28 rfl ?_
      refine r_iload_n 2 dX11_pence_29 rfl ?_
      obtain ⟨q5, h5, h⟩ := bd_some h
      refine b_callVN (isC := [5]) (ci := 1)  (st := []) (bs1 := [bNextStallG K (a0 0) f0_rules f0_images ((a0 1) 0) ((a0 2) 0) ((a0 3) 0) ((a0 7) 0) ((a0 8) 0) g0, bTapeG K (a0 1) g1, bCursorG K (a0 2) g2, bWorldG K (a0 3) ((a0 4) 0) ((a0 5) 0) ((a0 6) 0) g3, bFairG K (a0 4) g4, bFairG K (a0 5) g5, bNotesG K (a0 6) g6, bPastG K (a0 7) f7_fairs g7, bTrialsG K (a0 8) ((a0 9) 0) ((a0 10) 0) ((a0 11) 0) g8, bFairG K (a0 9) g9, bOrderG K (a0 10) g10, bOrderG K (a0 11) g11]) (cFair_partOf (a0 := (a0 5)) (z0_lasts := g5.1) (z0_keeps := g5.2.1) (z0_stalls := g5.2.2.1) (z0_buyers := g5.2.2.2.1) (z0_minute := g5.2.2.2.2.1) (z0_goods := g5.2.2.2.2.2.1) (z0_price := g5.2.2.2.2.2.2.1) (z0_tongue := g5.2.2.2.2.2.2.2.1) (z0_till := g5.2.2.2.2.2.2.2.2.1) (z0_wealth := g5.2.2.2.2.2.2.2.2.2.1) (z0_sold := g5.2.2.2.2.2.2.2.2.2.2.1) (z0_ring := g5.2.2.2.2.2.2.2.2.2.2.2.1) (z0_grudges := g5.2.2.2.2.2.2.2.2.2.2.2.2.1) (z0_purse := g5.2.2.2.2.2.2.2.2.2.2.2.2.2.1) (z0_came := g5.2.2.2.2.2.2.2.2.2.2.2.2.2.2.1) (z0_had := g5.2.2.2.2.2.2.2.2.2.2.2.2.2.2.2.1) (z0_seller := g5.2.2.2.2.2.2.2.2.2.2.2.2.2.2.2.2.1) (z0_praise := g5.2.2.2.2.2.2.2.2.2.2.2.2.2.2.2.2.2.1) (z0_borne := g5.2.2.2.2.2.2.2.2.2.2.2.2.2.2.2.2.2.2) h5) rfl rfl (Nat.le_of_ble_eq_true rfl) kFair_partOf (List.mem_of_getElem? (i := 73) rfl) (by decide) (by decide) rfl rfl rfl rfl rfl rfl rfl dX11_pence_30 ?_
      have hq := Option.some.inj h
      subst hq
      exact r_iret rfl dX11_pence_33
    · replace h := it_pos c4 h
      refine r_iconst (x := (-1 : Int32)) dX11_pence_19 (by decide) ?_
      have hq := Option.some.inj h
      subst hq
      exact r_iret rfl dX11_pence_20
end
theorem dX11_note_0 : decode cX11_note 0 = .ok (.iload_n 1, 1) := by decide +kernel
theorem dX11_note_1 : decode cX11_note 1 = .ok (.iconst (-1), 1) := by decide +kernel
theorem dX11_note_2 : decode cX11_note 2 = .ok (.if_icmp .ne 16, 3) := by decide +kernel
theorem dX11_note_5 : decode cX11_note 5 = .ok (.aload_n 0, 1) := by decide +kernel
theorem dX11_note_6 : decode cX11_note 6 = .ok (.getfield 36, 3) := by decide +kernel
theorem dX11_note_9 : decode cX11_note 9 = .ok (.getfield 253, 3) := by decide +kernel
theorem dX11_note_12 : decode cX11_note 12 = .ok (.iconst 0, 1) := by decide +kernel
theorem dX11_note_13 : decode cX11_note 13 = .ok (.putfield 257, 3) := by decide +kernel
theorem dX11_note_16 : decode cX11_note 16 = .ok (.iconst 0, 1) := by decide +kernel
theorem dX11_note_17 : decode cX11_note 17 = .ok (.ireturn, 1) := by decide +kernel
theorem dX11_note_18 : decode cX11_note 18 = .ok (.iload_n 1, 1) := by decide +kernel
theorem dX11_note_19 : decode cX11_note 19 = .ok (.iconst 0, 1) := by decide +kernel
theorem dX11_note_20 : decode cX11_note 20 = .ok (.bipush 60, 2) := by decide +kernel
theorem dX11_note_22 : decode cX11_note 22 = .ok (.invokestatic 70, 3) := by decide +kernel
theorem dX11_note_25 : decode cX11_note 25 = .ok (.ifCond .eq 37, 3) := by decide +kernel
theorem dX11_note_28 : decode cX11_note 28 = .ok (.aload_n 0, 1) := by decide +kernel
theorem dX11_note_29 : decode cX11_note 29 = .ok (.iload_n 2, 1) := by decide +kernel
theorem dX11_note_30 : decode cX11_note 30 = .ok (.invokevirtual 115, 3) := by decide +kernel
theorem dX11_note_33 : decode cX11_note 33 = .ok (.ifCond .eq 29, 3) := by decide +kernel
theorem dX11_note_36 : decode cX11_note 36 = .ok (.iload_n 3, 1) := by decide +kernel
theorem dX11_note_37 : decode cX11_note 37 = .ok (.iconst 0, 1) := by decide +kernel
theorem dX11_note_38 : decode cX11_note 38 = .ok (.sipush 9999, 3) := by decide +kernel
theorem dX11_note_41 : decode cX11_note 41 = .ok (.invokestatic 70, 3) := by decide +kernel
theorem dX11_note_44 : decode cX11_note 44 = .ok (.ifCond .eq 18, 3) := by decide +kernel
theorem dX11_note_47 : decode cX11_note 47 = .ok (.aload_n 0, 1) := by decide +kernel
theorem dX11_note_48 : decode cX11_note 48 = .ok (.getfield 36, 3) := by decide +kernel
theorem dX11_note_51 : decode cX11_note 51 = .ok (.getfield 253, 3) := by decide +kernel
theorem dX11_note_54 : decode cX11_note 54 = .ok (.getfield 257, 3) := by decide +kernel
theorem dX11_note_57 : decode cX11_note 57 = .ok (.bipush 10, 2) := by decide +kernel
theorem dX11_note_59 : decode cX11_note 59 = .ok (.if_icmp .lt 6, 3) := by decide +kernel
theorem dX11_note_62 : decode cX11_note 62 = .ok (.bipush (-2), 2) := by decide +kernel
theorem dX11_note_64 : decode cX11_note 64 = .ok (.ireturn, 1) := by decide +kernel
theorem dX11_note_65 : decode cX11_note 65 = .ok (.aload_n 0, 1) := by decide +kernel
theorem dX11_note_66 : decode cX11_note 66 = .ok (.getfield 36, 3) := by decide +kernel
theorem dX11_note_69 : decode cX11_note 69 = .ok (.getfield 253, 3) := by decide +kernel
theorem dX11_note_72 : decode cX11_note 72 = .ok (.iload_n 1, 1) := by decide +kernel
theorem dX11_note_73 : decode cX11_note 73 = .ok (.iload_n 2, 1) := by decide +kernel
theorem dX11_note_74 : decode cX11_note 74 = .ok (.iload_n 3, 1) := by decide +kernel
theorem dX11_note_75 : decode cX11_note 75 = .ok (.invokevirtual 260, 3) := by decide +kernel
theorem dX11_note_78 : decode cX11_note 78 = .ok (.aload_n 0, 1) := by decide +kernel
theorem dX11_note_79 : decode cX11_note 79 = .ok (.getfield 36, 3) := by decide +kernel
theorem dX11_note_82 : decode cX11_note 82 = .ok (.getfield 253, 3) := by decide +kernel
theorem dX11_note_85 : decode cX11_note 85 = .ok (.getfield 257, 3) := by decide +kernel
theorem dX11_note_88 : decode cX11_note 88 = .ok (.ireturn, 1) := by decide +kernel
abbrev MNextStall_note : rx_M := (RX11, yX11_note, cX11_note, 4, (some .int), 3)
theorem kNextStall_note : rKv MNextStall_note 3 := ⟨tb_in (i := 35) (j := 13) rfl rfl, tb_in (i := 35) (j := 14) rfl rfl, tb_in (i := 2) (j := 22) rfl rfl, tb_in (i := 15) (j := 30) rfl rfl, ⟨by decide, by decide, by decide +kernel⟩, by decide⟩
section
variable {a0 : Nat → Nat → Nat} {g0 : tyNextStall} {g1 : tyTape} {g2 : tyCursor} {g3 : tyWorld} {g4 : tyFair} {g5 : tyFair} {g6 : tyNotes} {g7 : tyPast} {g8 : tyTrials} {g9 : tyFair} {g10 : tyOrder} {g11 : tyOrder} {f0_rules : Nat → Option Nat} {f0_images : Nat → Option Nat} {f7_fairs : Nat → Option Nat}
def mNextStall_note (x1 : Int32) (x2 : Int32) (x3 : Int32) (g5 : tyFair) (g6 : tyNotes) : Option (Int32 × tyNotes) := (if x1 = (-1 : Int32) then some ((0 : Int32), (g6.1, g6.2.1, g6.2.2.1, (0 : Int32))) else (mNextStall_within x1 (0 : Int32) (60 : Int32)).bind (fun q2 => (if q2 = 0 then some ((-2 : Int32), g6) else (mNextStall_isStall x2 g5).bind (fun q4 => (if q4 = 0 then some ((-2 : Int32), g6) else (mNextStall_within x3 (0 : Int32) (9999 : Int32)).bind (fun q6 => (if q6 = 0 then some ((-2 : Int32), g6) else (if g6.2.2.2 < (10 : Int32) then (mNotes_add x1 x2 x3 g6).bind (fun q9 => some (q9.2.2.2, q9)) else some ((-2 : Int32), g6)))))))))
set_option maxHeartbeats 4000000 in
set_option maxRecDepth 20000 in
theorem cNextStall_note {q : Int32 × tyNotes} {x1 : Int32} {x2 : Int32} {x3 : Int32} (h : mNextStall_note x1 x2 x3 g5 g6 = some q) : rMet l D Z (ty7 K) MNextStall_note [.ref ((a0 0) 0), .int x1, .int x2, .int x3] (List.flatten [bNextStallG K (a0 0) f0_rules f0_images ((a0 1) 0) ((a0 2) 0) ((a0 3) 0) ((a0 7) 0) ((a0 8) 0) g0, bTapeG K (a0 1) g1, bCursorG K (a0 2) g2, bWorldG K (a0 3) ((a0 4) 0) ((a0 5) 0) ((a0 6) 0) g3, bFairG K (a0 4) g4, bFairG K (a0 5) g5, bNotesG K (a0 6) g6, bPastG K (a0 7) f7_fairs g7, bTrialsG K (a0 8) ((a0 9) 0) ((a0 10) 0) ((a0 11) 0) g8, bFairG K (a0 9) g9, bOrderG K (a0 10) g10, bOrderG K (a0 11) g11]) (List.flatten [bNextStallG K (a0 0) f0_rules f0_images ((a0 1) 0) ((a0 2) 0) ((a0 3) 0) ((a0 7) 0) ((a0 8) 0) g0, bTapeG K (a0 1) g1, bCursorG K (a0 2) g2, bWorldG K (a0 3) ((a0 4) 0) ((a0 5) 0) ((a0 6) 0) g3, bFairG K (a0 4) g4, bFairG K (a0 5) g5, bNotesG K (a0 6) q.2, bPastG K (a0 7) f7_fairs g7, bTrialsG K (a0 8) ((a0 9) 0) ((a0 10) 0) ((a0 11) 0) g8, bFairG K (a0 9) g9, bOrderG K (a0 10) g10, bOrderG K (a0 11) g11]) (some (.int q.1)) := by
  refine rMet.of (by decide) rfl (Nat.le_of_ble_eq_true rfl) ?_
  refine r_sub (lv' := [(0, .ref ((a0 0) 0)), (1, .int x1), (2, .int x2), (3, .int x3)]) [0, 1, 2, 3] rfl ?_
  unfold mNextStall_note at h
  refine r_iload_n 1 dX11_note_0 rfl ?_
  refine r_iconst (x := (-1 : Int32)) dX11_note_1 (by decide) ?_
  refine r_icmp_ne 18 dX11_note_2 (by decide) (fun c1 => ?_) (fun c1 => ?_)
  · replace h := it_neg c1 h
    refine r_iload_n 1 dX11_note_18 rfl ?_
    refine r_iconst (x := (0 : Int32)) dX11_note_19 (by decide) ?_
    refine r_bipush (x := (60 : Int32)) dX11_note_20 (by decide) ?_
    obtain ⟨q2, h2, h⟩ := bd_some h
    refine b_callS (isC := []) (st := []) (bs1 := [bNextStallG K (a0 0) f0_rules f0_images ((a0 1) 0) ((a0 2) 0) ((a0 3) 0) ((a0 7) 0) ((a0 8) 0) g0, bTapeG K (a0 1) g1, bCursorG K (a0 2) g2, bWorldG K (a0 3) ((a0 4) 0) ((a0 5) 0) ((a0 6) 0) g3, bFairG K (a0 4) g4, bFairG K (a0 5) g5, bNotesG K (a0 6) g6, bPastG K (a0 7) f7_fairs g7, bTrialsG K (a0 8) ((a0 9) 0) ((a0 10) 0) ((a0 11) 0) g8, bFairG K (a0 9) g9, bOrderG K (a0 10) g10, bOrderG K (a0 11) g11]) (cNextStall_within   h2) rfl rfl (Nat.le_of_ble_eq_true rfl) kNextStall_within (tb_in (i := 13) (j := 17) rfl rfl) (by decide) (by decide) rfl rfl rfl dX11_note_22 ?_
    refine r_if_eq 62 dX11_note_25 (by decide) (fun c3 => ?_) (fun c3 => ?_)
    · replace h := it_pos c3 h
      refine r_bipush (x := (-2 : Int32)) dX11_note_62 (by decide) ?_
      have hq := Option.some.inj h
      subst hq
      exact r_iret rfl dX11_note_64
    · replace h := it_neg c3 h
      refine r_aload_n 0 dX11_note_28 rfl ?_
      refine r_iload_n 2 dX11_note_29 rfl ?_
      obtain ⟨q4, h4, h⟩ := bd_some h
      refine b_callV (isC := [0, 1, 2, 3, 4, 5, 6, 7, 8, 9, 10, 11]) (ci := 9)  (st := []) (bs1 := [bNextStallG K (a0 0) f0_rules f0_images ((a0 1) 0) ((a0 2) 0) ((a0 3) 0) ((a0 7) 0) ((a0 8) 0) g0, bTapeG K (a0 1) g1, bCursorG K (a0 2) g2, bWorldG K (a0 3) ((a0 4) 0) ((a0 5) 0) ((a0 6) 0) g3, bFairG K (a0 4) g4, bFairG K (a0 5) g5, bNotesG K (a0 6) g6, bPastG K (a0 7) f7_fairs g7, bTrialsG K (a0 8) ((a0 9) 0) ((a0 10) 0) ((a0 11) 0) g8, bFairG K (a0 9) g9, bOrderG K (a0 10) g10, bOrderG K (a0 11) g11]) (cNextStall_isStall (a0 := a0) (g0 := g0) (g1 := g1) (g2 := g2) (g3 := g3) (g4 := g4) (g5 := g5) (g6 := g6) (g7 := g7) (g8 := g8) (g9 := g9) (g10 := g10) (g11 := g11) h4) rfl rfl (Nat.le_of_ble_eq_true rfl) kNextStall_isStall (tb_in (i := 13) (j := 31) rfl rfl) (by decide) (by decide) rfl rfl rfl rfl rfl rfl rfl dX11_note_30 ?_
      refine r_if_eq 62 dX11_note_33 (by decide) (fun c5 => ?_) (fun c5 => ?_)
      · replace h := it_pos c5 h
        refine r_bipush (x := (-2 : Int32)) dX11_note_62 (by decide) ?_
        have hq := Option.some.inj h
        subst hq
        exact r_iret rfl dX11_note_64
      · replace h := it_neg c5 h
        refine r_iload_n 3 dX11_note_36 rfl ?_
        refine r_iconst (x := (0 : Int32)) dX11_note_37 (by decide) ?_
        refine r_sipush (x := (9999 : Int32)) dX11_note_38 (by decide) ?_
        obtain ⟨q6, h6, h⟩ := bd_some h
        refine b_callS (isC := []) (st := []) (bs1 := [bNextStallG K (a0 0) f0_rules f0_images ((a0 1) 0) ((a0 2) 0) ((a0 3) 0) ((a0 7) 0) ((a0 8) 0) g0, bTapeG K (a0 1) g1, bCursorG K (a0 2) g2, bWorldG K (a0 3) ((a0 4) 0) ((a0 5) 0) ((a0 6) 0) g3, bFairG K (a0 4) g4, bFairG K (a0 5) g5, bNotesG K (a0 6) g6, bPastG K (a0 7) f7_fairs g7, bTrialsG K (a0 8) ((a0 9) 0) ((a0 10) 0) ((a0 11) 0) g8, bFairG K (a0 9) g9, bOrderG K (a0 10) g10, bOrderG K (a0 11) g11]) (cNextStall_within   h6) rfl rfl (Nat.le_of_ble_eq_true rfl) kNextStall_within (tb_in (i := 13) (j := 17) rfl rfl) (by decide) (by decide) rfl rfl rfl dX11_note_41 ?_
        refine r_if_eq 62 dX11_note_44 (by decide) (fun c7 => ?_) (fun c7 => ?_)
        · replace h := it_pos c7 h
          refine r_bipush (x := (-2 : Int32)) dX11_note_62 (by decide) ?_
          have hq := Option.some.inj h
          subst hq
          exact r_iret rfl dX11_note_64
        · replace h := it_neg c7 h
          refine r_aload_n 0 dX11_note_47 rfl ?_
          refine gNextStall_world 0 rfl (tb_in (i := 12) (j := 26) rfl rfl) dX11_note_48 ?_
          refine gWorld_notesN 3 rfl (List.mem_of_getElem? (i := 58) rfl) dX11_note_51 ?_
          refine gNotes_sizeN 6 rfl (List.mem_of_getElem? (i := 49) rfl) dX11_note_54 ?_
          refine r_bipush (x := (10 : Int32)) dX11_note_57 (by decide) ?_
          refine r_icmp_lt 65 dX11_note_59 (by decide) (fun c8 => ?_) (fun c8 => ?_)
          · replace h := it_pos c8 h
            refine r_aload_n 0 dX11_note_65 rfl ?_
            refine gNextStall_world 0 rfl (tb_in (i := 12) (j := 26) rfl rfl) dX11_note_66 ?_
            refine gWorld_notesN 3 rfl (List.mem_of_getElem? (i := 58) rfl) dX11_note_69 ?_
            refine r_iload_n 1 dX11_note_72 rfl ?_
            refine r_iload_n 2 dX11_note_73 rfl ?_
            refine r_iload_n 3 dX11_note_74 rfl ?_
            obtain ⟨q9, h9, h⟩ := bd_some h
            refine b_callVN (isC := [6]) (ci := 2)  (st := []) (bs1 := [bNextStallG K (a0 0) f0_rules f0_images ((a0 1) 0) ((a0 2) 0) ((a0 3) 0) ((a0 7) 0) ((a0 8) 0) g0, bTapeG K (a0 1) g1, bCursorG K (a0 2) g2, bWorldG K (a0 3) ((a0 4) 0) ((a0 5) 0) ((a0 6) 0) g3, bFairG K (a0 4) g4, bFairG K (a0 5) g5, bNotesG K (a0 6) q9, bPastG K (a0 7) f7_fairs g7, bTrialsG K (a0 8) ((a0 9) 0) ((a0 10) 0) ((a0 11) 0) g8, bFairG K (a0 9) g9, bOrderG K (a0 10) g10, bOrderG K (a0 11) g11]) (cNotes_add (a0 := (a0 6)) (g0 := g6) h9) rfl rfl (Nat.le_of_ble_eq_true rfl) kNotes_add (List.mem_of_getElem? (i := 74) rfl) (by decide) (by decide) rfl rfl rfl rfl rfl rfl rfl dX11_note_75 ?_
            refine r_aload_n 0 dX11_note_78 rfl ?_
            refine gNextStall_world 0 rfl (tb_in (i := 12) (j := 26) rfl rfl) dX11_note_79 ?_
            refine gWorld_notesN 3 rfl (List.mem_of_getElem? (i := 58) rfl) dX11_note_82 ?_
            refine gNotes_sizeN 6 rfl (List.mem_of_getElem? (i := 49) rfl) dX11_note_85 ?_
            have hq := Option.some.inj h
            subst hq
            exact r_iret rfl dX11_note_88
          · replace h := it_neg c8 h
            refine r_bipush (x := (-2 : Int32)) dX11_note_62 (by decide) ?_
            have hq := Option.some.inj h
            subst hq
            exact r_iret rfl dX11_note_64
  · replace h := it_pos c1 h
    refine r_aload_n 0 dX11_note_5 rfl ?_
    refine gNextStall_world 0 rfl (tb_in (i := 12) (j := 26) rfl rfl) dX11_note_6 ?_
    refine gWorld_notesN 3 rfl (List.mem_of_getElem? (i := 58) rfl) dX11_note_9 ?_
    refine r_iconst (x := (0 : Int32)) dX11_note_12 (by decide) ?_
    refine pNotes_sizeN (bs1 := [bNextStallG K (a0 0) f0_rules f0_images ((a0 1) 0) ((a0 2) 0) ((a0 3) 0) ((a0 7) 0) ((a0 8) 0) g0, bTapeG K (a0 1) g1, bCursorG K (a0 2) g2, bWorldG K (a0 3) ((a0 4) 0) ((a0 5) 0) ((a0 6) 0) g3, bFairG K (a0 4) g4, bFairG K (a0 5) g5, bNotes K (a0 6) g6.1 g6.2.1 g6.2.2.1 (0 : Int32), bPastG K (a0 7) f7_fairs g7, bTrialsG K (a0 8) ((a0 9) 0) ((a0 10) 0) ((a0 11) 0) g8, bFairG K (a0 9) g9, bOrderG K (a0 10) g10, bOrderG K (a0 11) g11]) 6 rfl rfl (List.mem_of_getElem? (i := 49) rfl) dX11_note_13 ?_
    refine r_iconst (x := (0 : Int32)) dX11_note_16 (by decide) ?_
    have hq := Option.some.inj h
    subst hq
    exact r_iret rfl dX11_note_17
end
theorem dX11_ruled_0 : decode cX11_ruled 0 = .ok (.aload_n 0, 1) := by decide +kernel
theorem dX11_ruled_1 : decode cX11_ruled 1 = .ok (.getfield 36, 3) := by decide +kernel
theorem dX11_ruled_4 : decode cX11_ruled 4 = .ok (.getfield 166, 3) := by decide +kernel
theorem dX11_ruled_7 : decode cX11_ruled 7 = .ok (.ifCond .eq 12, 3) := by decide +kernel
theorem dX11_ruled_10 : decode cX11_ruled 10 = .ok (.iload_n 1, 1) := by decide +kernel
theorem dX11_ruled_11 : decode cX11_ruled 11 = .ok (.iconst 0, 1) := by decide +kernel
theorem dX11_ruled_12 : decode cX11_ruled 12 = .ok (.iconst 1, 1) := by decide +kernel
theorem dX11_ruled_13 : decode cX11_ruled 13 = .ok (.invokestatic 70, 3) := by decide +kernel
theorem dX11_ruled_16 : decode cX11_ruled 16 = .ok (.ifCond .ne 6, 3) := by decide +kernel
theorem dX11_ruled_19 : decode cX11_ruled 19 = .ok (.bipush (-3), 2) := by decide +kernel
theorem dX11_ruled_21 : decode cX11_ruled 21 = .ok (.ireturn, 1) := by decide +kernel
theorem dX11_ruled_22 : decode cX11_ruled 22 = .ok (.aload_n 0, 1) := by decide +kernel
theorem dX11_ruled_23 : decode cX11_ruled 23 = .ok (.getfield 58, 3) := by decide +kernel
theorem dX11_ruled_26 : decode cX11_ruled 26 = .ok (.aload_n 0, 1) := by decide +kernel
theorem dX11_ruled_27 : decode cX11_ruled 27 = .ok (.getfield 36, 3) := by decide +kernel
theorem dX11_ruled_30 : decode cX11_ruled 30 = .ok (.aload_n 0, 1) := by decide +kernel
theorem dX11_ruled_31 : decode cX11_ruled 31 = .ok (.getfield 25, 3) := by decide +kernel
theorem dX11_ruled_34 : decode cX11_ruled 34 = .ok (.aload_n 0, 1) := by decide +kernel
theorem dX11_ruled_35 : decode cX11_ruled 35 = .ok (.getfield 29, 3) := by decide +kernel
theorem dX11_ruled_38 : decode cX11_ruled 38 = .ok (.invokevirtual 263, 3) := by decide +kernel
theorem dX11_ruled_41 : decode cX11_ruled 41 = .ok (.aload_n 0, 1) := by decide +kernel
theorem dX11_ruled_42 : decode cX11_ruled 42 = .ok (.getfield 58, 3) := by decide +kernel
theorem dX11_ruled_45 : decode cX11_ruled 45 = .ok (.getfield 230, 3) := by decide +kernel
theorem dX11_ruled_48 : decode cX11_ruled 48 = .ok (.iload_n 1, 1) := by decide +kernel
theorem dX11_ruled_49 : decode cX11_ruled 49 = .ok (.iaload, 1) := by decide +kernel
theorem dX11_ruled_50 : decode cX11_ruled 50 = .ok (.ireturn, 1) := by decide +kernel
abbrev MNextStall_ruled : rx_M := (RX11, yX11_ruled, cX11_ruled, 2, (some .int), 8)
theorem kNextStall_ruled : rKv MNextStall_ruled 1 := ⟨tb_in (i := 35) (j := 19) rfl rfl, tb_in (i := 35) (j := 20) rfl rfl, tb_in (i := 2) (j := 22) rfl rfl, tb_in (i := 16) (j := 3) rfl rfl, ⟨by decide, by decide, by decide +kernel⟩, by decide⟩
section
variable {a0 : Nat → Nat → Nat} {g0 : tyNextStall} {g1 : tyTape} {g2 : tyCursor} {g3 : tyWorld} {g4 : tyFair} {g5 : tyFair} {g6 : tyNotes} {g7 : tyPast} {g8 : tyTrials} {g9 : tyFair} {g10 : tyOrder} {g11 : tyOrder} {f0_rules : Nat → Nat → Nat} {f0_images : Nat → Option Nat} {f7_fairs : Nat → Option Nat} {p0_rules0 : Nat → tyRule}
def mNextStall_ruled (x1 : Int32) (g0 : tyNextStall) (g3 : tyWorld) (g4 : tyFair) (g6 : tyNotes) (g8 : tyTrials) (g9 : tyFair) (p0_rules0 : Nat → tyRule) : Option (Int32 × tyTrials × tyFair × (Nat → tyRule)) := (if g3.1 = 0 then some ((-3 : Int32), g8, g9, p0_rules0) else (mNextStall_within x1 (0 : Int32) (1 : Int32)).bind (fun q2 => (if q2 = 0 then some ((-3 : Int32), g8, g9, p0_rules0) else (mTrials_findRuledr_rules g0.1 g8 g9 g4 g6 p0_rules0).bind (fun q4 => rq (inb x1 3) (some ((q4.1.1 x1.toNatClampNeg), q4.1, q4.2.1, q4.2.2))))))
set_option maxHeartbeats 4000000 in
set_option maxRecDepth 20000 in
theorem cNextStall_ruled {q : Int32 × tyTrials × tyFair × (Nat → tyRule)} {x1 : Int32} (h : mNextStall_ruled x1 g0 g3 g4 g6 g8 g9 p0_rules0 = some q) : rMet l D Z (ty7 K) MNextStall_ruled [.ref ((a0 0) 0), .int x1] (List.flatten ([bNextStallG K (a0 0) (fun j => some (f0_rules j 0)) f0_images ((a0 1) 0) ((a0 2) 0) ((a0 3) 0) ((a0 7) 0) ((a0 8) 0) g0, bTapeG K (a0 1) g1, bCursorG K (a0 2) g2, bWorldG K (a0 3) ((a0 4) 0) ((a0 5) 0) ((a0 6) 0) g3, bFairG K (a0 4) g4, bFairG K (a0 5) g5, bNotesG K (a0 6) g6, bPastG K (a0 7) f7_fairs g7, bTrialsG K (a0 8) ((a0 9) 0) ((a0 10) 0) ((a0 11) 0) g8, bFairG K (a0 9) g9, bOrderG K (a0 10) g10, bOrderG K (a0 11) g11] ++ (fam 6 (fun j => bRuleG K (f0_rules j) (p0_rules0 j)) ++ []))) (List.flatten ([bNextStallG K (a0 0) (fun j => some (f0_rules j 0)) f0_images ((a0 1) 0) ((a0 2) 0) ((a0 3) 0) ((a0 7) 0) ((a0 8) 0) g0, bTapeG K (a0 1) g1, bCursorG K (a0 2) g2, bWorldG K (a0 3) ((a0 4) 0) ((a0 5) 0) ((a0 6) 0) g3, bFairG K (a0 4) g4, bFairG K (a0 5) g5, bNotesG K (a0 6) g6, bPastG K (a0 7) f7_fairs g7, bTrialsG K (a0 8) ((a0 9) 0) ((a0 10) 0) ((a0 11) 0) q.2.1, bFairG K (a0 9) q.2.2.1, bOrderG K (a0 10) g10, bOrderG K (a0 11) g11] ++ (fam 6 (fun j => bRuleG K (f0_rules j) (q.2.2.2 j)) ++ []))) (some (.int q.1)) := by
  refine rMet.of (by decide) rfl (Nat.le_of_ble_eq_true rfl) ?_
  refine r_sub (lv' := [(0, .ref ((a0 0) 0)), (1, .int x1)]) [0, 1] rfl ?_
  unfold mNextStall_ruled at h
  refine r_aload_n 0 dX11_ruled_0 rfl ?_
  refine gNextStall_world 0 rfl (tb_in (i := 12) (j := 26) rfl rfl) dX11_ruled_1 ?_
  refine gWorld_openN 3 rfl (List.mem_of_getElem? (i := 50) rfl) dX11_ruled_4 ?_
  refine r_if_eq 19 dX11_ruled_7 (by decide) (fun c1 => ?_) (fun c1 => ?_)
  · replace h := it_pos c1 h
    refine r_bipush (x := (-3 : Int32)) dX11_ruled_19 (by decide) ?_
    have hq := Option.some.inj h
    subst hq
    exact r_iret rfl dX11_ruled_21
  · replace h := it_neg c1 h
    refine r_iload_n 1 dX11_ruled_10 rfl ?_
    refine r_iconst (x := (0 : Int32)) dX11_ruled_11 (by decide) ?_
    refine r_iconst (x := (1 : Int32)) dX11_ruled_12 (by decide) ?_
    obtain ⟨q2, h2, h⟩ := bd_some h
    refine b_callS (isC := []) (st := []) (bs1 := ([bNextStallG K (a0 0) (fun j => some (f0_rules j 0)) f0_images ((a0 1) 0) ((a0 2) 0) ((a0 3) 0) ((a0 7) 0) ((a0 8) 0) g0, bTapeG K (a0 1) g1, bCursorG K (a0 2) g2, bWorldG K (a0 3) ((a0 4) 0) ((a0 5) 0) ((a0 6) 0) g3, bFairG K (a0 4) g4, bFairG K (a0 5) g5, bNotesG K (a0 6) g6, bPastG K (a0 7) f7_fairs g7, bTrialsG K (a0 8) ((a0 9) 0) ((a0 10) 0) ((a0 11) 0) g8, bFairG K (a0 9) g9, bOrderG K (a0 10) g10, bOrderG K (a0 11) g11] ++ (fam 6 (fun j => bRuleG K (f0_rules j) (p0_rules0 j)) ++ []))) (cNextStall_within   h2) rfl rfl (Nat.le_of_ble_eq_true rfl) kNextStall_within (tb_in (i := 13) (j := 17) rfl rfl) (by decide) (by decide) rfl rfl rfl dX11_ruled_13 ?_
    refine r_if_ne 22 dX11_ruled_16 (by decide) (fun c3 => ?_) (fun c3 => ?_)
    · replace h := it_neg c3 h
      refine r_aload_n 0 dX11_ruled_22 rfl ?_
      refine gNextStall_trials 0 rfl (tb_in (i := 13) (j := 4) rfl rfl) dX11_ruled_23 ?_
      refine r_aload_n 0 dX11_ruled_26 rfl ?_
      refine gNextStall_world 0 rfl (tb_in (i := 12) (j := 26) rfl rfl) dX11_ruled_27 ?_
      refine r_aload_n 0 dX11_ruled_30 rfl ?_
      refine gNextStall_rules 0 rfl (tb_in (i := 12) (j := 21) rfl rfl) dX11_ruled_31 ?_
      refine r_aload_n 0 dX11_ruled_34 rfl ?_
      refine gNextStall_ruleCount 0 rfl (tb_in (i := 12) (j := 22) rfl rfl) dX11_ruled_35 ?_
      obtain ⟨q4, h4, h⟩ := bd_some h
      refine b_callVN (isC := ([8, 9, 10, 11, 3, 4, 5, 6, 0] ++ (List.range' 12 6 ++ []))) (ci := 7)  (st := []) (bs1 := ([bNextStallG K (a0 0) (fun j => some (f0_rules j 0)) f0_images ((a0 1) 0) ((a0 2) 0) ((a0 3) 0) ((a0 7) 0) ((a0 8) 0) g0, bTapeG K (a0 1) g1, bCursorG K (a0 2) g2, bWorldG K (a0 3) ((a0 4) 0) ((a0 5) 0) ((a0 6) 0) g3, bFairG K (a0 4) g4, bFairG K (a0 5) g5, bNotesG K (a0 6) g6, bPastG K (a0 7) f7_fairs g7, bTrialsG K (a0 8) ((a0 9) 0) ((a0 10) 0) ((a0 11) 0) q4.1, bFairG K (a0 9) q4.2.1, bOrderG K (a0 10) g10, bOrderG K (a0 11) g11] ++ (fam 6 (fun j => bRuleG K (f0_rules j) (q4.2.2 j)) ++ []))) (cTrials_findRuledr_rules (a0 := fun b => a0 (8 + b)) (a1 := fun b => a0 (3 + b)) (a2 := (a0 0)) (f8_rules := f0_rules) (g0 := g8) (g1 := g9) (g2 := g10) (g3 := g11) (g4 := g3) (g5 := g4) (g6 := g5) (g7 := g6) (g8 := g0) (p8_rules0 := p0_rules0) h4) rfl rfl (Nat.le_of_ble_eq_true rfl) kTrials_findRuledr_rules (List.mem_of_getElem? (i := 75) rfl) (by decide) (by decide +kernel) (map_app rfl (map_app (map_f0 (n := 6) (l := [bNextStallG K (a0 0) (fun j => some (f0_rules j 0)) f0_images ((a0 1) 0) ((a0 2) 0) ((a0 3) 0) ((a0 7) 0) ((a0 8) 0) g0, bTapeG K (a0 1) g1, bCursorG K (a0 2) g2, bWorldG K (a0 3) ((a0 4) 0) ((a0 5) 0) ((a0 6) 0) g3, bFairG K (a0 4) g4, bFairG K (a0 5) g5, bNotesG K (a0 6) g6, bPastG K (a0 7) f7_fairs g7, bTrialsG K (a0 8) ((a0 9) 0) ((a0 10) 0) ((a0 11) 0) g8, bFairG K (a0 9) g9, bOrderG K (a0 10) g10, bOrderG K (a0 11) g11]) rfl) rfl)) (by simp only [List.length_append, fam_len, List.length_range', List.length_cons, List.length_nil]) (stm_a (bs1 := ([bNextStallG K (a0 0) (fun j => some (f0_rules j 0)) f0_images ((a0 1) 0) ((a0 2) 0) ((a0 3) 0) ((a0 7) 0) ((a0 8) 0) g0, bTapeG K (a0 1) g1, bCursorG K (a0 2) g2, bWorldG K (a0 3) ((a0 4) 0) ((a0 5) 0) ((a0 6) 0) g3, bFairG K (a0 4) g4, bFairG K (a0 5) g5, bNotesG K (a0 6) g6, bPastG K (a0 7) f7_fairs g7, bTrialsG K (a0 8) ((a0 9) 0) ((a0 10) 0) ((a0 11) 0) q4.1, bFairG K (a0 9) q4.2.1, bOrderG K (a0 10) g10, bOrderG K (a0 11) g11] ++ (fam 6 (fun j => bRuleG K (f0_rules j) (p0_rules0 j)) ++ []))) rfl rfl (stm_a (bs1 := ([bNextStallG K (a0 0) (fun j => some (f0_rules j 0)) f0_images ((a0 1) 0) ((a0 2) 0) ((a0 3) 0) ((a0 7) 0) ((a0 8) 0) g0, bTapeG K (a0 1) g1, bCursorG K (a0 2) g2, bWorldG K (a0 3) ((a0 4) 0) ((a0 5) 0) ((a0 6) 0) g3, bFairG K (a0 4) g4, bFairG K (a0 5) g5, bNotesG K (a0 6) g6, bPastG K (a0 7) f7_fairs g7, bTrialsG K (a0 8) ((a0 9) 0) ((a0 10) 0) ((a0 11) 0) q4.1, bFairG K (a0 9) q4.2.1, bOrderG K (a0 10) g10, bOrderG K (a0 11) g11] ++ (fam 6 (fun j => bRuleG K (f0_rules j) (q4.2.2 j)) ++ []))) (by rw [List.length_range', fam_len]) (stm_f0 (n := 6) (l := [bNextStallG K (a0 0) (fun j => some (f0_rules j 0)) f0_images ((a0 1) 0) ((a0 2) 0) ((a0 3) 0) ((a0 7) 0) ((a0 8) 0) g0, bTapeG K (a0 1) g1, bCursorG K (a0 2) g2, bWorldG K (a0 3) ((a0 4) 0) ((a0 5) 0) ((a0 6) 0) g3, bFairG K (a0 4) g4, bFairG K (a0 5) g5, bNotesG K (a0 6) g6, bPastG K (a0 7) f7_fairs g7, bTrialsG K (a0 8) ((a0 9) 0) ((a0 10) 0) ((a0 11) 0) q4.1, bFairG K (a0 9) q4.2.1, bOrderG K (a0 10) g10, bOrderG K (a0 11) g11]) rfl) rfl)) rfl rfl rfl rfl dX11_ruled_38 ?_
      refine r_aload_n 0 dX11_ruled_41 rfl ?_
      refine gNextStall_trials 0 rfl (tb_in (i := 13) (j := 4) rfl rfl) dX11_ruled_42 ?_
      refine gTrials_foundN 8 rfl (List.mem_of_getElem? (i := 63) rfl) dX11_ruled_45 ?_
      refine r_iload_n 1 dX11_ruled_48 rfl ?_
      obtain ⟨h5, h⟩ := rq_some h
      refine lTrials_found 8 rfl (inb_in h5) dX11_ruled_49 ?_
      have hq := Option.some.inj h
      subst hq
      exact r_iret rfl dX11_ruled_50
    · replace h := it_pos c3 h
      refine r_bipush (x := (-3 : Int32)) dX11_ruled_19 (by decide) ?_
      have hq := Option.some.inj h
      subst hq
      exact r_iret rfl dX11_ruled_21
end
theorem dX11_look_0 : decode cX11_look 0 = .ok (.aload_n 0, 1) := by decide +kernel
theorem dX11_look_1 : decode cX11_look 1 = .ok (.getfield 36, 3) := by decide +kernel
theorem dX11_look_4 : decode cX11_look 4 = .ok (.getfield 166, 3) := by decide +kernel
theorem dX11_look_7 : decode cX11_look 7 = .ok (.ifCond .eq 22, 3) := by decide +kernel
theorem dX11_look_10 : decode cX11_look 10 = .ok (.iload_n 1, 1) := by decide +kernel
theorem dX11_look_11 : decode cX11_look 11 = .ok (.iconst 0, 1) := by decide +kernel
theorem dX11_look_12 : decode cX11_look 12 = .ok (.bipush 60, 2) := by decide +kernel
theorem dX11_look_14 : decode cX11_look 14 = .ok (.invokestatic 70, 3) := by decide +kernel
theorem dX11_look_17 : decode cX11_look 17 = .ok (.ifCond .eq 12, 3) := by decide +kernel
theorem dX11_look_20 : decode cX11_look 20 = .ok (.iload_n 2, 1) := by decide +kernel
theorem dX11_look_21 : decode cX11_look 21 = .ok (.iconst 0, 1) := by decide +kernel
theorem dX11_look_22 : decode cX11_look 22 = .ok (.iconst 1, 1) := by decide +kernel
theorem dX11_look_23 : decode cX11_look 23 = .ok (.invokestatic 70, 3) := by decide +kernel
theorem dX11_look_26 : decode cX11_look 26 = .ok (.ifCond .ne 5, 3) := by decide +kernel
theorem dX11_look_29 : decode cX11_look 29 = .ok (.iconst (-1), 1) := by decide +kernel
theorem dX11_look_30 : decode cX11_look 30 = .ok (.ireturn, 1) := by decide +kernel
theorem dX11_look_31 : decode cX11_look 31 = .ok (.aload_n 0, 1) := by decide +kernel
theorem dX11_look_32 : decode cX11_look 32 = .ok (.getfield 58, 3) := by decide +kernel
theorem dX11_look_35 : decode cX11_look 35 = .ok (.aload_n 0, 1) := by decide +kernel
theorem dX11_look_36 : decode cX11_look 36 = .ok (.getfield 36, 3) := by decide +kernel
theorem dX11_look_39 : decode cX11_look 39 = .ok (.aload_n 0, 1) := by decide +kernel
theorem dX11_look_40 : decode cX11_look 40 = .ok (.getfield 25, 3) := by decide +kernel
theorem dX11_look_43 : decode cX11_look 43 = .ok (.aload_n 0, 1) := by decide +kernel
theorem dX11_look_44 : decode cX11_look 44 = .ok (.getfield 29, 3) := by decide +kernel
theorem dX11_look_47 : decode cX11_look 47 = .ok (.iload_n 1, 1) := by decide +kernel
theorem dX11_look_48 : decode cX11_look 48 = .ok (.invokevirtual 267, 3) := by decide +kernel
theorem dX11_look_51 : decode cX11_look 51 = .ok (.aload_n 0, 1) := by decide +kernel
theorem dX11_look_52 : decode cX11_look 52 = .ok (.getfield 58, 3) := by decide +kernel
theorem dX11_look_55 : decode cX11_look 55 = .ok (.getfield 230, 3) := by decide +kernel
theorem dX11_look_58 : decode cX11_look 58 = .ok (.iload_n 2, 1) := by decide +kernel
theorem dX11_look_59 : decode cX11_look 59 = .ok (.iaload, 1) := by decide +kernel
theorem dX11_look_60 : decode cX11_look 60 = .ok (.ireturn, 1) := by decide +kernel
abbrev MNextStall_look : rx_M := (RX11, yX11_look, cX11_look, 3, (some .int), 8)
theorem kNextStall_look : rKv MNextStall_look 2 := ⟨tb_in (i := 35) (j := 25) rfl rfl, tb_in (i := 35) (j := 26) rfl rfl, tb_in (i := 2) (j := 22) rfl rfl, tb_in (i := 16) (j := 6) rfl rfl, ⟨by decide, by decide, by decide +kernel⟩, by decide⟩
section
variable {a0 : Nat → Nat → Nat} {g0 : tyNextStall} {g1 : tyTape} {g2 : tyCursor} {g3 : tyWorld} {g4 : tyFair} {g5 : tyFair} {g6 : tyNotes} {g7 : tyPast} {g8 : tyTrials} {g9 : tyFair} {g10 : tyOrder} {g11 : tyOrder} {f0_rules : Nat → Nat → Nat} {f0_images : Nat → Option Nat} {f7_fairs : Nat → Option Nat} {p0_rules0 : Nat → tyRule}
def mNextStall_look (x1 : Int32) (x2 : Int32) (g0 : tyNextStall) (g3 : tyWorld) (g4 : tyFair) (g6 : tyNotes) (g8 : tyTrials) (g9 : tyFair) (p0_rules0 : Nat → tyRule) : Option (Int32 × tyTrials × tyFair × (Nat → tyRule)) := (if g3.1 = 0 then some ((-1 : Int32), g8, g9, p0_rules0) else (mNextStall_within x1 (0 : Int32) (60 : Int32)).bind (fun q2 => (if q2 = 0 then some ((-1 : Int32), g8, g9, p0_rules0) else (mNextStall_within x2 (0 : Int32) (1 : Int32)).bind (fun q4 => (if q4 = 0 then some ((-1 : Int32), g8, g9, p0_rules0) else (mTrials_findLookr_rules g0.1 x1 g8 g9 g4 g6 p0_rules0).bind (fun q6 => rq (inb x2 3) (some ((q6.1.1 x2.toNatClampNeg), q6.1, q6.2.1, q6.2.2))))))))
set_option maxHeartbeats 4000000 in
set_option maxRecDepth 20000 in
theorem cNextStall_look {q : Int32 × tyTrials × tyFair × (Nat → tyRule)} {x1 : Int32} {x2 : Int32} (h : mNextStall_look x1 x2 g0 g3 g4 g6 g8 g9 p0_rules0 = some q) : rMet l D Z (ty7 K) MNextStall_look [.ref ((a0 0) 0), .int x1, .int x2] (List.flatten ([bNextStallG K (a0 0) (fun j => some (f0_rules j 0)) f0_images ((a0 1) 0) ((a0 2) 0) ((a0 3) 0) ((a0 7) 0) ((a0 8) 0) g0, bTapeG K (a0 1) g1, bCursorG K (a0 2) g2, bWorldG K (a0 3) ((a0 4) 0) ((a0 5) 0) ((a0 6) 0) g3, bFairG K (a0 4) g4, bFairG K (a0 5) g5, bNotesG K (a0 6) g6, bPastG K (a0 7) f7_fairs g7, bTrialsG K (a0 8) ((a0 9) 0) ((a0 10) 0) ((a0 11) 0) g8, bFairG K (a0 9) g9, bOrderG K (a0 10) g10, bOrderG K (a0 11) g11] ++ (fam 6 (fun j => bRuleG K (f0_rules j) (p0_rules0 j)) ++ []))) (List.flatten ([bNextStallG K (a0 0) (fun j => some (f0_rules j 0)) f0_images ((a0 1) 0) ((a0 2) 0) ((a0 3) 0) ((a0 7) 0) ((a0 8) 0) g0, bTapeG K (a0 1) g1, bCursorG K (a0 2) g2, bWorldG K (a0 3) ((a0 4) 0) ((a0 5) 0) ((a0 6) 0) g3, bFairG K (a0 4) g4, bFairG K (a0 5) g5, bNotesG K (a0 6) g6, bPastG K (a0 7) f7_fairs g7, bTrialsG K (a0 8) ((a0 9) 0) ((a0 10) 0) ((a0 11) 0) q.2.1, bFairG K (a0 9) q.2.2.1, bOrderG K (a0 10) g10, bOrderG K (a0 11) g11] ++ (fam 6 (fun j => bRuleG K (f0_rules j) (q.2.2.2 j)) ++ []))) (some (.int q.1)) := by
  refine rMet.of (by decide) rfl (Nat.le_of_ble_eq_true rfl) ?_
  refine r_sub (lv' := [(0, .ref ((a0 0) 0)), (1, .int x1), (2, .int x2)]) [0, 1, 2] rfl ?_
  unfold mNextStall_look at h
  refine r_aload_n 0 dX11_look_0 rfl ?_
  refine gNextStall_world 0 rfl (tb_in (i := 12) (j := 26) rfl rfl) dX11_look_1 ?_
  refine gWorld_openN 3 rfl (List.mem_of_getElem? (i := 50) rfl) dX11_look_4 ?_
  refine r_if_eq 29 dX11_look_7 (by decide) (fun c1 => ?_) (fun c1 => ?_)
  · replace h := it_pos c1 h
    refine r_iconst (x := (-1 : Int32)) dX11_look_29 (by decide) ?_
    have hq := Option.some.inj h
    subst hq
    exact r_iret rfl dX11_look_30
  · replace h := it_neg c1 h
    refine r_iload_n 1 dX11_look_10 rfl ?_
    refine r_iconst (x := (0 : Int32)) dX11_look_11 (by decide) ?_
    refine r_bipush (x := (60 : Int32)) dX11_look_12 (by decide) ?_
    obtain ⟨q2, h2, h⟩ := bd_some h
    refine b_callS (isC := []) (st := []) (bs1 := ([bNextStallG K (a0 0) (fun j => some (f0_rules j 0)) f0_images ((a0 1) 0) ((a0 2) 0) ((a0 3) 0) ((a0 7) 0) ((a0 8) 0) g0, bTapeG K (a0 1) g1, bCursorG K (a0 2) g2, bWorldG K (a0 3) ((a0 4) 0) ((a0 5) 0) ((a0 6) 0) g3, bFairG K (a0 4) g4, bFairG K (a0 5) g5, bNotesG K (a0 6) g6, bPastG K (a0 7) f7_fairs g7, bTrialsG K (a0 8) ((a0 9) 0) ((a0 10) 0) ((a0 11) 0) g8, bFairG K (a0 9) g9, bOrderG K (a0 10) g10, bOrderG K (a0 11) g11] ++ (fam 6 (fun j => bRuleG K (f0_rules j) (p0_rules0 j)) ++ []))) (cNextStall_within   h2) rfl rfl (Nat.le_of_ble_eq_true rfl) kNextStall_within (tb_in (i := 13) (j := 17) rfl rfl) (by decide) (by decide) rfl rfl rfl dX11_look_14 ?_
    refine r_if_eq 29 dX11_look_17 (by decide) (fun c3 => ?_) (fun c3 => ?_)
    · replace h := it_pos c3 h
      refine r_iconst (x := (-1 : Int32)) dX11_look_29 (by decide) ?_
      have hq := Option.some.inj h
      subst hq
      exact r_iret rfl dX11_look_30
    · replace h := it_neg c3 h
      refine r_iload_n 2 dX11_look_20 rfl ?_
      refine r_iconst (x := (0 : Int32)) dX11_look_21 (by decide) ?_
      refine r_iconst (x := (1 : Int32)) dX11_look_22 (by decide) ?_
      obtain ⟨q4, h4, h⟩ := bd_some h
      refine b_callS (isC := []) (st := []) (bs1 := ([bNextStallG K (a0 0) (fun j => some (f0_rules j 0)) f0_images ((a0 1) 0) ((a0 2) 0) ((a0 3) 0) ((a0 7) 0) ((a0 8) 0) g0, bTapeG K (a0 1) g1, bCursorG K (a0 2) g2, bWorldG K (a0 3) ((a0 4) 0) ((a0 5) 0) ((a0 6) 0) g3, bFairG K (a0 4) g4, bFairG K (a0 5) g5, bNotesG K (a0 6) g6, bPastG K (a0 7) f7_fairs g7, bTrialsG K (a0 8) ((a0 9) 0) ((a0 10) 0) ((a0 11) 0) g8, bFairG K (a0 9) g9, bOrderG K (a0 10) g10, bOrderG K (a0 11) g11] ++ (fam 6 (fun j => bRuleG K (f0_rules j) (p0_rules0 j)) ++ []))) (cNextStall_within   h4) rfl rfl (Nat.le_of_ble_eq_true rfl) kNextStall_within (tb_in (i := 13) (j := 17) rfl rfl) (by decide) (by decide) rfl rfl rfl dX11_look_23 ?_
      refine r_if_ne 31 dX11_look_26 (by decide) (fun c5 => ?_) (fun c5 => ?_)
      · replace h := it_neg c5 h
        refine r_aload_n 0 dX11_look_31 rfl ?_
        refine gNextStall_trials 0 rfl (tb_in (i := 13) (j := 4) rfl rfl) dX11_look_32 ?_
        refine r_aload_n 0 dX11_look_35 rfl ?_
        refine gNextStall_world 0 rfl (tb_in (i := 12) (j := 26) rfl rfl) dX11_look_36 ?_
        refine r_aload_n 0 dX11_look_39 rfl ?_
        refine gNextStall_rules 0 rfl (tb_in (i := 12) (j := 21) rfl rfl) dX11_look_40 ?_
        refine r_aload_n 0 dX11_look_43 rfl ?_
        refine gNextStall_ruleCount 0 rfl (tb_in (i := 12) (j := 22) rfl rfl) dX11_look_44 ?_
        refine r_iload_n 1 dX11_look_47 rfl ?_
        obtain ⟨q6, h6, h⟩ := bd_some h
        refine b_callVN (isC := ([8, 9, 10, 11, 3, 4, 5, 6, 0] ++ (List.range' 12 6 ++ []))) (ci := 7)  (st := []) (bs1 := ([bNextStallG K (a0 0) (fun j => some (f0_rules j 0)) f0_images ((a0 1) 0) ((a0 2) 0) ((a0 3) 0) ((a0 7) 0) ((a0 8) 0) g0, bTapeG K (a0 1) g1, bCursorG K (a0 2) g2, bWorldG K (a0 3) ((a0 4) 0) ((a0 5) 0) ((a0 6) 0) g3, bFairG K (a0 4) g4, bFairG K (a0 5) g5, bNotesG K (a0 6) g6, bPastG K (a0 7) f7_fairs g7, bTrialsG K (a0 8) ((a0 9) 0) ((a0 10) 0) ((a0 11) 0) q6.1, bFairG K (a0 9) q6.2.1, bOrderG K (a0 10) g10, bOrderG K (a0 11) g11] ++ (fam 6 (fun j => bRuleG K (f0_rules j) (q6.2.2 j)) ++ []))) (cTrials_findLookr_rules (a0 := fun b => a0 (8 + b)) (a1 := fun b => a0 (3 + b)) (a2 := (a0 0)) (f8_rules := f0_rules) (g0 := g8) (g1 := g9) (g2 := g10) (g3 := g11) (g4 := g3) (g5 := g4) (g6 := g5) (g7 := g6) (g8 := g0) (p8_rules0 := p0_rules0) h6) rfl rfl (Nat.le_of_ble_eq_true rfl) kTrials_findLookr_rules (List.mem_of_getElem? (i := 78) rfl) (by decide) (by decide +kernel) (map_app rfl (map_app (map_f0 (n := 6) (l := [bNextStallG K (a0 0) (fun j => some (f0_rules j 0)) f0_images ((a0 1) 0) ((a0 2) 0) ((a0 3) 0) ((a0 7) 0) ((a0 8) 0) g0, bTapeG K (a0 1) g1, bCursorG K (a0 2) g2, bWorldG K (a0 3) ((a0 4) 0) ((a0 5) 0) ((a0 6) 0) g3, bFairG K (a0 4) g4, bFairG K (a0 5) g5, bNotesG K (a0 6) g6, bPastG K (a0 7) f7_fairs g7, bTrialsG K (a0 8) ((a0 9) 0) ((a0 10) 0) ((a0 11) 0) g8, bFairG K (a0 9) g9, bOrderG K (a0 10) g10, bOrderG K (a0 11) g11]) rfl) rfl)) (by simp only [List.length_append, fam_len, List.length_range', List.length_cons, List.length_nil]) (stm_a (bs1 := ([bNextStallG K (a0 0) (fun j => some (f0_rules j 0)) f0_images ((a0 1) 0) ((a0 2) 0) ((a0 3) 0) ((a0 7) 0) ((a0 8) 0) g0, bTapeG K (a0 1) g1, bCursorG K (a0 2) g2, bWorldG K (a0 3) ((a0 4) 0) ((a0 5) 0) ((a0 6) 0) g3, bFairG K (a0 4) g4, bFairG K (a0 5) g5, bNotesG K (a0 6) g6, bPastG K (a0 7) f7_fairs g7, bTrialsG K (a0 8) ((a0 9) 0) ((a0 10) 0) ((a0 11) 0) q6.1, bFairG K (a0 9) q6.2.1, bOrderG K (a0 10) g10, bOrderG K (a0 11) g11] ++ (fam 6 (fun j => bRuleG K (f0_rules j) (p0_rules0 j)) ++ []))) rfl rfl (stm_a (bs1 := ([bNextStallG K (a0 0) (fun j => some (f0_rules j 0)) f0_images ((a0 1) 0) ((a0 2) 0) ((a0 3) 0) ((a0 7) 0) ((a0 8) 0) g0, bTapeG K (a0 1) g1, bCursorG K (a0 2) g2, bWorldG K (a0 3) ((a0 4) 0) ((a0 5) 0) ((a0 6) 0) g3, bFairG K (a0 4) g4, bFairG K (a0 5) g5, bNotesG K (a0 6) g6, bPastG K (a0 7) f7_fairs g7, bTrialsG K (a0 8) ((a0 9) 0) ((a0 10) 0) ((a0 11) 0) q6.1, bFairG K (a0 9) q6.2.1, bOrderG K (a0 10) g10, bOrderG K (a0 11) g11] ++ (fam 6 (fun j => bRuleG K (f0_rules j) (q6.2.2 j)) ++ []))) (by rw [List.length_range', fam_len]) (stm_f0 (n := 6) (l := [bNextStallG K (a0 0) (fun j => some (f0_rules j 0)) f0_images ((a0 1) 0) ((a0 2) 0) ((a0 3) 0) ((a0 7) 0) ((a0 8) 0) g0, bTapeG K (a0 1) g1, bCursorG K (a0 2) g2, bWorldG K (a0 3) ((a0 4) 0) ((a0 5) 0) ((a0 6) 0) g3, bFairG K (a0 4) g4, bFairG K (a0 5) g5, bNotesG K (a0 6) g6, bPastG K (a0 7) f7_fairs g7, bTrialsG K (a0 8) ((a0 9) 0) ((a0 10) 0) ((a0 11) 0) q6.1, bFairG K (a0 9) q6.2.1, bOrderG K (a0 10) g10, bOrderG K (a0 11) g11]) rfl) rfl)) rfl rfl rfl rfl dX11_look_48 ?_
        refine r_aload_n 0 dX11_look_51 rfl ?_
        refine gNextStall_trials 0 rfl (tb_in (i := 13) (j := 4) rfl rfl) dX11_look_52 ?_
        refine gTrials_foundN 8 rfl (List.mem_of_getElem? (i := 63) rfl) dX11_look_55 ?_
        refine r_iload_n 2 dX11_look_58 rfl ?_
        obtain ⟨h7, h⟩ := rq_some h
        refine lTrials_found 8 rfl (inb_in h7) dX11_look_59 ?_
        have hq := Option.some.inj h
        subst hq
        exact r_iret rfl dX11_look_60
      · replace h := it_pos c5 h
        refine r_iconst (x := (-1 : Int32)) dX11_look_29 (by decide) ?_
        have hq := Option.some.inj h
        subst hq
        exact r_iret rfl dX11_look_30
end
theorem dX11_rings_0 : decode cX11_rings 0 = .ok (.aload_n 0, 1) := by decide +kernel
theorem dX11_rings_1 : decode cX11_rings 1 = .ok (.getfield 36, 3) := by decide +kernel
theorem dX11_rings_4 : decode cX11_rings 4 = .ok (.getfield 166, 3) := by decide +kernel
theorem dX11_rings_7 : decode cX11_rings 7 = .ok (.ifCond .eq 10, 3) := by decide +kernel
theorem dX11_rings_10 : decode cX11_rings 10 = .ok (.iload_n 1, 1) := by decide +kernel
theorem dX11_rings_11 : decode cX11_rings 11 = .ok (.invokestatic 212, 3) := by decide +kernel
theorem dX11_rings_14 : decode cX11_rings 14 = .ok (.ifCond .ne 6, 3) := by decide +kernel
theorem dX11_rings_17 : decode cX11_rings 17 = .ok (.bipush (-3), 2) := by decide +kernel
theorem dX11_rings_19 : decode cX11_rings 19 = .ok (.ireturn, 1) := by decide +kernel
theorem dX11_rings_20 : decode cX11_rings 20 = .ok (.aload_n 0, 1) := by decide +kernel
theorem dX11_rings_21 : decode cX11_rings 21 = .ok (.getfield 58, 3) := by decide +kernel
theorem dX11_rings_24 : decode cX11_rings 24 = .ok (.aload_n 0, 1) := by decide +kernel
theorem dX11_rings_25 : decode cX11_rings 25 = .ok (.getfield 36, 3) := by decide +kernel
theorem dX11_rings_28 : decode cX11_rings 28 = .ok (.aload_n 0, 1) := by decide +kernel
theorem dX11_rings_29 : decode cX11_rings 29 = .ok (.invokevirtual 176, 3) := by decide +kernel
theorem dX11_rings_32 : decode cX11_rings 32 = .ok (.invokevirtual 271, 3) := by decide +kernel
theorem dX11_rings_35 : decode cX11_rings 35 = .ok (.istore_n 2, 1) := by decide +kernel
theorem dX11_rings_36 : decode cX11_rings 36 = .ok (.iload_n 1, 1) := by decide +kernel
theorem dX11_rings_37 : decode cX11_rings 37 = .ok (.iconst (-1), 1) := by decide +kernel
theorem dX11_rings_38 : decode cX11_rings 38 = .ok (.if_icmp .ne 7, 3) := by decide +kernel
theorem dX11_rings_41 : decode cX11_rings 41 = .ok (.iload_n 2, 1) := by decide +kernel
theorem dX11_rings_42 : decode cX11_rings 42 = .ok (.goto 11, 3) := by decide +kernel
theorem dX11_rings_45 : decode cX11_rings 45 = .ok (.aload_n 0, 1) := by decide +kernel
theorem dX11_rings_46 : decode cX11_rings 46 = .ok (.getfield 58, 3) := by decide +kernel
theorem dX11_rings_49 : decode cX11_rings 49 = .ok (.iload_n 1, 1) := by decide +kernel
theorem dX11_rings_50 : decode cX11_rings 50 = .ok (.invokevirtual 219, 3) := by decide +kernel
theorem dX11_rings_53 : decode cX11_rings 53 = .ok (.ireturn, 1) := by decide +kernel
abbrev MNextStall_rings : rx_M := (RX11, yX11_rings, cX11_rings, 3, (some .int), 8)
theorem kNextStall_rings : rKv MNextStall_rings 1 := ⟨tb_in (i := 35) (j := 31) rfl rfl, tb_in (i := 36) (j := 0) rfl rfl, tb_in (i := 2) (j := 22) rfl rfl, tb_in (i := 16) (j := 9) rfl rfl, ⟨by decide, by decide, by decide +kernel⟩, by decide⟩
section
variable {a0 : Nat → Nat → Nat} {g0 : tyNextStall} {g1 : tyTape} {g2 : tyCursor} {g3 : tyWorld} {g4 : tyFair} {g5 : tyFair} {g6 : tyNotes} {g7 : tyPast} {g8 : tyTrials} {g9 : tyFair} {g10 : tyOrder} {g11 : tyOrder} {f0_rules : Nat → Nat → Nat} {f0_images : Nat → Option Nat} {f7_fairs : Nat → Option Nat} {p0_rules0 : Nat → tyRule}
def mNextStall_rings (x1 : Int32) (g0 : tyNextStall) (g3 : tyWorld) (g4 : tyFair) (g6 : tyNotes) (g9 : tyFair) (g10 : tyOrder) (g11 : tyOrder) (p0_rules0 : Nat → tyRule) : Option (Int32 × tyFair × tyOrder × tyOrder × (Nat → tyRule)) := (if g3.1 = 0 then some ((-3 : Int32), g9, g10, g11, p0_rules0) else (mNextStall_isPlaceOrNone x1).bind (fun q2 => (if q2 = 0 then some ((-3 : Int32), g9, g10, g11, p0_rules0) else (mNextStall_ruleInForce g0 g3).bind (fun q4 => mt q4 ((mTrials_findRingsrn g9 g10 g11 g4 g6).bind (fun q5 => (if x1 = (-1 : Int32) then some (q5.1, q5.2.1, q5.2.2.1, q5.2.2.2, p0_rules0) else (mTrials_whoStandsAt x1 q5.2.2.2).bind (fun q7 => some (q7, q5.2.1, q5.2.2.1, q5.2.2.2, p0_rules0))))) (fun j4 => rq (decide (j4 < 6)) ((mTrials_findRingsrr g9 g10 g11 g4 g6 (p0_rules0 j4)).bind (fun q8 => (if x1 = (-1 : Int32) then some (q8.1, q8.2.1, q8.2.2.1, q8.2.2.2.1, (va_up p0_rules0 j4 q8.2.2.2.2)) else (mTrials_whoStandsAt x1 q8.2.2.2.1).bind (fun q10 => some (q10, q8.2.1, q8.2.2.1, q8.2.2.2.1, (va_up p0_rules0 j4 q8.2.2.2.2)))))))))))
set_option maxHeartbeats 4000000 in
set_option maxRecDepth 20000 in
theorem cNextStall_rings {q : Int32 × tyFair × tyOrder × tyOrder × (Nat → tyRule)} {x1 : Int32} (h : mNextStall_rings x1 g0 g3 g4 g6 g9 g10 g11 p0_rules0 = some q) : rMet l D Z (ty7 K) MNextStall_rings [.ref ((a0 0) 0), .int x1] (List.flatten ([bNextStallG K (a0 0) (fun j => some (f0_rules j 0)) f0_images ((a0 1) 0) ((a0 2) 0) ((a0 3) 0) ((a0 7) 0) ((a0 8) 0) g0, bTapeG K (a0 1) g1, bCursorG K (a0 2) g2, bWorldG K (a0 3) ((a0 4) 0) ((a0 5) 0) ((a0 6) 0) g3, bFairG K (a0 4) g4, bFairG K (a0 5) g5, bNotesG K (a0 6) g6, bPastG K (a0 7) f7_fairs g7, bTrialsG K (a0 8) ((a0 9) 0) ((a0 10) 0) ((a0 11) 0) g8, bFairG K (a0 9) g9, bOrderG K (a0 10) g10, bOrderG K (a0 11) g11] ++ (fam 6 (fun j => bRuleG K (f0_rules j) (p0_rules0 j)) ++ []))) (List.flatten ([bNextStallG K (a0 0) (fun j => some (f0_rules j 0)) f0_images ((a0 1) 0) ((a0 2) 0) ((a0 3) 0) ((a0 7) 0) ((a0 8) 0) g0, bTapeG K (a0 1) g1, bCursorG K (a0 2) g2, bWorldG K (a0 3) ((a0 4) 0) ((a0 5) 0) ((a0 6) 0) g3, bFairG K (a0 4) g4, bFairG K (a0 5) g5, bNotesG K (a0 6) g6, bPastG K (a0 7) f7_fairs g7, bTrialsG K (a0 8) ((a0 9) 0) ((a0 10) 0) ((a0 11) 0) g8, bFairG K (a0 9) q.2.1, bOrderG K (a0 10) q.2.2.1, bOrderG K (a0 11) q.2.2.2.1] ++ (fam 6 (fun j => bRuleG K (f0_rules j) (q.2.2.2.2 j)) ++ []))) (some (.int q.1)) := by
  refine rMet.of (by decide) rfl (Nat.le_of_ble_eq_true rfl) ?_
  refine r_sub (lv' := [(0, .ref ((a0 0) 0)), (1, .int x1)]) [0, 1] rfl ?_
  unfold mNextStall_rings at h
  refine r_aload_n 0 dX11_rings_0 rfl ?_
  refine gNextStall_world 0 rfl (tb_in (i := 12) (j := 26) rfl rfl) dX11_rings_1 ?_
  refine gWorld_openN 3 rfl (List.mem_of_getElem? (i := 50) rfl) dX11_rings_4 ?_
  refine r_if_eq 17 dX11_rings_7 (by decide) (fun c1 => ?_) (fun c1 => ?_)
  · replace h := it_pos c1 h
    refine r_bipush (x := (-3 : Int32)) dX11_rings_17 (by decide) ?_
    have hq := Option.some.inj h
    subst hq
    exact r_iret rfl dX11_rings_19
  · replace h := it_neg c1 h
    refine r_iload_n 1 dX11_rings_10 rfl ?_
    obtain ⟨q2, h2, h⟩ := bd_some h
    refine b_callS (isC := []) (st := []) (bs1 := ([bNextStallG K (a0 0) (fun j => some (f0_rules j 0)) f0_images ((a0 1) 0) ((a0 2) 0) ((a0 3) 0) ((a0 7) 0) ((a0 8) 0) g0, bTapeG K (a0 1) g1, bCursorG K (a0 2) g2, bWorldG K (a0 3) ((a0 4) 0) ((a0 5) 0) ((a0 6) 0) g3, bFairG K (a0 4) g4, bFairG K (a0 5) g5, bNotesG K (a0 6) g6, bPastG K (a0 7) f7_fairs g7, bTrialsG K (a0 8) ((a0 9) 0) ((a0 10) 0) ((a0 11) 0) g8, bFairG K (a0 9) g9, bOrderG K (a0 10) g10, bOrderG K (a0 11) g11] ++ (fam 6 (fun j => bRuleG K (f0_rules j) (p0_rules0 j)) ++ []))) (cNextStall_isPlaceOrNone   h2) rfl rfl (Nat.le_of_ble_eq_true rfl) kNextStall_isPlaceOrNone (tb_in (i := 14) (j := 31) rfl rfl) (by decide) (by decide) rfl rfl rfl dX11_rings_11 ?_
    refine r_if_ne 20 dX11_rings_14 (by decide) (fun c3 => ?_) (fun c3 => ?_)
    · replace h := it_neg c3 h
      refine r_aload_n 0 dX11_rings_20 rfl ?_
      refine gNextStall_trials 0 rfl (tb_in (i := 13) (j := 4) rfl rfl) dX11_rings_21 ?_
      refine r_aload_n 0 dX11_rings_24 rfl ?_
      refine gNextStall_world 0 rfl (tb_in (i := 12) (j := 26) rfl rfl) dX11_rings_25 ?_
      refine r_aload_n 0 dX11_rings_28 rfl ?_
      obtain ⟨q4, h4, h⟩ := bd_some h
      refine b_callV (isC := ([0, 1, 2, 3, 4, 5, 6, 7, 8, 9, 10, 11] ++ (List.range' 12 6 ++ []))) (ci := 9)  (st := [.ref ((a0 3) 0), .ref ((a0 8) 0)]) (bs1 := ([bNextStallG K (a0 0) (fun j => some (f0_rules j 0)) f0_images ((a0 1) 0) ((a0 2) 0) ((a0 3) 0) ((a0 7) 0) ((a0 8) 0) g0, bTapeG K (a0 1) g1, bCursorG K (a0 2) g2, bWorldG K (a0 3) ((a0 4) 0) ((a0 5) 0) ((a0 6) 0) g3, bFairG K (a0 4) g4, bFairG K (a0 5) g5, bNotesG K (a0 6) g6, bPastG K (a0 7) f7_fairs g7, bTrialsG K (a0 8) ((a0 9) 0) ((a0 10) 0) ((a0 11) 0) g8, bFairG K (a0 9) g9, bOrderG K (a0 10) g10, bOrderG K (a0 11) g11] ++ (fam 6 (fun j => bRuleG K (f0_rules j) (p0_rules0 j)) ++ []))) (cNextStall_ruleInForce (a0 := a0) (f0_rules := f0_rules) (g0 := g0) (g1 := g1) (g2 := g2) (g3 := g3) (g4 := g4) (g5 := g5) (g6 := g6) (g7 := g7) (g8 := g8) (g9 := g9) (g10 := g10) (g11 := g11) (p0_rules0 := p0_rules0) h4) rfl rfl (Nat.le_of_ble_eq_true rfl) kNextStall_ruleInForce (tb_in (i := 14) (j := 11) rfl rfl) (by decide) (by decide +kernel) (map_app rfl (map_app (map_f0 (n := 6) (l := [bNextStallG K (a0 0) (fun j => some (f0_rules j 0)) f0_images ((a0 1) 0) ((a0 2) 0) ((a0 3) 0) ((a0 7) 0) ((a0 8) 0) g0, bTapeG K (a0 1) g1, bCursorG K (a0 2) g2, bWorldG K (a0 3) ((a0 4) 0) ((a0 5) 0) ((a0 6) 0) g3, bFairG K (a0 4) g4, bFairG K (a0 5) g5, bNotesG K (a0 6) g6, bPastG K (a0 7) f7_fairs g7, bTrialsG K (a0 8) ((a0 9) 0) ((a0 10) 0) ((a0 11) 0) g8, bFairG K (a0 9) g9, bOrderG K (a0 10) g10, bOrderG K (a0 11) g11]) rfl) rfl)) (by simp only [List.length_append, fam_len, List.length_range', List.length_cons, List.length_nil]) (stm_a (bs1 := ([bNextStallG K (a0 0) (fun j => some (f0_rules j 0)) f0_images ((a0 1) 0) ((a0 2) 0) ((a0 3) 0) ((a0 7) 0) ((a0 8) 0) g0, bTapeG K (a0 1) g1, bCursorG K (a0 2) g2, bWorldG K (a0 3) ((a0 4) 0) ((a0 5) 0) ((a0 6) 0) g3, bFairG K (a0 4) g4, bFairG K (a0 5) g5, bNotesG K (a0 6) g6, bPastG K (a0 7) f7_fairs g7, bTrialsG K (a0 8) ((a0 9) 0) ((a0 10) 0) ((a0 11) 0) g8, bFairG K (a0 9) g9, bOrderG K (a0 10) g10, bOrderG K (a0 11) g11] ++ (fam 6 (fun j => bRuleG K (f0_rules j) (p0_rules0 j)) ++ []))) rfl rfl (stm_a (bs1 := ([bNextStallG K (a0 0) (fun j => some (f0_rules j 0)) f0_images ((a0 1) 0) ((a0 2) 0) ((a0 3) 0) ((a0 7) 0) ((a0 8) 0) g0, bTapeG K (a0 1) g1, bCursorG K (a0 2) g2, bWorldG K (a0 3) ((a0 4) 0) ((a0 5) 0) ((a0 6) 0) g3, bFairG K (a0 4) g4, bFairG K (a0 5) g5, bNotesG K (a0 6) g6, bPastG K (a0 7) f7_fairs g7, bTrialsG K (a0 8) ((a0 9) 0) ((a0 10) 0) ((a0 11) 0) g8, bFairG K (a0 9) g9, bOrderG K (a0 10) g10, bOrderG K (a0 11) g11] ++ (fam 6 (fun j => bRuleG K (f0_rules j) (p0_rules0 j)) ++ []))) (by rw [List.length_range', fam_len]) (stm_f0 (n := 6) (l := [bNextStallG K (a0 0) (fun j => some (f0_rules j 0)) f0_images ((a0 1) 0) ((a0 2) 0) ((a0 3) 0) ((a0 7) 0) ((a0 8) 0) g0, bTapeG K (a0 1) g1, bCursorG K (a0 2) g2, bWorldG K (a0 3) ((a0 4) 0) ((a0 5) 0) ((a0 6) 0) g3, bFairG K (a0 4) g4, bFairG K (a0 5) g5, bNotesG K (a0 6) g6, bPastG K (a0 7) f7_fairs g7, bTrialsG K (a0 8) ((a0 9) 0) ((a0 10) 0) ((a0 11) 0) g8, bFairG K (a0 9) g9, bOrderG K (a0 10) g10, bOrderG K (a0 11) g11]) rfl) rfl)) rfl rfl rfl rfl dX11_rings_29 ?_
      cases q4 with
      | none =>
        replace h := mt_n h
        refine r_st (st' := [.null, .ref ((a0 3) 0), .ref ((a0 8) 0)]) rfl ?_
        obtain ⟨q5, h5, h⟩ := bd_some h
        refine b_callVN (isC := [8, 9, 10, 11, 3, 4, 5, 6]) (ci := 7)  (st := []) (bs1 := ([bNextStallG K (a0 0) (fun j => some (f0_rules j 0)) f0_images ((a0 1) 0) ((a0 2) 0) ((a0 3) 0) ((a0 7) 0) ((a0 8) 0) g0, bTapeG K (a0 1) g1, bCursorG K (a0 2) g2, bWorldG K (a0 3) ((a0 4) 0) ((a0 5) 0) ((a0 6) 0) g3, bFairG K (a0 4) g4, bFairG K (a0 5) g5, bNotesG K (a0 6) g6, bPastG K (a0 7) f7_fairs g7, bTrialsG K (a0 8) ((a0 9) 0) ((a0 10) 0) ((a0 11) 0) g8, bFairG K (a0 9) q5.2.1, bOrderG K (a0 10) q5.2.2.1, bOrderG K (a0 11) q5.2.2.2] ++ (fam 6 (fun j => bRuleG K (f0_rules j) (p0_rules0 j)) ++ []))) (cTrials_findRingsrn (a0 := fun b => a0 (8 + b)) (a1 := fun b => a0 (3 + b)) (g0 := g8) (g1 := g9) (g2 := g10) (g3 := g11) (g4 := g3) (g5 := g4) (g6 := g5) (g7 := g6) h5) rfl rfl (Nat.le_of_ble_eq_true rfl) kTrials_findRingsrn (List.mem_of_getElem? (i := 80) rfl) (by decide) (by decide) rfl rfl rfl rfl rfl rfl rfl dX11_rings_32 ?_
        refine r_istore_n (lv' := [(2, .int q5.1), (0, .ref ((a0 0) 0)), (1, .int x1)]) dX11_rings_35 (Nat.le_of_ble_eq_true rfl) rfl ?_
        refine r_iload_n 2 dX11_rings_36 rfl ?_
        refine r_iconst (x := (-1 : Int32)) dX11_rings_37 (by decide) ?_
        refine r_icmp_ne 45 dX11_rings_38 (by decide) (fun c6 => ?_) (fun c6 => ?_)
        · replace h := it_neg c6 h
          refine r_aload_n 1 dX11_rings_45 rfl ?_
          refine gNextStall_trials 0 rfl (tb_in (i := 13) (j := 4) rfl rfl) dX11_rings_46 ?_
          refine r_iload_n 2 dX11_rings_49 rfl ?_
          obtain ⟨q7, h7, h⟩ := bd_some h
          refine b_callVN (isC := [8, 9, 10, 11]) (ci := 7)  (st := []) (bs1 := ([bNextStallG K (a0 0) (fun j => some (f0_rules j 0)) f0_images ((a0 1) 0) ((a0 2) 0) ((a0 3) 0) ((a0 7) 0) ((a0 8) 0) g0, bTapeG K (a0 1) g1, bCursorG K (a0 2) g2, bWorldG K (a0 3) ((a0 4) 0) ((a0 5) 0) ((a0 6) 0) g3, bFairG K (a0 4) g4, bFairG K (a0 5) g5, bNotesG K (a0 6) g6, bPastG K (a0 7) f7_fairs g7, bTrialsG K (a0 8) ((a0 9) 0) ((a0 10) 0) ((a0 11) 0) g8, bFairG K (a0 9) q5.2.1, bOrderG K (a0 10) q5.2.2.1, bOrderG K (a0 11) q5.2.2.2] ++ (fam 6 (fun j => bRuleG K (f0_rules j) (p0_rules0 j)) ++ []))) (cTrials_whoStandsAt (a0 := fun b => a0 (8 + b)) (g0 := g8) (g1 := q5.2.1) (g2 := q5.2.2.1) (g3 := q5.2.2.2) h7) rfl rfl (Nat.le_of_ble_eq_true rfl) kTrials_whoStandsAt (List.mem_of_getElem? (i := 60) rfl) (by decide) (by decide) rfl rfl rfl rfl rfl rfl rfl dX11_rings_50 ?_
          have hq := Option.some.inj h
          subst hq
          exact r_iret rfl dX11_rings_53
        · replace h := it_pos c6 h
          refine r_iload_n 0 dX11_rings_41 rfl ?_
          refine r_goto 53 dX11_rings_42 (by decide) ?_
          have hq := Option.some.inj h
          subst hq
          exact r_iret rfl dX11_rings_53
      | some j4 =>
        replace h := mt_s h
        obtain ⟨hg4, h⟩ := rq_some h
        have hj4 := of_decide_eq_true hg4
        refine r_st (st' := [.ref (f0_rules j4 0), .ref ((a0 3) 0), .ref ((a0 8) 0)]) rfl ?_
        obtain ⟨q8, h8, h⟩ := bd_some h
        refine b_callVN (isC := [8, 9, 10, 11, 3, 4, 5, 6, 12 + j4]) (ci := 7)  (st := []) (bs1 := ([bNextStallG K (a0 0) (fun j => some (f0_rules j 0)) f0_images ((a0 1) 0) ((a0 2) 0) ((a0 3) 0) ((a0 7) 0) ((a0 8) 0) g0, bTapeG K (a0 1) g1, bCursorG K (a0 2) g2, bWorldG K (a0 3) ((a0 4) 0) ((a0 5) 0) ((a0 6) 0) g3, bFairG K (a0 4) g4, bFairG K (a0 5) g5, bNotesG K (a0 6) g6, bPastG K (a0 7) f7_fairs g7, bTrialsG K (a0 8) ((a0 9) 0) ((a0 10) 0) ((a0 11) 0) g8, bFairG K (a0 9) q8.2.1, bOrderG K (a0 10) q8.2.2.1, bOrderG K (a0 11) q8.2.2.2.1] ++ (fam 6 (fun j => bRuleG K (f0_rules j) ((va_up p0_rules0 j4 q8.2.2.2.2) j)) ++ []))) (cTrials_findRingsrr (a0 := fun b => a0 (8 + b)) (a1 := fun b => a0 (3 + b)) (a2 := f0_rules j4) (g0 := g8) (g1 := g9) (g2 := g10) (g3 := g11) (g4 := g3) (g5 := g4) (g6 := g5) (g7 := g6) (g8 := (p0_rules0 j4)) h8) rfl rfl (Nat.le_of_ble_eq_true rfl) kTrials_findRingsrr (List.mem_of_getElem? (i := 80) rfl) (by decide) (by simp only [List.nodup_cons, List.mem_cons, List.not_mem_nil, or_false, not_or, List.nodup_nil, not_false_eq_true, and_true]; omega) (map_s (rfl) (map_s (rfl) (map_s (rfl) (map_s (rfl) (map_s (rfl) (map_s (rfl) (map_s (rfl) (map_s (rfl) (map_s (fq0 (B := fun j g => bRuleG K (f0_rules j) g) (l := [bNextStallG K (a0 0) (fun j => some (f0_rules j 0)) f0_images ((a0 1) 0) ((a0 2) 0) ((a0 3) 0) ((a0 7) 0) ((a0 8) 0) g0, bTapeG K (a0 1) g1, bCursorG K (a0 2) g2, bWorldG K (a0 3) ((a0 4) 0) ((a0 5) 0) ((a0 6) 0) g3, bFairG K (a0 4) g4, bFairG K (a0 5) g5, bNotesG K (a0 6) g6, bPastG K (a0 7) f7_fairs g7, bTrialsG K (a0 8) ((a0 9) 0) ((a0 10) 0) ((a0 11) 0) g8, bFairG K (a0 9) g9, bOrderG K (a0 10) g10, bOrderG K (a0 11) g11]) rfl hj4) map_n))))))))) rfl (stm_s (bs1 := ([bNextStallG K (a0 0) (fun j => some (f0_rules j 0)) f0_images ((a0 1) 0) ((a0 2) 0) ((a0 3) 0) ((a0 7) 0) ((a0 8) 0) g0, bTapeG K (a0 1) g1, bCursorG K (a0 2) g2, bWorldG K (a0 3) ((a0 4) 0) ((a0 5) 0) ((a0 6) 0) g3, bFairG K (a0 4) g4, bFairG K (a0 5) g5, bNotesG K (a0 6) g6, bPastG K (a0 7) f7_fairs g7, bTrialsG K (a0 8) ((a0 9) 0) ((a0 10) 0) ((a0 11) 0) g8, bFairG K (a0 9) g9, bOrderG K (a0 10) g10, bOrderG K (a0 11) g11] ++ (fam 6 (fun j => bRuleG K (f0_rules j) (p0_rules0 j)) ++ []))) (rfl) (stm_s (bs1 := ([bNextStallG K (a0 0) (fun j => some (f0_rules j 0)) f0_images ((a0 1) 0) ((a0 2) 0) ((a0 3) 0) ((a0 7) 0) ((a0 8) 0) g0, bTapeG K (a0 1) g1, bCursorG K (a0 2) g2, bWorldG K (a0 3) ((a0 4) 0) ((a0 5) 0) ((a0 6) 0) g3, bFairG K (a0 4) g4, bFairG K (a0 5) g5, bNotesG K (a0 6) g6, bPastG K (a0 7) f7_fairs g7, bTrialsG K (a0 8) ((a0 9) 0) ((a0 10) 0) ((a0 11) 0) g8, bFairG K (a0 9) q8.2.1, bOrderG K (a0 10) g10, bOrderG K (a0 11) g11] ++ (fam 6 (fun j => bRuleG K (f0_rules j) (p0_rules0 j)) ++ []))) (rfl) (stm_s (bs1 := ([bNextStallG K (a0 0) (fun j => some (f0_rules j 0)) f0_images ((a0 1) 0) ((a0 2) 0) ((a0 3) 0) ((a0 7) 0) ((a0 8) 0) g0, bTapeG K (a0 1) g1, bCursorG K (a0 2) g2, bWorldG K (a0 3) ((a0 4) 0) ((a0 5) 0) ((a0 6) 0) g3, bFairG K (a0 4) g4, bFairG K (a0 5) g5, bNotesG K (a0 6) g6, bPastG K (a0 7) f7_fairs g7, bTrialsG K (a0 8) ((a0 9) 0) ((a0 10) 0) ((a0 11) 0) g8, bFairG K (a0 9) q8.2.1, bOrderG K (a0 10) q8.2.2.1, bOrderG K (a0 11) g11] ++ (fam 6 (fun j => bRuleG K (f0_rules j) (p0_rules0 j)) ++ []))) (rfl) (stm_s (bs1 := ([bNextStallG K (a0 0) (fun j => some (f0_rules j 0)) f0_images ((a0 1) 0) ((a0 2) 0) ((a0 3) 0) ((a0 7) 0) ((a0 8) 0) g0, bTapeG K (a0 1) g1, bCursorG K (a0 2) g2, bWorldG K (a0 3) ((a0 4) 0) ((a0 5) 0) ((a0 6) 0) g3, bFairG K (a0 4) g4, bFairG K (a0 5) g5, bNotesG K (a0 6) g6, bPastG K (a0 7) f7_fairs g7, bTrialsG K (a0 8) ((a0 9) 0) ((a0 10) 0) ((a0 11) 0) g8, bFairG K (a0 9) q8.2.1, bOrderG K (a0 10) q8.2.2.1, bOrderG K (a0 11) q8.2.2.2.1] ++ (fam 6 (fun j => bRuleG K (f0_rules j) (p0_rules0 j)) ++ []))) (rfl) (stm_s (bs1 := ([bNextStallG K (a0 0) (fun j => some (f0_rules j 0)) f0_images ((a0 1) 0) ((a0 2) 0) ((a0 3) 0) ((a0 7) 0) ((a0 8) 0) g0, bTapeG K (a0 1) g1, bCursorG K (a0 2) g2, bWorldG K (a0 3) ((a0 4) 0) ((a0 5) 0) ((a0 6) 0) g3, bFairG K (a0 4) g4, bFairG K (a0 5) g5, bNotesG K (a0 6) g6, bPastG K (a0 7) f7_fairs g7, bTrialsG K (a0 8) ((a0 9) 0) ((a0 10) 0) ((a0 11) 0) g8, bFairG K (a0 9) q8.2.1, bOrderG K (a0 10) q8.2.2.1, bOrderG K (a0 11) q8.2.2.2.1] ++ (fam 6 (fun j => bRuleG K (f0_rules j) (p0_rules0 j)) ++ []))) (rfl) (stm_s (bs1 := ([bNextStallG K (a0 0) (fun j => some (f0_rules j 0)) f0_images ((a0 1) 0) ((a0 2) 0) ((a0 3) 0) ((a0 7) 0) ((a0 8) 0) g0, bTapeG K (a0 1) g1, bCursorG K (a0 2) g2, bWorldG K (a0 3) ((a0 4) 0) ((a0 5) 0) ((a0 6) 0) g3, bFairG K (a0 4) g4, bFairG K (a0 5) g5, bNotesG K (a0 6) g6, bPastG K (a0 7) f7_fairs g7, bTrialsG K (a0 8) ((a0 9) 0) ((a0 10) 0) ((a0 11) 0) g8, bFairG K (a0 9) q8.2.1, bOrderG K (a0 10) q8.2.2.1, bOrderG K (a0 11) q8.2.2.2.1] ++ (fam 6 (fun j => bRuleG K (f0_rules j) (p0_rules0 j)) ++ []))) (rfl) (stm_s (bs1 := ([bNextStallG K (a0 0) (fun j => some (f0_rules j 0)) f0_images ((a0 1) 0) ((a0 2) 0) ((a0 3) 0) ((a0 7) 0) ((a0 8) 0) g0, bTapeG K (a0 1) g1, bCursorG K (a0 2) g2, bWorldG K (a0 3) ((a0 4) 0) ((a0 5) 0) ((a0 6) 0) g3, bFairG K (a0 4) g4, bFairG K (a0 5) g5, bNotesG K (a0 6) g6, bPastG K (a0 7) f7_fairs g7, bTrialsG K (a0 8) ((a0 9) 0) ((a0 10) 0) ((a0 11) 0) g8, bFairG K (a0 9) q8.2.1, bOrderG K (a0 10) q8.2.2.1, bOrderG K (a0 11) q8.2.2.2.1] ++ (fam 6 (fun j => bRuleG K (f0_rules j) (p0_rules0 j)) ++ []))) (rfl) (stm_s (bs1 := ([bNextStallG K (a0 0) (fun j => some (f0_rules j 0)) f0_images ((a0 1) 0) ((a0 2) 0) ((a0 3) 0) ((a0 7) 0) ((a0 8) 0) g0, bTapeG K (a0 1) g1, bCursorG K (a0 2) g2, bWorldG K (a0 3) ((a0 4) 0) ((a0 5) 0) ((a0 6) 0) g3, bFairG K (a0 4) g4, bFairG K (a0 5) g5, bNotesG K (a0 6) g6, bPastG K (a0 7) f7_fairs g7, bTrialsG K (a0 8) ((a0 9) 0) ((a0 10) 0) ((a0 11) 0) g8, bFairG K (a0 9) q8.2.1, bOrderG K (a0 10) q8.2.2.1, bOrderG K (a0 11) q8.2.2.2.1] ++ (fam 6 (fun j => bRuleG K (f0_rules j) (p0_rules0 j)) ++ []))) (rfl) (stm_s (bs1 := ([bNextStallG K (a0 0) (fun j => some (f0_rules j 0)) f0_images ((a0 1) 0) ((a0 2) 0) ((a0 3) 0) ((a0 7) 0) ((a0 8) 0) g0, bTapeG K (a0 1) g1, bCursorG K (a0 2) g2, bWorldG K (a0 3) ((a0 4) 0) ((a0 5) 0) ((a0 6) 0) g3, bFairG K (a0 4) g4, bFairG K (a0 5) g5, bNotesG K (a0 6) g6, bPastG K (a0 7) f7_fairs g7, bTrialsG K (a0 8) ((a0 9) 0) ((a0 10) 0) ((a0 11) 0) g8, bFairG K (a0 9) q8.2.1, bOrderG K (a0 10) q8.2.2.1, bOrderG K (a0 11) q8.2.2.2.1] ++ (fam 6 (fun j => bRuleG K (f0_rules j) ((va_up p0_rules0 j4 q8.2.2.2.2) j)) ++ []))) (fs0 (B := fun j g => bRuleG K (f0_rules j) g) (g := q8.2.2.2.2) (l := [bNextStallG K (a0 0) (fun j => some (f0_rules j 0)) f0_images ((a0 1) 0) ((a0 2) 0) ((a0 3) 0) ((a0 7) 0) ((a0 8) 0) g0, bTapeG K (a0 1) g1, bCursorG K (a0 2) g2, bWorldG K (a0 3) ((a0 4) 0) ((a0 5) 0) ((a0 6) 0) g3, bFairG K (a0 4) g4, bFairG K (a0 5) g5, bNotesG K (a0 6) g6, bPastG K (a0 7) f7_fairs g7, bTrialsG K (a0 8) ((a0 9) 0) ((a0 10) 0) ((a0 11) 0) g8, bFairG K (a0 9) q8.2.1, bOrderG K (a0 10) q8.2.2.1, bOrderG K (a0 11) q8.2.2.2.1]) rfl hj4) stm_n))))))))) rfl rfl rfl rfl dX11_rings_32 ?_
        refine r_istore_n (lv' := [(2, .int q8.1), (0, .ref ((a0 0) 0)), (1, .int x1)]) dX11_rings_35 (Nat.le_of_ble_eq_true rfl) rfl ?_
        refine r_iload_n 2 dX11_rings_36 rfl ?_
        refine r_iconst (x := (-1 : Int32)) dX11_rings_37 (by decide) ?_
        refine r_icmp_ne 45 dX11_rings_38 (by decide) (fun c9 => ?_) (fun c9 => ?_)
        · replace h := it_neg c9 h
          refine r_aload_n 1 dX11_rings_45 rfl ?_
          refine gNextStall_trials 0 rfl (tb_in (i := 13) (j := 4) rfl rfl) dX11_rings_46 ?_
          refine r_iload_n 2 dX11_rings_49 rfl ?_
          obtain ⟨q10, h10, h⟩ := bd_some h
          refine b_callVN (isC := [8, 9, 10, 11]) (ci := 7)  (st := []) (bs1 := ([bNextStallG K (a0 0) (fun j => some (f0_rules j 0)) f0_images ((a0 1) 0) ((a0 2) 0) ((a0 3) 0) ((a0 7) 0) ((a0 8) 0) g0, bTapeG K (a0 1) g1, bCursorG K (a0 2) g2, bWorldG K (a0 3) ((a0 4) 0) ((a0 5) 0) ((a0 6) 0) g3, bFairG K (a0 4) g4, bFairG K (a0 5) g5, bNotesG K (a0 6) g6, bPastG K (a0 7) f7_fairs g7, bTrialsG K (a0 8) ((a0 9) 0) ((a0 10) 0) ((a0 11) 0) g8, bFairG K (a0 9) q8.2.1, bOrderG K (a0 10) q8.2.2.1, bOrderG K (a0 11) q8.2.2.2.1] ++ (fam 6 (fun j => bRuleG K (f0_rules j) ((va_up p0_rules0 j4 q8.2.2.2.2) j)) ++ []))) (cTrials_whoStandsAt (a0 := fun b => a0 (8 + b)) (g0 := g8) (g1 := q8.2.1) (g2 := q8.2.2.1) (g3 := q8.2.2.2.1) h10) rfl rfl (Nat.le_of_ble_eq_true rfl) kTrials_whoStandsAt (List.mem_of_getElem? (i := 60) rfl) (by decide) (by decide) rfl rfl rfl rfl rfl rfl rfl dX11_rings_50 ?_
          have hq := Option.some.inj h
          subst hq
          exact r_iret rfl dX11_rings_53
        · replace h := it_pos c9 h
          refine r_iload_n 0 dX11_rings_41 rfl ?_
          refine r_goto 53 dX11_rings_42 (by decide) ?_
          have hq := Option.some.inj h
          subst hq
          exact r_iret rfl dX11_rings_53
    · replace h := it_pos c3 h
      refine r_bipush (x := (-3 : Int32)) dX11_rings_17 (by decide) ?_
      have hq := Option.some.inj h
      subst hq
      exact r_iret rfl dX11_rings_19
end
theorem dX11_seed_0 : decode cX11_seed 0 = .ok (.iload_n 1, 1) := by decide +kernel
theorem dX11_seed_1 : decode cX11_seed 1 = .ok (.ifCond .ge 5, 3) := by decide +kernel
theorem dX11_seed_4 : decode cX11_seed 4 = .ok (.iconst (-1), 1) := by decide +kernel
theorem dX11_seed_5 : decode cX11_seed 5 = .ok (.ireturn, 1) := by decide +kernel
theorem dX11_seed_6 : decode cX11_seed 6 = .ok (.aload_n 0, 1) := by decide +kernel
theorem dX11_seed_7 : decode cX11_seed 7 = .ok (.getfield 36, 3) := by decide +kernel
theorem dX11_seed_10 : decode cX11_seed 10 = .ok (.getfield 275, 3) := by decide +kernel
theorem dX11_seed_13 : decode cX11_seed 13 = .ok (.istore_n 2, 1) := by decide +kernel
theorem dX11_seed_14 : decode cX11_seed 14 = .ok (.aload_n 0, 1) := by decide +kernel
theorem dX11_seed_15 : decode cX11_seed 15 = .ok (.getfield 36, 3) := by decide +kernel
theorem dX11_seed_18 : decode cX11_seed 18 = .ok (.iload_n 1, 1) := by decide +kernel
theorem dX11_seed_19 : decode cX11_seed 19 = .ok (.putfield 275, 3) := by decide +kernel
theorem dX11_seed_22 : decode cX11_seed 22 = .ok (.iload_n 2, 1) := by decide +kernel
theorem dX11_seed_23 : decode cX11_seed 23 = .ok (.ireturn, 1) := by decide +kernel
abbrev MNextStall_seed : rx_M := (RX11, yX11_seed, cX11_seed, 3, (some .int), 1)
theorem kNextStall_seed : rKv MNextStall_seed 1 := ⟨tb_in (i := 36) (j := 5) rfl rfl, tb_in (i := 36) (j := 6) rfl rfl, tb_in (i := 2) (j := 22) rfl rfl, tb_in (i := 16) (j := 10) rfl rfl, ⟨by decide, by decide, by decide +kernel⟩, by decide⟩
section
variable {a0 : Nat → Nat → Nat} {g0 : tyNextStall} {g1 : tyTape} {g2 : tyCursor} {g3 : tyWorld} {g4 : tyFair} {g5 : tyFair} {g6 : tyNotes} {g7 : tyPast} {g8 : tyTrials} {g9 : tyFair} {g10 : tyOrder} {g11 : tyOrder} {f0_rules : Nat → Option Nat} {f0_images : Nat → Option Nat} {f7_fairs : Nat → Option Nat}
def mNextStall_seed (x1 : Int32) (g3 : tyWorld) : Option (Int32 × tyWorld) := (if 0 ≤ x1 then some (g3.2.2, (g3.1, g3.2.1, x1)) else some ((-1 : Int32), g3))
set_option maxHeartbeats 4000000 in
set_option maxRecDepth 20000 in
theorem cNextStall_seed {q : Int32 × tyWorld} {x1 : Int32} (h : mNextStall_seed x1 g3 = some q) : rMet l D Z (ty7 K) MNextStall_seed [.ref ((a0 0) 0), .int x1] (List.flatten [bNextStallG K (a0 0) f0_rules f0_images ((a0 1) 0) ((a0 2) 0) ((a0 3) 0) ((a0 7) 0) ((a0 8) 0) g0, bTapeG K (a0 1) g1, bCursorG K (a0 2) g2, bWorldG K (a0 3) ((a0 4) 0) ((a0 5) 0) ((a0 6) 0) g3, bFairG K (a0 4) g4, bFairG K (a0 5) g5, bNotesG K (a0 6) g6, bPastG K (a0 7) f7_fairs g7, bTrialsG K (a0 8) ((a0 9) 0) ((a0 10) 0) ((a0 11) 0) g8, bFairG K (a0 9) g9, bOrderG K (a0 10) g10, bOrderG K (a0 11) g11]) (List.flatten [bNextStallG K (a0 0) f0_rules f0_images ((a0 1) 0) ((a0 2) 0) ((a0 3) 0) ((a0 7) 0) ((a0 8) 0) g0, bTapeG K (a0 1) g1, bCursorG K (a0 2) g2, bWorldG K (a0 3) ((a0 4) 0) ((a0 5) 0) ((a0 6) 0) q.2, bFairG K (a0 4) g4, bFairG K (a0 5) g5, bNotesG K (a0 6) g6, bPastG K (a0 7) f7_fairs g7, bTrialsG K (a0 8) ((a0 9) 0) ((a0 10) 0) ((a0 11) 0) g8, bFairG K (a0 9) g9, bOrderG K (a0 10) g10, bOrderG K (a0 11) g11]) (some (.int q.1)) := by
  refine rMet.of (by decide) rfl (Nat.le_of_ble_eq_true rfl) ?_
  refine r_sub (lv' := [(0, .ref ((a0 0) 0)), (1, .int x1)]) [0, 1] rfl ?_
  unfold mNextStall_seed at h
  refine r_iload_n 1 dX11_seed_0 rfl ?_
  refine r_if_ge 6 dX11_seed_1 (by decide) (fun c1 => ?_) (fun c1 => ?_)
  · replace h := it_pos c1 h
    refine r_aload_n 0 dX11_seed_6 rfl ?_
    refine gNextStall_world 0 rfl (tb_in (i := 12) (j := 26) rfl rfl) dX11_seed_7 ?_
    refine gWorld_xN 3 rfl (List.mem_of_getElem? (i := 53) rfl) dX11_seed_10 ?_
    refine r_istore_n (lv' := [(2, .int g3.2.2), (0, .ref ((a0 0) 0)), (1, .int x1)]) dX11_seed_13 (Nat.le_of_ble_eq_true rfl) rfl ?_
    refine r_aload_n 1 dX11_seed_14 rfl ?_
    refine gNextStall_world 0 rfl (tb_in (i := 12) (j := 26) rfl rfl) dX11_seed_15 ?_
    refine r_iload_n 2 dX11_seed_18 rfl ?_
    refine pWorld_xN (bs1 := [bNextStallG K (a0 0) f0_rules f0_images ((a0 1) 0) ((a0 2) 0) ((a0 3) 0) ((a0 7) 0) ((a0 8) 0) g0, bTapeG K (a0 1) g1, bCursorG K (a0 2) g2, bWorld K (a0 3) ((a0 4) 0) ((a0 5) 0) ((a0 6) 0) g3.1 g3.2.1 x1, bFairG K (a0 4) g4, bFairG K (a0 5) g5, bNotesG K (a0 6) g6, bPastG K (a0 7) f7_fairs g7, bTrialsG K (a0 8) ((a0 9) 0) ((a0 10) 0) ((a0 11) 0) g8, bFairG K (a0 9) g9, bOrderG K (a0 10) g10, bOrderG K (a0 11) g11]) 3 rfl rfl (List.mem_of_getElem? (i := 53) rfl) dX11_seed_19 ?_
    refine r_iload_n 0 dX11_seed_22 rfl ?_
    have hq := Option.some.inj h
    subst hq
    exact r_iret rfl dX11_seed_23
  · replace h := it_neg c1 h
    refine r_iconst (x := (-1 : Int32)) dX11_seed_4 (by decide) ?_
    have hq := Option.some.inj h
    subst hq
    exact r_iret rfl dX11_seed_5
end
theorem dX11_rains_0 : decode cX11_rains 0 = .ok (.iload_n 1, 1) := by decide +kernel
theorem dX11_rains_1 : decode cX11_rains 1 = .ok (.iconst 1, 1) := by decide +kernel
theorem dX11_rains_2 : decode cX11_rains 2 = .ok (.bipush 10, 2) := by decide +kernel
theorem dX11_rains_4 : decode cX11_rains 4 = .ok (.invokestatic 70, 3) := by decide +kernel
theorem dX11_rains_7 : decode cX11_rains 7 = .ok (.ifCond .eq 37, 3) := by decide +kernel
theorem dX11_rains_10 : decode cX11_rains 10 = .ok (.iload_n 2, 1) := by decide +kernel
theorem dX11_rains_11 : decode cX11_rains 11 = .ok (.iconst 1, 1) := by decide +kernel
theorem dX11_rains_12 : decode cX11_rains 12 = .ok (.bipush 60, 2) := by decide +kernel
theorem dX11_rains_14 : decode cX11_rains 14 = .ok (.invokestatic 70, 3) := by decide +kernel
theorem dX11_rains_17 : decode cX11_rains 17 = .ok (.ifCond .eq 27, 3) := by decide +kernel
theorem dX11_rains_20 : decode cX11_rains 20 = .ok (.iload_n 3, 1) := by decide +kernel
theorem dX11_rains_21 : decode cX11_rains 21 = .ok (.iconst 0, 1) := by decide +kernel
theorem dX11_rains_22 : decode cX11_rains 22 = .ok (.bipush 100, 2) := by decide +kernel
theorem dX11_rains_24 : decode cX11_rains 24 = .ok (.invokestatic 70, 3) := by decide +kernel
theorem dX11_rains_27 : decode cX11_rains 27 = .ok (.ifCond .eq 17, 3) := by decide +kernel
theorem dX11_rains_30 : decode cX11_rains 30 = .ok (.iload 4, 2) := by decide +kernel
theorem dX11_rains_32 : decode cX11_rains 32 = .ok (.iconst 0, 1) := by decide +kernel
theorem dX11_rains_33 : decode cX11_rains 33 = .ok (.iconst 1, 1) := by decide +kernel
theorem dX11_rains_34 : decode cX11_rains 34 = .ok (.invokestatic 70, 3) := by decide +kernel
theorem dX11_rains_37 : decode cX11_rains 37 = .ok (.ifCond .eq 7, 3) := by decide +kernel
theorem dX11_rains_40 : decode cX11_rains 40 = .ok (.iconst 1, 1) := by decide +kernel
theorem dX11_rains_41 : decode cX11_rains 41 = .ok (.goto 4, 3) := by decide +kernel
theorem dX11_rains_44 : decode cX11_rains 44 = .ok (.iconst 0, 1) := by decide +kernel
theorem dX11_rains_45 : decode cX11_rains 45 = .ok (.istore 5, 2) := by decide +kernel
theorem dX11_rains_47 : decode cX11_rains 47 = .ok (.aload_n 0, 1) := by decide +kernel
theorem dX11_rains_48 : decode cX11_rains 48 = .ok (.getfield 36, 3) := by decide +kernel
theorem dX11_rains_51 : decode cX11_rains 51 = .ok (.getfield 166, 3) := by decide +kernel
theorem dX11_rains_54 : decode cX11_rains 54 = .ok (.ifCond .eq 8, 3) := by decide +kernel
theorem dX11_rains_57 : decode cX11_rains 57 = .ok (.iload 5, 2) := by decide +kernel
theorem dX11_rains_59 : decode cX11_rains 59 = .ok (.ifCond .ne 5, 3) := by decide +kernel
theorem dX11_rains_62 : decode cX11_rains 62 = .ok (.iconst (-1), 1) := by decide +kernel
theorem dX11_rains_63 : decode cX11_rains 63 = .ok (.ireturn, 1) := by decide +kernel
theorem dX11_rains_64 : decode cX11_rains 64 = .ok (.aload_n 0, 1) := by decide +kernel
theorem dX11_rains_65 : decode cX11_rains 65 = .ok (.getfield 58, 3) := by decide +kernel
theorem dX11_rains_68 : decode cX11_rains 68 = .ok (.aload_n 0, 1) := by decide +kernel
theorem dX11_rains_69 : decode cX11_rains 69 = .ok (.getfield 36, 3) := by decide +kernel
theorem dX11_rains_72 : decode cX11_rains 72 = .ok (.aload_n 0, 1) := by decide +kernel
theorem dX11_rains_73 : decode cX11_rains 73 = .ok (.invokevirtual 176, 3) := by decide +kernel
theorem dX11_rains_76 : decode cX11_rains 76 = .ok (.iload_n 1, 1) := by decide +kernel
theorem dX11_rains_77 : decode cX11_rains 77 = .ok (.iload_n 2, 1) := by decide +kernel
theorem dX11_rains_78 : decode cX11_rains 78 = .ok (.iload_n 3, 1) := by decide +kernel
theorem dX11_rains_79 : decode cX11_rains 79 = .ok (.invokevirtual 278, 3) := by decide +kernel
theorem dX11_rains_82 : decode cX11_rains 82 = .ok (.aload_n 0, 1) := by decide +kernel
theorem dX11_rains_83 : decode cX11_rains 83 = .ok (.getfield 58, 3) := by decide +kernel
theorem dX11_rains_86 : decode cX11_rains 86 = .ok (.getfield 230, 3) := by decide +kernel
theorem dX11_rains_89 : decode cX11_rains 89 = .ok (.iload 4, 2) := by decide +kernel
theorem dX11_rains_91 : decode cX11_rains 91 = .ok (.iaload, 1) := by decide +kernel
theorem dX11_rains_92 : decode cX11_rains 92 = .ok (.ireturn, 1) := by decide +kernel
abbrev MNextStall_rains : rx_M := (RX11, yX11_rains, cX11_rains, 6, (some .int), 7)
theorem kNextStall_rains : rKv MNextStall_rains 4 := ⟨tb_in (i := 36) (j := 11) rfl rfl, tb_in (i := 36) (j := 12) rfl rfl, tb_in (i := 2) (j := 22) rfl rfl, tb_in (i := 16) (j := 13) rfl rfl, ⟨by decide, by decide, by decide +kernel⟩, by decide⟩
section
variable {a0 : Nat → Nat → Nat} {g0 : tyNextStall} {g1 : tyTape} {g2 : tyCursor} {g3 : tyWorld} {g4 : tyFair} {g5 : tyFair} {g6 : tyNotes} {g7 : tyPast} {g8 : tyTrials} {g9 : tyFair} {g10 : tyOrder} {g11 : tyOrder} {f0_rules : Nat → Nat → Nat} {f0_images : Nat → Option Nat} {f7_fairs : Nat → Option Nat} {p0_rules0 : Nat → tyRule}
def mNextStall_rains_j45 (x1 : Int32) (x2 : Int32) (x3 : Int32) (x4 : Int32) (g0 : tyNextStall) (g3 : tyWorld) (g5 : tyFair) (g8 : tyTrials) (g9 : tyFair) (p0_rules0 : Nat → tyRule) (s0 : Int32) : Option (Int32 × tyTrials × tyFair × (Nat → tyRule)) := (if g3.1 = 0 then some ((-1 : Int32), g8, g9, p0_rules0) else (if s0 = 0 then some ((-1 : Int32), g8, g9, p0_rules0) else (mNextStall_ruleInForce g0 g3).bind (fun q5 => mt q5 ((mTrials_findRainsrn x1 x2 x3 g8 g9 g3 g5).bind (fun q6 => rq (inb x4 3) (some ((q6.1.1 x4.toNatClampNeg), q6.1, q6.2, p0_rules0)))) (fun j5 => rq (decide (j5 < 6)) ((mTrials_findRainsrr x1 x2 x3 g8 g9 g3 g5 (p0_rules0 j5)).bind (fun q8 => rq (inb x4 3) (some ((q8.1.1 x4.toNatClampNeg), q8.1, q8.2.1, (va_up p0_rules0 j5 q8.2.2)))))))))
set_option maxHeartbeats 4000000 in
set_option maxRecDepth 20000 in
theorem cNextStall_rains_j45 {q : Int32 × tyTrials × tyFair × (Nat → tyRule)} {x1 : Int32} {x2 : Int32} {x3 : Int32} {x4 : Int32} {s0 : Int32}  (h : mNextStall_rains_j45 x1 x2 x3 x4 g0 g3 g5 g8 g9 p0_rules0 s0 = some q) : rW l D Z (ty7 K) MNextStall_rains 45 [(0, .ref ((a0 0) 0)), (1, .int x1), (2, .int x2), (3, .int x3), (4, .int x4)] [.int s0] (List.flatten ([bNextStallG K (a0 0) (fun j => some (f0_rules j 0)) f0_images ((a0 1) 0) ((a0 2) 0) ((a0 3) 0) ((a0 7) 0) ((a0 8) 0) g0, bTapeG K (a0 1) g1, bCursorG K (a0 2) g2, bWorldG K (a0 3) ((a0 4) 0) ((a0 5) 0) ((a0 6) 0) g3, bFairG K (a0 4) g4, bFairG K (a0 5) g5, bNotesG K (a0 6) g6, bPastG K (a0 7) f7_fairs g7, bTrialsG K (a0 8) ((a0 9) 0) ((a0 10) 0) ((a0 11) 0) g8, bFairG K (a0 9) g9, bOrderG K (a0 10) g10, bOrderG K (a0 11) g11] ++ (fam 6 (fun j => bRuleG K (f0_rules j) (p0_rules0 j)) ++ []))) (List.flatten ([bNextStallG K (a0 0) (fun j => some (f0_rules j 0)) f0_images ((a0 1) 0) ((a0 2) 0) ((a0 3) 0) ((a0 7) 0) ((a0 8) 0) g0, bTapeG K (a0 1) g1, bCursorG K (a0 2) g2, bWorldG K (a0 3) ((a0 4) 0) ((a0 5) 0) ((a0 6) 0) g3, bFairG K (a0 4) g4, bFairG K (a0 5) g5, bNotesG K (a0 6) g6, bPastG K (a0 7) f7_fairs g7, bTrialsG K (a0 8) ((a0 9) 0) ((a0 10) 0) ((a0 11) 0) q.2.1, bFairG K (a0 9) q.2.2.1, bOrderG K (a0 10) g10, bOrderG K (a0 11) g11] ++ (fam 6 (fun j => bRuleG K (f0_rules j) (q.2.2.2 j)) ++ []))) (some (.int q.1)) := by
  unfold mNextStall_rains_j45 at h
  refine r_istore (lv' := [(5, .int s0), (0, .ref ((a0 0) 0)), (1, .int x1), (2, .int x2), (3, .int x3), (4, .int x4)]) dX11_rains_45 (Nat.le_of_ble_eq_true rfl) rfl ?_
  refine r_aload_n 1 dX11_rains_47 rfl ?_
  refine gNextStall_world 0 rfl (tb_in (i := 12) (j := 26) rfl rfl) dX11_rains_48 ?_
  refine gWorld_openN 3 rfl (List.mem_of_getElem? (i := 50) rfl) dX11_rains_51 ?_
  refine r_if_eq 62 dX11_rains_54 (by decide) (fun c3 => ?_) (fun c3 => ?_)
  · replace h := it_pos c3 h
    refine r_iconst (x := (-1 : Int32)) dX11_rains_62 (by decide) ?_
    have hq := Option.some.inj h
    subst hq
    exact r_iret rfl dX11_rains_63
  · replace h := it_neg c3 h
    refine r_iload 0 dX11_rains_57 rfl ?_
    refine r_if_ne 64 dX11_rains_59 (by decide) (fun c4 => ?_) (fun c4 => ?_)
    · replace h := it_neg c4 h
      refine r_aload_n 1 dX11_rains_64 rfl ?_
      refine gNextStall_trials 0 rfl (tb_in (i := 13) (j := 4) rfl rfl) dX11_rains_65 ?_
      refine r_aload_n 1 dX11_rains_68 rfl ?_
      refine gNextStall_world 0 rfl (tb_in (i := 12) (j := 26) rfl rfl) dX11_rains_69 ?_
      refine r_aload_n 1 dX11_rains_72 rfl ?_
      obtain ⟨q5, h5, h⟩ := bd_some h
      refine b_callV (isC := ([0, 1, 2, 3, 4, 5, 6, 7, 8, 9, 10, 11] ++ (List.range' 12 6 ++ []))) (ci := 9)  (st := [.ref ((a0 3) 0), .ref ((a0 8) 0)]) (bs1 := ([bNextStallG K (a0 0) (fun j => some (f0_rules j 0)) f0_images ((a0 1) 0) ((a0 2) 0) ((a0 3) 0) ((a0 7) 0) ((a0 8) 0) g0, bTapeG K (a0 1) g1, bCursorG K (a0 2) g2, bWorldG K (a0 3) ((a0 4) 0) ((a0 5) 0) ((a0 6) 0) g3, bFairG K (a0 4) g4, bFairG K (a0 5) g5, bNotesG K (a0 6) g6, bPastG K (a0 7) f7_fairs g7, bTrialsG K (a0 8) ((a0 9) 0) ((a0 10) 0) ((a0 11) 0) g8, bFairG K (a0 9) g9, bOrderG K (a0 10) g10, bOrderG K (a0 11) g11] ++ (fam 6 (fun j => bRuleG K (f0_rules j) (p0_rules0 j)) ++ []))) (cNextStall_ruleInForce (a0 := a0) (f0_rules := f0_rules) (g0 := g0) (g1 := g1) (g2 := g2) (g3 := g3) (g4 := g4) (g5 := g5) (g6 := g6) (g7 := g7) (g8 := g8) (g9 := g9) (g10 := g10) (g11 := g11) (p0_rules0 := p0_rules0) h5) rfl rfl (Nat.le_of_ble_eq_true rfl) kNextStall_ruleInForce (tb_in (i := 14) (j := 11) rfl rfl) (by decide) (by decide +kernel) (map_app rfl (map_app (map_f0 (n := 6) (l := [bNextStallG K (a0 0) (fun j => some (f0_rules j 0)) f0_images ((a0 1) 0) ((a0 2) 0) ((a0 3) 0) ((a0 7) 0) ((a0 8) 0) g0, bTapeG K (a0 1) g1, bCursorG K (a0 2) g2, bWorldG K (a0 3) ((a0 4) 0) ((a0 5) 0) ((a0 6) 0) g3, bFairG K (a0 4) g4, bFairG K (a0 5) g5, bNotesG K (a0 6) g6, bPastG K (a0 7) f7_fairs g7, bTrialsG K (a0 8) ((a0 9) 0) ((a0 10) 0) ((a0 11) 0) g8, bFairG K (a0 9) g9, bOrderG K (a0 10) g10, bOrderG K (a0 11) g11]) rfl) rfl)) (by simp only [List.length_append, fam_len, List.length_range', List.length_cons, List.length_nil]) (stm_a (bs1 := ([bNextStallG K (a0 0) (fun j => some (f0_rules j 0)) f0_images ((a0 1) 0) ((a0 2) 0) ((a0 3) 0) ((a0 7) 0) ((a0 8) 0) g0, bTapeG K (a0 1) g1, bCursorG K (a0 2) g2, bWorldG K (a0 3) ((a0 4) 0) ((a0 5) 0) ((a0 6) 0) g3, bFairG K (a0 4) g4, bFairG K (a0 5) g5, bNotesG K (a0 6) g6, bPastG K (a0 7) f7_fairs g7, bTrialsG K (a0 8) ((a0 9) 0) ((a0 10) 0) ((a0 11) 0) g8, bFairG K (a0 9) g9, bOrderG K (a0 10) g10, bOrderG K (a0 11) g11] ++ (fam 6 (fun j => bRuleG K (f0_rules j) (p0_rules0 j)) ++ []))) rfl rfl (stm_a (bs1 := ([bNextStallG K (a0 0) (fun j => some (f0_rules j 0)) f0_images ((a0 1) 0) ((a0 2) 0) ((a0 3) 0) ((a0 7) 0) ((a0 8) 0) g0, bTapeG K (a0 1) g1, bCursorG K (a0 2) g2, bWorldG K (a0 3) ((a0 4) 0) ((a0 5) 0) ((a0 6) 0) g3, bFairG K (a0 4) g4, bFairG K (a0 5) g5, bNotesG K (a0 6) g6, bPastG K (a0 7) f7_fairs g7, bTrialsG K (a0 8) ((a0 9) 0) ((a0 10) 0) ((a0 11) 0) g8, bFairG K (a0 9) g9, bOrderG K (a0 10) g10, bOrderG K (a0 11) g11] ++ (fam 6 (fun j => bRuleG K (f0_rules j) (p0_rules0 j)) ++ []))) (by rw [List.length_range', fam_len]) (stm_f0 (n := 6) (l := [bNextStallG K (a0 0) (fun j => some (f0_rules j 0)) f0_images ((a0 1) 0) ((a0 2) 0) ((a0 3) 0) ((a0 7) 0) ((a0 8) 0) g0, bTapeG K (a0 1) g1, bCursorG K (a0 2) g2, bWorldG K (a0 3) ((a0 4) 0) ((a0 5) 0) ((a0 6) 0) g3, bFairG K (a0 4) g4, bFairG K (a0 5) g5, bNotesG K (a0 6) g6, bPastG K (a0 7) f7_fairs g7, bTrialsG K (a0 8) ((a0 9) 0) ((a0 10) 0) ((a0 11) 0) g8, bFairG K (a0 9) g9, bOrderG K (a0 10) g10, bOrderG K (a0 11) g11]) rfl) rfl)) rfl rfl rfl rfl dX11_rains_73 ?_
      cases q5 with
      | none =>
        replace h := mt_n h
        refine r_st (st' := [.null, .ref ((a0 3) 0), .ref ((a0 8) 0)]) rfl ?_
        refine r_iload_n 2 dX11_rains_76 rfl ?_
        refine r_iload_n 3 dX11_rains_77 rfl ?_
        refine r_iload_n 4 dX11_rains_78 rfl ?_
        obtain ⟨q6, h6, h⟩ := bd_some h
        refine b_callVN (isC := [8, 9, 10, 11, 3, 4, 5, 6]) (ci := 7)  (st := []) (bs1 := ([bNextStallG K (a0 0) (fun j => some (f0_rules j 0)) f0_images ((a0 1) 0) ((a0 2) 0) ((a0 3) 0) ((a0 7) 0) ((a0 8) 0) g0, bTapeG K (a0 1) g1, bCursorG K (a0 2) g2, bWorldG K (a0 3) ((a0 4) 0) ((a0 5) 0) ((a0 6) 0) g3, bFairG K (a0 4) g4, bFairG K (a0 5) g5, bNotesG K (a0 6) g6, bPastG K (a0 7) f7_fairs g7, bTrialsG K (a0 8) ((a0 9) 0) ((a0 10) 0) ((a0 11) 0) q6.1, bFairG K (a0 9) q6.2, bOrderG K (a0 10) g10, bOrderG K (a0 11) g11] ++ (fam 6 (fun j => bRuleG K (f0_rules j) (p0_rules0 j)) ++ []))) (cTrials_findRainsrn (a0 := fun b => a0 (8 + b)) (a1 := fun b => a0 (3 + b)) (g0 := g8) (g1 := g9) (g2 := g10) (g3 := g11) (g4 := g3) (g5 := g4) (g6 := g5) (g7 := g6) h6) rfl rfl (Nat.le_of_ble_eq_true rfl) kTrials_findRainsrn (List.mem_of_getElem? (i := 81) rfl) (by decide) (by decide) rfl rfl rfl rfl rfl rfl rfl dX11_rains_79 ?_
        refine r_aload_n 1 dX11_rains_82 rfl ?_
        refine gNextStall_trials 0 rfl (tb_in (i := 13) (j := 4) rfl rfl) dX11_rains_83 ?_
        refine gTrials_foundN 8 rfl (List.mem_of_getElem? (i := 63) rfl) dX11_rains_86 ?_
        refine r_iload 5 dX11_rains_89 rfl ?_
        obtain ⟨h7, h⟩ := rq_some h
        refine lTrials_found 8 rfl (inb_in h7) dX11_rains_91 ?_
        have hq := Option.some.inj h
        subst hq
        exact r_iret rfl dX11_rains_92
      | some j5 =>
        replace h := mt_s h
        obtain ⟨hg5, h⟩ := rq_some h
        have hj5 := of_decide_eq_true hg5
        refine r_st (st' := [.ref (f0_rules j5 0), .ref ((a0 3) 0), .ref ((a0 8) 0)]) rfl ?_
        refine r_iload_n 2 dX11_rains_76 rfl ?_
        refine r_iload_n 3 dX11_rains_77 rfl ?_
        refine r_iload_n 4 dX11_rains_78 rfl ?_
        obtain ⟨q8, h8, h⟩ := bd_some h
        refine b_callVN (isC := [8, 9, 10, 11, 3, 4, 5, 6, 12 + j5]) (ci := 7)  (st := []) (bs1 := ([bNextStallG K (a0 0) (fun j => some (f0_rules j 0)) f0_images ((a0 1) 0) ((a0 2) 0) ((a0 3) 0) ((a0 7) 0) ((a0 8) 0) g0, bTapeG K (a0 1) g1, bCursorG K (a0 2) g2, bWorldG K (a0 3) ((a0 4) 0) ((a0 5) 0) ((a0 6) 0) g3, bFairG K (a0 4) g4, bFairG K (a0 5) g5, bNotesG K (a0 6) g6, bPastG K (a0 7) f7_fairs g7, bTrialsG K (a0 8) ((a0 9) 0) ((a0 10) 0) ((a0 11) 0) q8.1, bFairG K (a0 9) q8.2.1, bOrderG K (a0 10) g10, bOrderG K (a0 11) g11] ++ (fam 6 (fun j => bRuleG K (f0_rules j) ((va_up p0_rules0 j5 q8.2.2) j)) ++ []))) (cTrials_findRainsrr (a0 := fun b => a0 (8 + b)) (a1 := fun b => a0 (3 + b)) (a2 := f0_rules j5) (g0 := g8) (g1 := g9) (g2 := g10) (g3 := g11) (g4 := g3) (g5 := g4) (g6 := g5) (g7 := g6) (g8 := (p0_rules0 j5)) h8) rfl rfl (Nat.le_of_ble_eq_true rfl) kTrials_findRainsrr (List.mem_of_getElem? (i := 81) rfl) (by decide) (by simp only [List.nodup_cons, List.mem_cons, List.not_mem_nil, or_false, not_or, List.nodup_nil, not_false_eq_true, and_true]; omega) (map_s (rfl) (map_s (rfl) (map_s (rfl) (map_s (rfl) (map_s (rfl) (map_s (rfl) (map_s (rfl) (map_s (rfl) (map_s (fq0 (B := fun j g => bRuleG K (f0_rules j) g) (l := [bNextStallG K (a0 0) (fun j => some (f0_rules j 0)) f0_images ((a0 1) 0) ((a0 2) 0) ((a0 3) 0) ((a0 7) 0) ((a0 8) 0) g0, bTapeG K (a0 1) g1, bCursorG K (a0 2) g2, bWorldG K (a0 3) ((a0 4) 0) ((a0 5) 0) ((a0 6) 0) g3, bFairG K (a0 4) g4, bFairG K (a0 5) g5, bNotesG K (a0 6) g6, bPastG K (a0 7) f7_fairs g7, bTrialsG K (a0 8) ((a0 9) 0) ((a0 10) 0) ((a0 11) 0) g8, bFairG K (a0 9) g9, bOrderG K (a0 10) g10, bOrderG K (a0 11) g11]) rfl hj5) map_n))))))))) rfl (stm_s (bs1 := ([bNextStallG K (a0 0) (fun j => some (f0_rules j 0)) f0_images ((a0 1) 0) ((a0 2) 0) ((a0 3) 0) ((a0 7) 0) ((a0 8) 0) g0, bTapeG K (a0 1) g1, bCursorG K (a0 2) g2, bWorldG K (a0 3) ((a0 4) 0) ((a0 5) 0) ((a0 6) 0) g3, bFairG K (a0 4) g4, bFairG K (a0 5) g5, bNotesG K (a0 6) g6, bPastG K (a0 7) f7_fairs g7, bTrialsG K (a0 8) ((a0 9) 0) ((a0 10) 0) ((a0 11) 0) q8.1, bFairG K (a0 9) g9, bOrderG K (a0 10) g10, bOrderG K (a0 11) g11] ++ (fam 6 (fun j => bRuleG K (f0_rules j) (p0_rules0 j)) ++ []))) (rfl) (stm_s (bs1 := ([bNextStallG K (a0 0) (fun j => some (f0_rules j 0)) f0_images ((a0 1) 0) ((a0 2) 0) ((a0 3) 0) ((a0 7) 0) ((a0 8) 0) g0, bTapeG K (a0 1) g1, bCursorG K (a0 2) g2, bWorldG K (a0 3) ((a0 4) 0) ((a0 5) 0) ((a0 6) 0) g3, bFairG K (a0 4) g4, bFairG K (a0 5) g5, bNotesG K (a0 6) g6, bPastG K (a0 7) f7_fairs g7, bTrialsG K (a0 8) ((a0 9) 0) ((a0 10) 0) ((a0 11) 0) q8.1, bFairG K (a0 9) q8.2.1, bOrderG K (a0 10) g10, bOrderG K (a0 11) g11] ++ (fam 6 (fun j => bRuleG K (f0_rules j) (p0_rules0 j)) ++ []))) (rfl) (stm_s (bs1 := ([bNextStallG K (a0 0) (fun j => some (f0_rules j 0)) f0_images ((a0 1) 0) ((a0 2) 0) ((a0 3) 0) ((a0 7) 0) ((a0 8) 0) g0, bTapeG K (a0 1) g1, bCursorG K (a0 2) g2, bWorldG K (a0 3) ((a0 4) 0) ((a0 5) 0) ((a0 6) 0) g3, bFairG K (a0 4) g4, bFairG K (a0 5) g5, bNotesG K (a0 6) g6, bPastG K (a0 7) f7_fairs g7, bTrialsG K (a0 8) ((a0 9) 0) ((a0 10) 0) ((a0 11) 0) q8.1, bFairG K (a0 9) q8.2.1, bOrderG K (a0 10) g10, bOrderG K (a0 11) g11] ++ (fam 6 (fun j => bRuleG K (f0_rules j) (p0_rules0 j)) ++ []))) (rfl) (stm_s (bs1 := ([bNextStallG K (a0 0) (fun j => some (f0_rules j 0)) f0_images ((a0 1) 0) ((a0 2) 0) ((a0 3) 0) ((a0 7) 0) ((a0 8) 0) g0, bTapeG K (a0 1) g1, bCursorG K (a0 2) g2, bWorldG K (a0 3) ((a0 4) 0) ((a0 5) 0) ((a0 6) 0) g3, bFairG K (a0 4) g4, bFairG K (a0 5) g5, bNotesG K (a0 6) g6, bPastG K (a0 7) f7_fairs g7, bTrialsG K (a0 8) ((a0 9) 0) ((a0 10) 0) ((a0 11) 0) q8.1, bFairG K (a0 9) q8.2.1, bOrderG K (a0 10) g10, bOrderG K (a0 11) g11] ++ (fam 6 (fun j => bRuleG K (f0_rules j) (p0_rules0 j)) ++ []))) (rfl) (stm_s (bs1 := ([bNextStallG K (a0 0) (fun j => some (f0_rules j 0)) f0_images ((a0 1) 0) ((a0 2) 0) ((a0 3) 0) ((a0 7) 0) ((a0 8) 0) g0, bTapeG K (a0 1) g1, bCursorG K (a0 2) g2, bWorldG K (a0 3) ((a0 4) 0) ((a0 5) 0) ((a0 6) 0) g3, bFairG K (a0 4) g4, bFairG K (a0 5) g5, bNotesG K (a0 6) g6, bPastG K (a0 7) f7_fairs g7, bTrialsG K (a0 8) ((a0 9) 0) ((a0 10) 0) ((a0 11) 0) q8.1, bFairG K (a0 9) q8.2.1, bOrderG K (a0 10) g10, bOrderG K (a0 11) g11] ++ (fam 6 (fun j => bRuleG K (f0_rules j) (p0_rules0 j)) ++ []))) (rfl) (stm_s (bs1 := ([bNextStallG K (a0 0) (fun j => some (f0_rules j 0)) f0_images ((a0 1) 0) ((a0 2) 0) ((a0 3) 0) ((a0 7) 0) ((a0 8) 0) g0, bTapeG K (a0 1) g1, bCursorG K (a0 2) g2, bWorldG K (a0 3) ((a0 4) 0) ((a0 5) 0) ((a0 6) 0) g3, bFairG K (a0 4) g4, bFairG K (a0 5) g5, bNotesG K (a0 6) g6, bPastG K (a0 7) f7_fairs g7, bTrialsG K (a0 8) ((a0 9) 0) ((a0 10) 0) ((a0 11) 0) q8.1, bFairG K (a0 9) q8.2.1, bOrderG K (a0 10) g10, bOrderG K (a0 11) g11] ++ (fam 6 (fun j => bRuleG K (f0_rules j) (p0_rules0 j)) ++ []))) (rfl) (stm_s (bs1 := ([bNextStallG K (a0 0) (fun j => some (f0_rules j 0)) f0_images ((a0 1) 0) ((a0 2) 0) ((a0 3) 0) ((a0 7) 0) ((a0 8) 0) g0, bTapeG K (a0 1) g1, bCursorG K (a0 2) g2, bWorldG K (a0 3) ((a0 4) 0) ((a0 5) 0) ((a0 6) 0) g3, bFairG K (a0 4) g4, bFairG K (a0 5) g5, bNotesG K (a0 6) g6, bPastG K (a0 7) f7_fairs g7, bTrialsG K (a0 8) ((a0 9) 0) ((a0 10) 0) ((a0 11) 0) q8.1, bFairG K (a0 9) q8.2.1, bOrderG K (a0 10) g10, bOrderG K (a0 11) g11] ++ (fam 6 (fun j => bRuleG K (f0_rules j) (p0_rules0 j)) ++ []))) (rfl) (stm_s (bs1 := ([bNextStallG K (a0 0) (fun j => some (f0_rules j 0)) f0_images ((a0 1) 0) ((a0 2) 0) ((a0 3) 0) ((a0 7) 0) ((a0 8) 0) g0, bTapeG K (a0 1) g1, bCursorG K (a0 2) g2, bWorldG K (a0 3) ((a0 4) 0) ((a0 5) 0) ((a0 6) 0) g3, bFairG K (a0 4) g4, bFairG K (a0 5) g5, bNotesG K (a0 6) g6, bPastG K (a0 7) f7_fairs g7, bTrialsG K (a0 8) ((a0 9) 0) ((a0 10) 0) ((a0 11) 0) q8.1, bFairG K (a0 9) q8.2.1, bOrderG K (a0 10) g10, bOrderG K (a0 11) g11] ++ (fam 6 (fun j => bRuleG K (f0_rules j) (p0_rules0 j)) ++ []))) (rfl) (stm_s (bs1 := ([bNextStallG K (a0 0) (fun j => some (f0_rules j 0)) f0_images ((a0 1) 0) ((a0 2) 0) ((a0 3) 0) ((a0 7) 0) ((a0 8) 0) g0, bTapeG K (a0 1) g1, bCursorG K (a0 2) g2, bWorldG K (a0 3) ((a0 4) 0) ((a0 5) 0) ((a0 6) 0) g3, bFairG K (a0 4) g4, bFairG K (a0 5) g5, bNotesG K (a0 6) g6, bPastG K (a0 7) f7_fairs g7, bTrialsG K (a0 8) ((a0 9) 0) ((a0 10) 0) ((a0 11) 0) q8.1, bFairG K (a0 9) q8.2.1, bOrderG K (a0 10) g10, bOrderG K (a0 11) g11] ++ (fam 6 (fun j => bRuleG K (f0_rules j) ((va_up p0_rules0 j5 q8.2.2) j)) ++ []))) (fs0 (B := fun j g => bRuleG K (f0_rules j) g) (g := q8.2.2) (l := [bNextStallG K (a0 0) (fun j => some (f0_rules j 0)) f0_images ((a0 1) 0) ((a0 2) 0) ((a0 3) 0) ((a0 7) 0) ((a0 8) 0) g0, bTapeG K (a0 1) g1, bCursorG K (a0 2) g2, bWorldG K (a0 3) ((a0 4) 0) ((a0 5) 0) ((a0 6) 0) g3, bFairG K (a0 4) g4, bFairG K (a0 5) g5, bNotesG K (a0 6) g6, bPastG K (a0 7) f7_fairs g7, bTrialsG K (a0 8) ((a0 9) 0) ((a0 10) 0) ((a0 11) 0) q8.1, bFairG K (a0 9) q8.2.1, bOrderG K (a0 10) g10, bOrderG K (a0 11) g11]) rfl hj5) stm_n))))))))) rfl rfl rfl rfl dX11_rains_79 ?_
        refine r_aload_n 1 dX11_rains_82 rfl ?_
        refine gNextStall_trials 0 rfl (tb_in (i := 13) (j := 4) rfl rfl) dX11_rains_83 ?_
        refine gTrials_foundN 8 rfl (List.mem_of_getElem? (i := 63) rfl) dX11_rains_86 ?_
        refine r_iload 5 dX11_rains_89 rfl ?_
        obtain ⟨h9, h⟩ := rq_some h
        refine lTrials_found 8 rfl (inb_in h9) dX11_rains_91 ?_
        have hq := Option.some.inj h
        subst hq
        exact r_iret rfl dX11_rains_92
    · replace h := it_pos c4 h
      refine r_iconst (x := (-1 : Int32)) dX11_rains_62 (by decide) ?_
      have hq := Option.some.inj h
      subst hq
      exact r_iret rfl dX11_rains_63
def mNextStall_rains_j44 (x1 : Int32) (x2 : Int32) (x3 : Int32) (x4 : Int32) (g0 : tyNextStall) (g3 : tyWorld) (g5 : tyFair) (g8 : tyTrials) (g9 : tyFair) (p0_rules0 : Nat → tyRule) : Option (Int32 × tyTrials × tyFair × (Nat → tyRule)) := mNextStall_rains_j45 x1 x2 x3 x4 g0 g3 g5 g8 g9 p0_rules0 (0 : Int32)
set_option maxHeartbeats 4000000 in
set_option maxRecDepth 20000 in
theorem cNextStall_rains_j44 {q : Int32 × tyTrials × tyFair × (Nat → tyRule)} {x1 : Int32} {x2 : Int32} {x3 : Int32} {x4 : Int32}  (h : mNextStall_rains_j44 x1 x2 x3 x4 g0 g3 g5 g8 g9 p0_rules0 = some q) : rW l D Z (ty7 K) MNextStall_rains 44 [(0, .ref ((a0 0) 0)), (1, .int x1), (2, .int x2), (3, .int x3), (4, .int x4)] [] (List.flatten ([bNextStallG K (a0 0) (fun j => some (f0_rules j 0)) f0_images ((a0 1) 0) ((a0 2) 0) ((a0 3) 0) ((a0 7) 0) ((a0 8) 0) g0, bTapeG K (a0 1) g1, bCursorG K (a0 2) g2, bWorldG K (a0 3) ((a0 4) 0) ((a0 5) 0) ((a0 6) 0) g3, bFairG K (a0 4) g4, bFairG K (a0 5) g5, bNotesG K (a0 6) g6, bPastG K (a0 7) f7_fairs g7, bTrialsG K (a0 8) ((a0 9) 0) ((a0 10) 0) ((a0 11) 0) g8, bFairG K (a0 9) g9, bOrderG K (a0 10) g10, bOrderG K (a0 11) g11] ++ (fam 6 (fun j => bRuleG K (f0_rules j) (p0_rules0 j)) ++ []))) (List.flatten ([bNextStallG K (a0 0) (fun j => some (f0_rules j 0)) f0_images ((a0 1) 0) ((a0 2) 0) ((a0 3) 0) ((a0 7) 0) ((a0 8) 0) g0, bTapeG K (a0 1) g1, bCursorG K (a0 2) g2, bWorldG K (a0 3) ((a0 4) 0) ((a0 5) 0) ((a0 6) 0) g3, bFairG K (a0 4) g4, bFairG K (a0 5) g5, bNotesG K (a0 6) g6, bPastG K (a0 7) f7_fairs g7, bTrialsG K (a0 8) ((a0 9) 0) ((a0 10) 0) ((a0 11) 0) q.2.1, bFairG K (a0 9) q.2.2.1, bOrderG K (a0 10) g10, bOrderG K (a0 11) g11] ++ (fam 6 (fun j => bRuleG K (f0_rules j) (q.2.2.2 j)) ++ []))) (some (.int q.1)) := by
  unfold mNextStall_rains_j44 at h
  refine r_iconst (x := (0 : Int32)) dX11_rains_44 (by decide) ?_
  exact cNextStall_rains_j45 (g0 := g0) (g3 := g3) (g5 := g5) (g8 := g8) (g9 := g9) (p0_rules0 := p0_rules0)  h
def mNextStall_rains (x1 : Int32) (x2 : Int32) (x3 : Int32) (x4 : Int32) (g0 : tyNextStall) (g3 : tyWorld) (g5 : tyFair) (g8 : tyTrials) (g9 : tyFair) (p0_rules0 : Nat → tyRule) : Option (Int32 × tyTrials × tyFair × (Nat → tyRule)) := (mNextStall_within x1 (1 : Int32) (10 : Int32)).bind (fun q1 => (if q1 = 0 then mNextStall_rains_j44 x1 x2 x3 x4 g0 g3 g5 g8 g9 p0_rules0 else (mNextStall_within x2 (1 : Int32) (60 : Int32)).bind (fun q10 => (if q10 = 0 then mNextStall_rains_j44 x1 x2 x3 x4 g0 g3 g5 g8 g9 p0_rules0 else (mNextStall_within x3 (0 : Int32) (100 : Int32)).bind (fun q12 => (if q12 = 0 then mNextStall_rains_j44 x1 x2 x3 x4 g0 g3 g5 g8 g9 p0_rules0 else (mNextStall_within x4 (0 : Int32) (1 : Int32)).bind (fun q14 => (if q14 = 0 then mNextStall_rains_j44 x1 x2 x3 x4 g0 g3 g5 g8 g9 p0_rules0 else mNextStall_rains_j45 x1 x2 x3 x4 g0 g3 g5 g8 g9 p0_rules0 (1 : Int32)))))))))
set_option maxHeartbeats 4000000 in
set_option maxRecDepth 20000 in
theorem cNextStall_rains {q : Int32 × tyTrials × tyFair × (Nat → tyRule)} {x1 : Int32} {x2 : Int32} {x3 : Int32} {x4 : Int32} (h : mNextStall_rains x1 x2 x3 x4 g0 g3 g5 g8 g9 p0_rules0 = some q) : rMet l D Z (ty7 K) MNextStall_rains [.ref ((a0 0) 0), .int x1, .int x2, .int x3, .int x4] (List.flatten ([bNextStallG K (a0 0) (fun j => some (f0_rules j 0)) f0_images ((a0 1) 0) ((a0 2) 0) ((a0 3) 0) ((a0 7) 0) ((a0 8) 0) g0, bTapeG K (a0 1) g1, bCursorG K (a0 2) g2, bWorldG K (a0 3) ((a0 4) 0) ((a0 5) 0) ((a0 6) 0) g3, bFairG K (a0 4) g4, bFairG K (a0 5) g5, bNotesG K (a0 6) g6, bPastG K (a0 7) f7_fairs g7, bTrialsG K (a0 8) ((a0 9) 0) ((a0 10) 0) ((a0 11) 0) g8, bFairG K (a0 9) g9, bOrderG K (a0 10) g10, bOrderG K (a0 11) g11] ++ (fam 6 (fun j => bRuleG K (f0_rules j) (p0_rules0 j)) ++ []))) (List.flatten ([bNextStallG K (a0 0) (fun j => some (f0_rules j 0)) f0_images ((a0 1) 0) ((a0 2) 0) ((a0 3) 0) ((a0 7) 0) ((a0 8) 0) g0, bTapeG K (a0 1) g1, bCursorG K (a0 2) g2, bWorldG K (a0 3) ((a0 4) 0) ((a0 5) 0) ((a0 6) 0) g3, bFairG K (a0 4) g4, bFairG K (a0 5) g5, bNotesG K (a0 6) g6, bPastG K (a0 7) f7_fairs g7, bTrialsG K (a0 8) ((a0 9) 0) ((a0 10) 0) ((a0 11) 0) q.2.1, bFairG K (a0 9) q.2.2.1, bOrderG K (a0 10) g10, bOrderG K (a0 11) g11] ++ (fam 6 (fun j => bRuleG K (f0_rules j) (q.2.2.2 j)) ++ []))) (some (.int q.1)) := by
  refine rMet.of (by decide) rfl (Nat.le_of_ble_eq_true rfl) ?_
  refine r_sub (lv' := [(0, .ref ((a0 0) 0)), (1, .int x1), (2, .int x2), (3, .int x3), (4, .int x4)]) [0, 1, 2, 3, 4] rfl ?_
  unfold mNextStall_rains at h
  refine r_iload_n 1 dX11_rains_0 rfl ?_
  refine r_iconst (x := (1 : Int32)) dX11_rains_1 (by decide) ?_
  refine r_bipush (x := (10 : Int32)) dX11_rains_2 (by decide) ?_
  obtain ⟨q1, h1, h⟩ := bd_some h
  refine b_callS (isC := []) (st := []) (bs1 := ([bNextStallG K (a0 0) (fun j => some (f0_rules j 0)) f0_images ((a0 1) 0) ((a0 2) 0) ((a0 3) 0) ((a0 7) 0) ((a0 8) 0) g0, bTapeG K (a0 1) g1, bCursorG K (a0 2) g2, bWorldG K (a0 3) ((a0 4) 0) ((a0 5) 0) ((a0 6) 0) g3, bFairG K (a0 4) g4, bFairG K (a0 5) g5, bNotesG K (a0 6) g6, bPastG K (a0 7) f7_fairs g7, bTrialsG K (a0 8) ((a0 9) 0) ((a0 10) 0) ((a0 11) 0) g8, bFairG K (a0 9) g9, bOrderG K (a0 10) g10, bOrderG K (a0 11) g11] ++ (fam 6 (fun j => bRuleG K (f0_rules j) (p0_rules0 j)) ++ []))) (cNextStall_within   h1) rfl rfl (Nat.le_of_ble_eq_true rfl) kNextStall_within (tb_in (i := 13) (j := 17) rfl rfl) (by decide) (by decide) rfl rfl rfl dX11_rains_4 ?_
  refine r_if_eq 44 dX11_rains_7 (by decide) (fun c2 => ?_) (fun c2 => ?_)
  · replace h := it_pos c2 h
    exact cNextStall_rains_j44 (g0 := g0) (g3 := g3) (g5 := g5) (g8 := g8) (g9 := g9) (p0_rules0 := p0_rules0)  h
  · replace h := it_neg c2 h
    refine r_iload_n 2 dX11_rains_10 rfl ?_
    refine r_iconst (x := (1 : Int32)) dX11_rains_11 (by decide) ?_
    refine r_bipush (x := (60 : Int32)) dX11_rains_12 (by decide) ?_
    obtain ⟨q10, h10, h⟩ := bd_some h
    refine b_callS (isC := []) (st := []) (bs1 := ([bNextStallG K (a0 0) (fun j => some (f0_rules j 0)) f0_images ((a0 1) 0) ((a0 2) 0) ((a0 3) 0) ((a0 7) 0) ((a0 8) 0) g0, bTapeG K (a0 1) g1, bCursorG K (a0 2) g2, bWorldG K (a0 3) ((a0 4) 0) ((a0 5) 0) ((a0 6) 0) g3, bFairG K (a0 4) g4, bFairG K (a0 5) g5, bNotesG K (a0 6) g6, bPastG K (a0 7) f7_fairs g7, bTrialsG K (a0 8) ((a0 9) 0) ((a0 10) 0) ((a0 11) 0) g8, bFairG K (a0 9) g9, bOrderG K (a0 10) g10, bOrderG K (a0 11) g11] ++ (fam 6 (fun j => bRuleG K (f0_rules j) (p0_rules0 j)) ++ []))) (cNextStall_within   h10) rfl rfl (Nat.le_of_ble_eq_true rfl) kNextStall_within (tb_in (i := 13) (j := 17) rfl rfl) (by decide) (by decide) rfl rfl rfl dX11_rains_14 ?_
    refine r_if_eq 44 dX11_rains_17 (by decide) (fun c11 => ?_) (fun c11 => ?_)
    · replace h := it_pos c11 h
      exact cNextStall_rains_j44 (g0 := g0) (g3 := g3) (g5 := g5) (g8 := g8) (g9 := g9) (p0_rules0 := p0_rules0)  h
    · replace h := it_neg c11 h
      refine r_iload_n 3 dX11_rains_20 rfl ?_
      refine r_iconst (x := (0 : Int32)) dX11_rains_21 (by decide) ?_
      refine r_bipush (x := (100 : Int32)) dX11_rains_22 (by decide) ?_
      obtain ⟨q12, h12, h⟩ := bd_some h
      refine b_callS (isC := []) (st := []) (bs1 := ([bNextStallG K (a0 0) (fun j => some (f0_rules j 0)) f0_images ((a0 1) 0) ((a0 2) 0) ((a0 3) 0) ((a0 7) 0) ((a0 8) 0) g0, bTapeG K (a0 1) g1, bCursorG K (a0 2) g2, bWorldG K (a0 3) ((a0 4) 0) ((a0 5) 0) ((a0 6) 0) g3, bFairG K (a0 4) g4, bFairG K (a0 5) g5, bNotesG K (a0 6) g6, bPastG K (a0 7) f7_fairs g7, bTrialsG K (a0 8) ((a0 9) 0) ((a0 10) 0) ((a0 11) 0) g8, bFairG K (a0 9) g9, bOrderG K (a0 10) g10, bOrderG K (a0 11) g11] ++ (fam 6 (fun j => bRuleG K (f0_rules j) (p0_rules0 j)) ++ []))) (cNextStall_within   h12) rfl rfl (Nat.le_of_ble_eq_true rfl) kNextStall_within (tb_in (i := 13) (j := 17) rfl rfl) (by decide) (by decide) rfl rfl rfl dX11_rains_24 ?_
      refine r_if_eq 44 dX11_rains_27 (by decide) (fun c13 => ?_) (fun c13 => ?_)
      · replace h := it_pos c13 h
        exact cNextStall_rains_j44 (g0 := g0) (g3 := g3) (g5 := g5) (g8 := g8) (g9 := g9) (p0_rules0 := p0_rules0)  h
      · replace h := it_neg c13 h
        refine r_iload 4 dX11_rains_30 rfl ?_
        refine r_iconst (x := (0 : Int32)) dX11_rains_32 (by decide) ?_
        refine r_iconst (x := (1 : Int32)) dX11_rains_33 (by decide) ?_
        obtain ⟨q14, h14, h⟩ := bd_some h
        refine b_callS (isC := []) (st := []) (bs1 := ([bNextStallG K (a0 0) (fun j => some (f0_rules j 0)) f0_images ((a0 1) 0) ((a0 2) 0) ((a0 3) 0) ((a0 7) 0) ((a0 8) 0) g0, bTapeG K (a0 1) g1, bCursorG K (a0 2) g2, bWorldG K (a0 3) ((a0 4) 0) ((a0 5) 0) ((a0 6) 0) g3, bFairG K (a0 4) g4, bFairG K (a0 5) g5, bNotesG K (a0 6) g6, bPastG K (a0 7) f7_fairs g7, bTrialsG K (a0 8) ((a0 9) 0) ((a0 10) 0) ((a0 11) 0) g8, bFairG K (a0 9) g9, bOrderG K (a0 10) g10, bOrderG K (a0 11) g11] ++ (fam 6 (fun j => bRuleG K (f0_rules j) (p0_rules0 j)) ++ []))) (cNextStall_within   h14) rfl rfl (Nat.le_of_ble_eq_true rfl) kNextStall_within (tb_in (i := 13) (j := 17) rfl rfl) (by decide) (by decide) rfl rfl rfl dX11_rains_34 ?_
        refine r_if_eq 44 dX11_rains_37 (by decide) (fun c15 => ?_) (fun c15 => ?_)
        · replace h := it_pos c15 h
          exact cNextStall_rains_j44 (g0 := g0) (g3 := g3) (g5 := g5) (g8 := g8) (g9 := g9) (p0_rules0 := p0_rules0)  h
        · replace h := it_neg c15 h
          refine r_iconst (x := (1 : Int32)) dX11_rains_40 (by decide) ?_
          refine r_goto 45 dX11_rains_41 (by decide) ?_
          exact cNextStall_rains_j45 (g0 := g0) (g3 := g3) (g5 := g5) (g8 := g8) (g9 := g9) (p0_rules0 := p0_rules0)  h
end
end PC9
