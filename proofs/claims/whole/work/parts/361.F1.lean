section PC8
variable {l : Launch} {D : va_G} {Z : (Nat → Nat) × (Nat → Nat)} {K : Nat → ClassId}
theorem dX11_isBuyer_0 : decode cX11_isBuyer 0 = .ok (.iload_n 1, 1) := by decide +kernel
theorem dX11_isBuyer_1 : decode cX11_isBuyer 1 = .ok (.iconst 0, 1) := by decide +kernel
theorem dX11_isBuyer_2 : decode cX11_isBuyer 2 = .ok (.aload_n 0, 1) := by decide +kernel
theorem dX11_isBuyer_3 : decode cX11_isBuyer 3 = .ok (.getfield 36, 3) := by decide +kernel
theorem dX11_isBuyer_6 : decode cX11_isBuyer 6 = .ok (.getfield 119, 3) := by decide +kernel
theorem dX11_isBuyer_9 : decode cX11_isBuyer 9 = .ok (.getfield 288, 3) := by decide +kernel
theorem dX11_isBuyer_12 : decode cX11_isBuyer 12 = .ok (.iconst 1, 1) := by decide +kernel
theorem dX11_isBuyer_13 : decode cX11_isBuyer 13 = .ok (.isub, 1) := by decide +kernel
theorem dX11_isBuyer_14 : decode cX11_isBuyer 14 = .ok (.invokestatic 70, 3) := by decide +kernel
theorem dX11_isBuyer_17 : decode cX11_isBuyer 17 = .ok (.ireturn, 1) := by decide +kernel
abbrev MNextStall_isBuyer : rx_M := (RX11, yX11_isBuyer, cX11_isBuyer, 2, (some .boolean), 2)
theorem kNextStall_isBuyer : rKv MNextStall_isBuyer 1 := ⟨tb_in (i := 14) (j := 5) rfl rfl, tb_in (i := 14) (j := 6) rfl rfl, tb_in (i := 2) (j := 22) rfl rfl, tb_in (i := 14) (j := 2) rfl rfl, ⟨by decide, by decide, by decide +kernel⟩, by decide⟩
section
variable {a0 : Nat → Nat → Nat} {g0 : tyNextStall} {g1 : tyTape} {g2 : tyCursor} {g3 : tyWorld} {g4 : tyFair} {g5 : tyFair} {g6 : tyNotes} {g7 : tyPast} {g8 : tyTrials} {g9 : tyFair} {g10 : tyOrder} {g11 : tyOrder} {f0_rules : Nat → Option Nat} {f0_images : Nat → Option Nat} {f7_fairs : Nat → Option Nat}
def mNextStall_isBuyer (x1 : Int32) (g5 : tyFair) : Option (Int32) := (mNextStall_within x1 (0 : Int32) (g5.2.2.2.1 - (1 : Int32))).bind (fun q1 => rq (bo q1) (some (q1)))
set_option maxHeartbeats 4000000 in
set_option maxRecDepth 20000 in
theorem cNextStall_isBuyer {q : Int32} {x1 : Int32} (h : mNextStall_isBuyer x1 g5 = some q) : rMet l D Z (ty7 K) MNextStall_isBuyer [.ref ((a0 0) 0), .int x1] (List.flatten [bNextStallG K (a0 0) f0_rules f0_images ((a0 1) 0) ((a0 2) 0) ((a0 3) 0) ((a0 7) 0) ((a0 8) 0) g0, bTapeG K (a0 1) g1, bCursorG K (a0 2) g2, bWorldG K (a0 3) ((a0 4) 0) ((a0 5) 0) ((a0 6) 0) g3, bFairG K (a0 4) g4, bFairG K (a0 5) g5, bNotesG K (a0 6) g6, bPastG K (a0 7) f7_fairs g7, bTrialsG K (a0 8) ((a0 9) 0) ((a0 10) 0) ((a0 11) 0) g8, bFairG K (a0 9) g9, bOrderG K (a0 10) g10, bOrderG K (a0 11) g11]) (List.flatten [bNextStallG K (a0 0) f0_rules f0_images ((a0 1) 0) ((a0 2) 0) ((a0 3) 0) ((a0 7) 0) ((a0 8) 0) g0, bTapeG K (a0 1) g1, bCursorG K (a0 2) g2, bWorldG K (a0 3) ((a0 4) 0) ((a0 5) 0) ((a0 6) 0) g3, bFairG K (a0 4) g4, bFairG K (a0 5) g5, bNotesG K (a0 6) g6, bPastG K (a0 7) f7_fairs g7, bTrialsG K (a0 8) ((a0 9) 0) ((a0 10) 0) ((a0 11) 0) g8, bFairG K (a0 9) g9, bOrderG K (a0 10) g10, bOrderG K (a0 11) g11]) (some (.int q)) := by
  refine rMet.of (by decide) rfl (Nat.le_of_ble_eq_true rfl) ?_
  refine r_sub (lv' := [(0, .ref ((a0 0) 0)), (1, .int x1)]) [0, 1] rfl ?_
  unfold mNextStall_isBuyer at h
  refine r_iload_n 1 dX11_isBuyer_0 rfl ?_
  refine r_iconst (x := (0 : Int32)) dX11_isBuyer_1 (by decide) ?_
  refine r_aload_n 0 dX11_isBuyer_2 rfl ?_
  refine gNextStall_world 0 rfl (tb_in (i := 12) (j := 26) rfl rfl) dX11_isBuyer_3 ?_
  refine gWorld_nowN 3 rfl (List.mem_of_getElem? (i := 55) rfl) dX11_isBuyer_6 ?_
  refine gFair_buyersN 5 rfl (List.mem_of_getElem? (i := 19) rfl) dX11_isBuyer_9 ?_
  refine r_iconst (x := (1 : Int32)) dX11_isBuyer_12 (by decide) ?_
  refine r_isub dX11_isBuyer_13 ?_
  obtain ⟨q1, h1, h⟩ := bd_some h
  refine b_callS (isC := []) (st := []) (bs1 := [bNextStallG K (a0 0) f0_rules f0_images ((a0 1) 0) ((a0 2) 0) ((a0 3) 0) ((a0 7) 0) ((a0 8) 0) g0, bTapeG K (a0 1) g1, bCursorG K (a0 2) g2, bWorldG K (a0 3) ((a0 4) 0) ((a0 5) 0) ((a0 6) 0) g3, bFairG K (a0 4) g4, bFairG K (a0 5) g5, bNotesG K (a0 6) g6, bPastG K (a0 7) f7_fairs g7, bTrialsG K (a0 8) ((a0 9) 0) ((a0 10) 0) ((a0 11) 0) g8, bFairG K (a0 9) g9, bOrderG K (a0 10) g10, bOrderG K (a0 11) g11]) (cNextStall_within   h1) rfl rfl (Nat.le_of_ble_eq_true rfl) kNextStall_within (tb_in (i := 13) (j := 17) rfl rfl) (by decide) (by decide) rfl rfl rfl dX11_isBuyer_14 ?_
  obtain ⟨h2, h⟩ := rq_some h
  have hq := Option.some.inj h
  subst hq
  exact r_zret (ty := .boolean) rfl (bo_nar h2) dX11_isBuyer_17
end
theorem dX11_buyer_0 : decode cX11_buyer 0 = .ok (.aload_n 0, 1) := by decide +kernel
theorem dX11_buyer_1 : decode cX11_buyer 1 = .ok (.iload_n 1, 1) := by decide +kernel
theorem dX11_buyer_2 : decode cX11_buyer 2 = .ok (.invokevirtual 151, 3) := by decide +kernel
theorem dX11_buyer_5 : decode cX11_buyer 5 = .ok (.ifCond .ne 5, 3) := by decide +kernel
theorem dX11_buyer_8 : decode cX11_buyer 8 = .ok (.iconst (-1), 1) := by decide +kernel
theorem dX11_buyer_9 : decode cX11_buyer 9 = .ok (.ireturn, 1) := by decide +kernel
theorem dX11_buyer_10 : decode cX11_buyer 10 = .ok (.iload_n 2, 1) := by decide +kernel
theorem dX11_buyer_11 : decode cX11_buyer 11 = .ok (.tableswitch 63 0 2 #[25, 38, 51], 25) := by decide +kernel
theorem dX11_buyer_36 : decode cX11_buyer 36 = .ok (.aload_n 0, 1) := by decide +kernel
theorem dX11_buyer_37 : decode cX11_buyer 37 = .ok (.getfield 36, 3) := by decide +kernel
theorem dX11_buyer_40 : decode cX11_buyer 40 = .ok (.getfield 119, 3) := by decide +kernel
theorem dX11_buyer_43 : decode cX11_buyer 43 = .ok (.getfield 154, 3) := by decide +kernel
theorem dX11_buyer_46 : decode cX11_buyer 46 = .ok (.iload_n 1, 1) := by decide +kernel
theorem dX11_buyer_47 : decode cX11_buyer 47 = .ok (.iaload, 1) := by decide +kernel
theorem dX11_buyer_48 : decode cX11_buyer 48 = .ok (.ireturn, 1) := by decide +kernel
theorem dX11_buyer_49 : decode cX11_buyer 49 = .ok (.aload_n 0, 1) := by decide +kernel
theorem dX11_buyer_50 : decode cX11_buyer 50 = .ok (.getfield 36, 3) := by decide +kernel
theorem dX11_buyer_53 : decode cX11_buyer 53 = .ok (.getfield 119, 3) := by decide +kernel
theorem dX11_buyer_56 : decode cX11_buyer 56 = .ok (.getfield 157, 3) := by decide +kernel
theorem dX11_buyer_59 : decode cX11_buyer 59 = .ok (.iload_n 1, 1) := by decide +kernel
theorem dX11_buyer_60 : decode cX11_buyer 60 = .ok (.iaload, 1) := by decide +kernel
theorem dX11_buyer_61 : decode cX11_buyer 61 = .ok (.ireturn, 1) := by decide +kernel
theorem dX11_buyer_62 : decode cX11_buyer 62 = .ok (.aload_n 0, 1) := by decide +kernel
theorem dX11_buyer_63 : decode cX11_buyer 63 = .ok (.getfield 36, 3) := by decide +kernel
theorem dX11_buyer_66 : decode cX11_buyer 66 = .ok (.getfield 119, 3) := by decide +kernel
theorem dX11_buyer_69 : decode cX11_buyer 69 = .ok (.iload_n 1, 1) := by decide +kernel
theorem dX11_buyer_70 : decode cX11_buyer 70 = .ok (.invokevirtual 160, 3) := by decide +kernel
theorem dX11_buyer_73 : decode cX11_buyer 73 = .ok (.ireturn, 1) := by decide +kernel
theorem dX11_buyer_74 : decode cX11_buyer 74 = .ok (.iconst (-1), 1) := by decide +kernel
theorem dX11_buyer_75 : decode cX11_buyer 75 = .ok (.ireturn, 1) := by decide +kernel
abbrev MNextStall_buyer : rx_M := (RX11, yX11_buyer, cX11_buyer, 3, (some .int), 3)
theorem kNextStall_buyer : rKv MNextStall_buyer 2 := ⟨tb_in (i := 31) (j := 21) rfl rfl, tb_in (i := 31) (j := 22) rfl rfl, tb_in (i := 2) (j := 22) rfl rfl, tb_in (i := 14) (j := 3) rfl rfl, ⟨by decide, by decide, by decide +kernel⟩, by decide⟩
section
variable {a0 : Nat → Nat → Nat} {g0 : tyNextStall} {g1 : tyTape} {g2 : tyCursor} {g3 : tyWorld} {g4 : tyFair} {g5 : tyFair} {g6 : tyNotes} {g7 : tyPast} {g8 : tyTrials} {g9 : tyFair} {g10 : tyOrder} {g11 : tyOrder} {f0_rules : Nat → Option Nat} {f0_images : Nat → Option Nat} {f7_fairs : Nat → Option Nat}
def mNextStall_buyer (x1 : Int32) (x2 : Int32) (g5 : tyFair) : Option (Int32) := (mNextStall_isBuyer x1 g5).bind (fun q1 => (if q1 = 0 then some ((-1 : Int32)) else (if x2 = (0 : Int32) then rq (inb x1 6) (some ((g5.2.2.2.2.2.2.2.2.2.2.2.2.2.1 x1.toNatClampNeg))) else if x2 = (1 : Int32) then rq (inb x1 6) (some ((g5.2.2.2.2.2.2.2.2.2.2.2.2.2.2.1 x1.toNatClampNeg))) else if x2 = (2 : Int32) then (mFair_allThatCan x1 g5.2.2.1 g5.2.2.2.2.2.1 g5.2.2.2.2.2.2.1 g5.2.2.2.2.2.2.2.2.2.2.2.2.2.1).bind (fun q8 => some (q8)) else some ((-1 : Int32)))))
set_option maxHeartbeats 4000000 in
set_option maxRecDepth 20000 in
theorem cNextStall_buyer {q : Int32} {x1 : Int32} {x2 : Int32} (h : mNextStall_buyer x1 x2 g5 = some q) : rMet l D Z (ty7 K) MNextStall_buyer [.ref ((a0 0) 0), .int x1, .int x2] (List.flatten [bNextStallG K (a0 0) f0_rules f0_images ((a0 1) 0) ((a0 2) 0) ((a0 3) 0) ((a0 7) 0) ((a0 8) 0) g0, bTapeG K (a0 1) g1, bCursorG K (a0 2) g2, bWorldG K (a0 3) ((a0 4) 0) ((a0 5) 0) ((a0 6) 0) g3, bFairG K (a0 4) g4, bFairG K (a0 5) g5, bNotesG K (a0 6) g6, bPastG K (a0 7) f7_fairs g7, bTrialsG K (a0 8) ((a0 9) 0) ((a0 10) 0) ((a0 11) 0) g8, bFairG K (a0 9) g9, bOrderG K (a0 10) g10, bOrderG K (a0 11) g11]) (List.flatten [bNextStallG K (a0 0) f0_rules f0_images ((a0 1) 0) ((a0 2) 0) ((a0 3) 0) ((a0 7) 0) ((a0 8) 0) g0, bTapeG K (a0 1) g1, bCursorG K (a0 2) g2, bWorldG K (a0 3) ((a0 4) 0) ((a0 5) 0) ((a0 6) 0) g3, bFairG K (a0 4) g4, bFairG K (a0 5) g5, bNotesG K (a0 6) g6, bPastG K (a0 7) f7_fairs g7, bTrialsG K (a0 8) ((a0 9) 0) ((a0 10) 0) ((a0 11) 0) g8, bFairG K (a0 9) g9, bOrderG K (a0 10) g10, bOrderG K (a0 11) g11]) (some (.int q)) := by
  refine rMet.of (by decide) rfl (Nat.le_of_ble_eq_true rfl) ?_
  refine r_sub (lv' := [(0, .ref ((a0 0) 0)), (1, .int x1), (2, .int x2)]) [0, 1, 2] rfl ?_
  unfold mNextStall_buyer at h
  refine r_aload_n 0 dX11_buyer_0 rfl ?_
  refine r_iload_n 1 dX11_buyer_1 rfl ?_
  obtain ⟨q1, h1, h⟩ := bd_some h
  refine b_callV (isC := [0, 1, 2, 3, 4, 5, 6, 7, 8, 9, 10, 11]) (ci := 9)  (st := []) (bs1 := [bNextStallG K (a0 0) f0_rules f0_images ((a0 1) 0) ((a0 2) 0) ((a0 3) 0) ((a0 7) 0) ((a0 8) 0) g0, bTapeG K (a0 1) g1, bCursorG K (a0 2) g2, bWorldG K (a0 3) ((a0 4) 0) ((a0 5) 0) ((a0 6) 0) g3, bFairG K (a0 4) g4, bFairG K (a0 5) g5, bNotesG K (a0 6) g6, bPastG K (a0 7) f7_fairs g7, bTrialsG K (a0 8) ((a0 9) 0) ((a0 10) 0) ((a0 11) 0) g8, bFairG K (a0 9) g9, bOrderG K (a0 10) g10, bOrderG K (a0 11) g11]) (cNextStall_isBuyer (a0 := a0) (g0 := g0) (g1 := g1) (g2 := g2) (g3 := g3) (g4 := g4) (g5 := g5) (g6 := g6) (g7 := g7) (g8 := g8) (g9 := g9) (g10 := g10) (g11 := g11) h1) rfl rfl (Nat.le_of_ble_eq_true rfl) kNextStall_isBuyer (tb_in (i := 14) (j := 4) rfl rfl) (by decide) (by decide) rfl rfl rfl rfl rfl rfl rfl dX11_buyer_2 ?_
  refine r_if_ne 10 dX11_buyer_5 (by decide) (fun c2 => ?_) (fun c2 => ?_)
  · replace h := it_neg c2 h
    refine r_iload_n 2 dX11_buyer_10 rfl ?_
    by_cases c3 : x2 = (0 : Int32)
    · replace h := it_pos c3 h
      refine r_tableIn 36 dX11_buyer_11 (by rw [c3]; decide) (by rw [c3]; decide) (by rw [c3]; rfl) (by decide) ?_
      refine r_aload_n 0 dX11_buyer_36 rfl ?_
      refine gNextStall_world 0 rfl (tb_in (i := 12) (j := 26) rfl rfl) dX11_buyer_37 ?_
      refine gWorld_nowN 3 rfl (List.mem_of_getElem? (i := 55) rfl) dX11_buyer_40 ?_
      refine gFair_purseN 5 rfl (List.mem_of_getElem? (i := 38) rfl) dX11_buyer_43 ?_
      refine r_iload_n 1 dX11_buyer_46 rfl ?_
      obtain ⟨h4, h⟩ := rq_some h
      refine lFair_purse 5 rfl (inb_in h4) dX11_buyer_47 ?_
      have hq := Option.some.inj h
      subst hq
      exact r_iret rfl dX11_buyer_48
    replace h := it_neg c3 h
    by_cases c5 : x2 = (1 : Int32)
    · replace h := it_pos c5 h
      refine r_tableIn 49 dX11_buyer_11 (by rw [c5]; decide) (by rw [c5]; decide) (by rw [c5]; rfl) (by decide) ?_
      refine r_aload_n 0 dX11_buyer_49 rfl ?_
      refine gNextStall_world 0 rfl (tb_in (i := 12) (j := 26) rfl rfl) dX11_buyer_50 ?_
      refine gWorld_nowN 3 rfl (List.mem_of_getElem? (i := 55) rfl) dX11_buyer_53 ?_
      refine gFair_cameN 5 rfl (List.mem_of_getElem? (i := 40) rfl) dX11_buyer_56 ?_
      refine r_iload_n 1 dX11_buyer_59 rfl ?_
      obtain ⟨h6, h⟩ := rq_some h
      refine lFair_came 5 rfl (inb_in h6) dX11_buyer_60 ?_
      have hq := Option.some.inj h
      subst hq
      exact r_iret rfl dX11_buyer_61
    replace h := it_neg c5 h
    by_cases c7 : x2 = (2 : Int32)
    · replace h := it_pos c7 h
      refine r_tableIn 62 dX11_buyer_11 (by rw [c7]; decide) (by rw [c7]; decide) (by rw [c7]; rfl) (by decide) ?_
      refine r_aload_n 0 dX11_buyer_62 rfl ?_
      refine gNextStall_world 0 rfl (tb_in (i := 12) (j := 26) rfl rfl) dX11_buyer_63 ?_
      refine gWorld_nowN 3 rfl (List.mem_of_getElem? (i := 55) rfl) dX11_buyer_66 ?_
      refine r_iload_n 1 dX11_buyer_69 rfl ?_
      obtain ⟨q8, h8, h⟩ := bd_some h
      refine b_callVN (isC := [5]) (ci := 1)  (st := []) (bs1 := [bNextStallG K (a0 0) f0_rules f0_images ((a0 1) 0) ((a0 2) 0) ((a0 3) 0) ((a0 7) 0) ((a0 8) 0) g0, bTapeG K (a0 1) g1, bCursorG K (a0 2) g2, bWorldG K (a0 3) ((a0 4) 0) ((a0 5) 0) ((a0 6) 0) g3, bFairG K (a0 4) g4, bFairG K (a0 5) g5, bNotesG K (a0 6) g6, bPastG K (a0 7) f7_fairs g7, bTrialsG K (a0 8) ((a0 9) 0) ((a0 10) 0) ((a0 11) 0) g8, bFairG K (a0 9) g9, bOrderG K (a0 10) g10, bOrderG K (a0 11) g11]) (cFair_allThatCan (a0 := (a0 5)) (z0_lasts := g5.1) (z0_keeps := g5.2.1) (z0_stalls := g5.2.2.1) (z0_buyers := g5.2.2.2.1) (z0_minute := g5.2.2.2.2.1) (z0_goods := g5.2.2.2.2.2.1) (z0_price := g5.2.2.2.2.2.2.1) (z0_tongue := g5.2.2.2.2.2.2.2.1) (z0_till := g5.2.2.2.2.2.2.2.2.1) (z0_wealth := g5.2.2.2.2.2.2.2.2.2.1) (z0_sold := g5.2.2.2.2.2.2.2.2.2.2.1) (z0_ring := g5.2.2.2.2.2.2.2.2.2.2.2.1) (z0_grudges := g5.2.2.2.2.2.2.2.2.2.2.2.2.1) (z0_purse := g5.2.2.2.2.2.2.2.2.2.2.2.2.2.1) (z0_came := g5.2.2.2.2.2.2.2.2.2.2.2.2.2.2.1) (z0_had := g5.2.2.2.2.2.2.2.2.2.2.2.2.2.2.2.1) (z0_seller := g5.2.2.2.2.2.2.2.2.2.2.2.2.2.2.2.2.1) (z0_praise := g5.2.2.2.2.2.2.2.2.2.2.2.2.2.2.2.2.2.1) (z0_borne := g5.2.2.2.2.2.2.2.2.2.2.2.2.2.2.2.2.2.2) h8) rfl rfl (Nat.le_of_ble_eq_true rfl) kFair_allThatCan (List.mem_of_getElem? (i := 43) rfl) (by decide) (by decide) rfl rfl rfl rfl rfl rfl rfl dX11_buyer_70 ?_
      have hq := Option.some.inj h
      subst hq
      exact r_iret rfl dX11_buyer_73
    replace h := it_neg c7 h
    refine r_tableOut 74 dX11_buyer_11 (tbl_out (by decide) (by decide) (fun k h1 h2 => by
      rcases (show k = 0 ∨ k = 1 ∨ k = 2 by omega) with rfl | rfl | rfl
      · exact c3
      · exact c5
      · exact c7
      )) (by decide) ?_
    refine r_iconst (x := (-1 : Int32)) dX11_buyer_74 (by decide) ?_
    have hq := Option.some.inj h
    subst hq
    exact r_iret rfl dX11_buyer_75
  · replace h := it_pos c2 h
    refine r_iconst (x := (-1 : Int32)) dX11_buyer_8 (by decide) ?_
    have hq := Option.some.inj h
    subst hq
    exact r_iret rfl dX11_buyer_9
end
theorem dX11_had_0 : decode cX11_had 0 = .ok (.aload_n 0, 1) := by decide +kernel
theorem dX11_had_1 : decode cX11_had 1 = .ok (.iload_n 1, 1) := by decide +kernel
theorem dX11_had_2 : decode cX11_had 2 = .ok (.invokevirtual 151, 3) := by decide +kernel
theorem dX11_had_5 : decode cX11_had 5 = .ok (.ifCond .eq 11, 3) := by decide +kernel
theorem dX11_had_8 : decode cX11_had 8 = .ok (.aload_n 0, 1) := by decide +kernel
theorem dX11_had_9 : decode cX11_had 9 = .ok (.iload_n 2, 1) := by decide +kernel
theorem dX11_had_10 : decode cX11_had 10 = .ok (.invokevirtual 115, 3) := by decide +kernel
theorem dX11_had_13 : decode cX11_had 13 = .ok (.ifCond .ne 5, 3) := by decide +kernel
theorem dX11_had_16 : decode cX11_had 16 = .ok (.iconst (-1), 1) := by decide +kernel
theorem dX11_had_17 : decode cX11_had 17 = .ok (.ireturn, 1) := by decide +kernel
theorem dX11_had_18 : decode cX11_had 18 = .ok (.aload_n 0, 1) := by decide +kernel
theorem dX11_had_19 : decode cX11_had 19 = .ok (.getfield 36, 3) := by decide +kernel
theorem dX11_had_22 : decode cX11_had 22 = .ok (.getfield 119, 3) := by decide +kernel
theorem dX11_had_25 : decode cX11_had 25 = .ok (.getfield 163, 3) := by decide +kernel
theorem dX11_had_28 : decode cX11_had 28 = .ok (.iload_n 1, 1) := by decide +kernel
theorem dX11_had_29 : decode cX11_had 29 = .ok (.bipush 6, 2) := by decide +kernel
theorem dX11_had_31 : decode cX11_had 31 = .ok (.imul, 1) := by decide +kernel
theorem dX11_had_32 : decode cX11_had 32 = .ok (.iload_n 2, 1) := by decide +kernel
theorem dX11_had_33 : decode cX11_had 33 = .ok (.iadd, 1) := by decide +kernel
theorem dX11_had_34 : decode cX11_had 34 = .ok (.iaload, 1) := by decide +kernel
theorem dX11_had_35 : decode cX11_had 35 = .ok (.ireturn, 1) := by decide +kernel
abbrev MNextStall_had : rx_M := (RX11, yX11_had, cX11_had, 3, (some .int), 3)
theorem kNextStall_had : rKv MNextStall_had 2 := ⟨tb_in (i := 31) (j := 27) rfl rfl, tb_in (i := 31) (j := 28) rfl rfl, tb_in (i := 2) (j := 22) rfl rfl, tb_in (i := 14) (j := 7) rfl rfl, ⟨by decide, by decide, by decide +kernel⟩, by decide⟩
section
variable {a0 : Nat → Nat → Nat} {g0 : tyNextStall} {g1 : tyTape} {g2 : tyCursor} {g3 : tyWorld} {g4 : tyFair} {g5 : tyFair} {g6 : tyNotes} {g7 : tyPast} {g8 : tyTrials} {g9 : tyFair} {g10 : tyOrder} {g11 : tyOrder} {f0_rules : Nat → Option Nat} {f0_images : Nat → Option Nat} {f7_fairs : Nat → Option Nat}
def mNextStall_had (x1 : Int32) (x2 : Int32) (g5 : tyFair) : Option (Int32) := (mNextStall_isBuyer x1 g5).bind (fun q1 => (if q1 = 0 then some ((-1 : Int32)) else (mNextStall_isStall x2 g5).bind (fun q3 => (if q3 = 0 then some ((-1 : Int32)) else rq (inb ((x1 * (6 : Int32)) + x2) 36) (some ((g5.2.2.2.2.2.2.2.2.2.2.2.2.2.2.2.1 ((x1 * (6 : Int32)) + x2).toNatClampNeg)))))))
set_option maxHeartbeats 4000000 in
set_option maxRecDepth 20000 in
theorem cNextStall_had {q : Int32} {x1 : Int32} {x2 : Int32} (h : mNextStall_had x1 x2 g5 = some q) : rMet l D Z (ty7 K) MNextStall_had [.ref ((a0 0) 0), .int x1, .int x2] (List.flatten [bNextStallG K (a0 0) f0_rules f0_images ((a0 1) 0) ((a0 2) 0) ((a0 3) 0) ((a0 7) 0) ((a0 8) 0) g0, bTapeG K (a0 1) g1, bCursorG K (a0 2) g2, bWorldG K (a0 3) ((a0 4) 0) ((a0 5) 0) ((a0 6) 0) g3, bFairG K (a0 4) g4, bFairG K (a0 5) g5, bNotesG K (a0 6) g6, bPastG K (a0 7) f7_fairs g7, bTrialsG K (a0 8) ((a0 9) 0) ((a0 10) 0) ((a0 11) 0) g8, bFairG K (a0 9) g9, bOrderG K (a0 10) g10, bOrderG K (a0 11) g11]) (List.flatten [bNextStallG K (a0 0) f0_rules f0_images ((a0 1) 0) ((a0 2) 0) ((a0 3) 0) ((a0 7) 0) ((a0 8) 0) g0, bTapeG K (a0 1) g1, bCursorG K (a0 2) g2, bWorldG K (a0 3) ((a0 4) 0) ((a0 5) 0) ((a0 6) 0) g3, bFairG K (a0 4) g4, bFairG K (a0 5) g5, bNotesG K (a0 6) g6, bPastG K (a0 7) f7_fairs g7, bTrialsG K (a0 8) ((a0 9) 0) ((a0 10) 0) ((a0 11) 0) g8, bFairG K (a0 9) g9, bOrderG K (a0 10) g10, bOrderG K (a0 11) g11]) (some (.int q)) := by
  refine rMet.of (by decide) rfl (Nat.le_of_ble_eq_true rfl) ?_
  refine r_sub (lv' := [(0, .ref ((a0 0) 0)), (1, .int x1), (2, .int x2)]) [0, 1, 2] rfl ?_
  unfold mNextStall_had at h
  refine r_aload_n 0 dX11_had_0 rfl ?_
  refine r_iload_n 1 dX11_had_1 rfl ?_
  obtain ⟨q1, h1, h⟩ := bd_some h
  refine b_callV (isC := [0, 1, 2, 3, 4, 5, 6, 7, 8, 9, 10, 11]) (ci := 9)  (st := []) (bs1 := [bNextStallG K (a0 0) f0_rules f0_images ((a0 1) 0) ((a0 2) 0) ((a0 3) 0) ((a0 7) 0) ((a0 8) 0) g0, bTapeG K (a0 1) g1, bCursorG K (a0 2) g2, bWorldG K (a0 3) ((a0 4) 0) ((a0 5) 0) ((a0 6) 0) g3, bFairG K (a0 4) g4, bFairG K (a0 5) g5, bNotesG K (a0 6) g6, bPastG K (a0 7) f7_fairs g7, bTrialsG K (a0 8) ((a0 9) 0) ((a0 10) 0) ((a0 11) 0) g8, bFairG K (a0 9) g9, bOrderG K (a0 10) g10, bOrderG K (a0 11) g11]) (cNextStall_isBuyer (a0 := a0) (g0 := g0) (g1 := g1) (g2 := g2) (g3 := g3) (g4 := g4) (g5 := g5) (g6 := g6) (g7 := g7) (g8 := g8) (g9 := g9) (g10 := g10) (g11 := g11) h1) rfl rfl (Nat.le_of_ble_eq_true rfl) kNextStall_isBuyer (tb_in (i := 14) (j := 4) rfl rfl) (by decide) (by decide) rfl rfl rfl rfl rfl rfl rfl dX11_had_2 ?_
  refine r_if_eq 16 dX11_had_5 (by decide) (fun c2 => ?_) (fun c2 => ?_)
  · replace h := it_pos c2 h
    refine r_iconst (x := (-1 : Int32)) dX11_had_16 (by decide) ?_
    have hq := Option.some.inj h
    subst hq
    exact r_iret rfl dX11_had_17
  · replace h := it_neg c2 h
    refine r_aload_n 0 dX11_had_8 rfl ?_
    refine r_iload_n 2 dX11_had_9 rfl ?_
    obtain ⟨q3, h3, h⟩ := bd_some h
    refine b_callV (isC := [0, 1, 2, 3, 4, 5, 6, 7, 8, 9, 10, 11]) (ci := 9)  (st := []) (bs1 := [bNextStallG K (a0 0) f0_rules f0_images ((a0 1) 0) ((a0 2) 0) ((a0 3) 0) ((a0 7) 0) ((a0 8) 0) g0, bTapeG K (a0 1) g1, bCursorG K (a0 2) g2, bWorldG K (a0 3) ((a0 4) 0) ((a0 5) 0) ((a0 6) 0) g3, bFairG K (a0 4) g4, bFairG K (a0 5) g5, bNotesG K (a0 6) g6, bPastG K (a0 7) f7_fairs g7, bTrialsG K (a0 8) ((a0 9) 0) ((a0 10) 0) ((a0 11) 0) g8, bFairG K (a0 9) g9, bOrderG K (a0 10) g10, bOrderG K (a0 11) g11]) (cNextStall_isStall (a0 := a0) (g0 := g0) (g1 := g1) (g2 := g2) (g3 := g3) (g4 := g4) (g5 := g5) (g6 := g6) (g7 := g7) (g8 := g8) (g9 := g9) (g10 := g10) (g11 := g11) h3) rfl rfl (Nat.le_of_ble_eq_true rfl) kNextStall_isStall (tb_in (i := 13) (j := 31) rfl rfl) (by decide) (by decide) rfl rfl rfl rfl rfl rfl rfl dX11_had_10 ?_
    refine r_if_ne 18 dX11_had_13 (by decide) (fun c4 => ?_) (fun c4 => ?_)
    · replace h := it_neg c4 h
      refine r_aload_n 0 dX11_had_18 rfl ?_
      refine gNextStall_world 0 rfl (tb_in (i := 12) (j := 26) rfl rfl) dX11_had_19 ?_
      refine gWorld_nowN 3 rfl (List.mem_of_getElem? (i := 55) rfl) dX11_had_22 ?_
      refine gFair_hadN 5 rfl (List.mem_of_getElem? (i := 42) rfl) dX11_had_25 ?_
      refine r_iload_n 1 dX11_had_28 rfl ?_
      refine r_bipush (x := (6 : Int32)) dX11_had_29 (by decide) ?_
      refine r_imul dX11_had_31 ?_
      refine r_iload_n 2 dX11_had_32 rfl ?_
      refine r_iadd dX11_had_33 ?_
      obtain ⟨h5, h⟩ := rq_some h
      refine lFair_had 5 rfl (inb_in h5) dX11_had_34 ?_
      have hq := Option.some.inj h
      subst hq
      exact r_iret rfl dX11_had_35
    · replace h := it_pos c4 h
      refine r_iconst (x := (-1 : Int32)) dX11_had_16 (by decide) ?_
      have hq := Option.some.inj h
      subst hq
      exact r_iret rfl dX11_had_17
end
theorem dX11_ruleInForce_0 : decode cX11_ruleInForce 0 = .ok (.aload_n 0, 1) := by decide +kernel
theorem dX11_ruleInForce_1 : decode cX11_ruleInForce 1 = .ok (.getfield 36, 3) := by decide +kernel
theorem dX11_ruleInForce_4 : decode cX11_ruleInForce 4 = .ok (.getfield 112, 3) := by decide +kernel
theorem dX11_ruleInForce_7 : decode cX11_ruleInForce 7 = .ok (.iconst 0, 1) := by decide +kernel
theorem dX11_ruleInForce_8 : decode cX11_ruleInForce 8 = .ok (.aload_n 0, 1) := by decide +kernel
theorem dX11_ruleInForce_9 : decode cX11_ruleInForce 9 = .ok (.getfield 29, 3) := by decide +kernel
theorem dX11_ruleInForce_12 : decode cX11_ruleInForce 12 = .ok (.iconst 1, 1) := by decide +kernel
theorem dX11_ruleInForce_13 : decode cX11_ruleInForce 13 = .ok (.isub, 1) := by decide +kernel
theorem dX11_ruleInForce_14 : decode cX11_ruleInForce 14 = .ok (.invokestatic 70, 3) := by decide +kernel
theorem dX11_ruleInForce_17 : decode cX11_ruleInForce 17 = .ok (.ifCond .eq 18, 3) := by decide +kernel
theorem dX11_ruleInForce_20 : decode cX11_ruleInForce 20 = .ok (.aload_n 0, 1) := by decide +kernel
theorem dX11_ruleInForce_21 : decode cX11_ruleInForce 21 = .ok (.getfield 25, 3) := by decide +kernel
theorem dX11_ruleInForce_24 : decode cX11_ruleInForce 24 = .ok (.aload_n 0, 1) := by decide +kernel
theorem dX11_ruleInForce_25 : decode cX11_ruleInForce 25 = .ok (.getfield 36, 3) := by decide +kernel
theorem dX11_ruleInForce_28 : decode cX11_ruleInForce 28 = .ok (.getfield 112, 3) := by decide +kernel
theorem dX11_ruleInForce_31 : decode cX11_ruleInForce 31 = .ok (.aaload, 1) := by decide +kernel
theorem dX11_ruleInForce_32 : decode cX11_ruleInForce 32 = .ok (.goto 4, 3) := by decide +kernel
theorem dX11_ruleInForce_35 : decode cX11_ruleInForce 35 = .ok (.aconst_null, 1) := by decide +kernel
theorem dX11_ruleInForce_36 : decode cX11_ruleInForce 36 = .ok (.areturn, 1) := by decide +kernel
abbrev MNextStall_ruleInForce : rx_M := (RX11, yX11_ruleInForce, cX11_ruleInForce, 1, (some (.object "NextStall$Rule")), 2)
theorem kNextStall_ruleInForce : rKv MNextStall_ruleInForce 0 := ⟨tb_in (i := 14) (j := 12) rfl rfl, tb_in (i := 14) (j := 13) rfl rfl, tb_in (i := 2) (j := 22) rfl rfl, tb_in (i := 14) (j := 8) rfl rfl, ⟨by decide, by decide, by decide +kernel⟩, by decide⟩
section
variable {a0 : Nat → Nat → Nat} {g0 : tyNextStall} {g1 : tyTape} {g2 : tyCursor} {g3 : tyWorld} {g4 : tyFair} {g5 : tyFair} {g6 : tyNotes} {g7 : tyPast} {g8 : tyTrials} {g9 : tyFair} {g10 : tyOrder} {g11 : tyOrder} {f0_rules : Nat → Nat → Nat} {f0_images : Nat → Option Nat} {f7_fairs : Nat → Option Nat} {p0_rules0 : Nat → tyRule}
def mNextStall_ruleInForce (g0 : tyNextStall) (g3 : tyWorld) : Option (Option Nat) := (mNextStall_within g3.2.1 (0 : Int32) (g0.1 - (1 : Int32))).bind (fun q1 => (if q1 = 0 then some ((none : Option Nat)) else rq (inb g3.2.1 6) (lt (g3.2.1.toNatClampNeg) (fun j3 => some (some j3)))))
set_option maxHeartbeats 4000000 in
set_option maxRecDepth 20000 in
theorem cNextStall_ruleInForce {q : Option Nat}  (h : mNextStall_ruleInForce g0 g3 = some q) : rMet l D Z (ty7 K) MNextStall_ruleInForce [.ref ((a0 0) 0)] (List.flatten ([bNextStallG K (a0 0) (fun j => some (f0_rules j 0)) f0_images ((a0 1) 0) ((a0 2) 0) ((a0 3) 0) ((a0 7) 0) ((a0 8) 0) g0, bTapeG K (a0 1) g1, bCursorG K (a0 2) g2, bWorldG K (a0 3) ((a0 4) 0) ((a0 5) 0) ((a0 6) 0) g3, bFairG K (a0 4) g4, bFairG K (a0 5) g5, bNotesG K (a0 6) g6, bPastG K (a0 7) f7_fairs g7, bTrialsG K (a0 8) ((a0 9) 0) ((a0 10) 0) ((a0 11) 0) g8, bFairG K (a0 9) g9, bOrderG K (a0 10) g10, bOrderG K (a0 11) g11] ++ (fam 6 (fun j => bRuleG K (f0_rules j) (p0_rules0 j)) ++ []))) (List.flatten ([bNextStallG K (a0 0) (fun j => some (f0_rules j 0)) f0_images ((a0 1) 0) ((a0 2) 0) ((a0 3) 0) ((a0 7) 0) ((a0 8) 0) g0, bTapeG K (a0 1) g1, bCursorG K (a0 2) g2, bWorldG K (a0 3) ((a0 4) 0) ((a0 5) 0) ((a0 6) 0) g3, bFairG K (a0 4) g4, bFairG K (a0 5) g5, bNotesG K (a0 6) g6, bPastG K (a0 7) f7_fairs g7, bTrialsG K (a0 8) ((a0 9) 0) ((a0 10) 0) ((a0 11) 0) g8, bFairG K (a0 9) g9, bOrderG K (a0 10) g10, bOrderG K (a0 11) g11] ++ (fam 6 (fun j => bRuleG K (f0_rules j) (p0_rules0 j)) ++ []))) (some (va_rf (Option.map (fun j => f0_rules j 0) q))) := by
  refine rMet.of (by decide) rfl (Nat.le_of_ble_eq_true rfl) ?_
  refine r_sub (lv' := [(0, .ref ((a0 0) 0))]) [0] rfl ?_
  unfold mNextStall_ruleInForce at h
  refine r_aload_n 0 dX11_ruleInForce_0 rfl ?_
  refine gNextStall_world 0 rfl (tb_in (i := 12) (j := 26) rfl rfl) dX11_ruleInForce_1 ?_
  refine gWorld_inForceN 3 rfl (List.mem_of_getElem? (i := 51) rfl) dX11_ruleInForce_4 ?_
  refine r_iconst (x := (0 : Int32)) dX11_ruleInForce_7 (by decide) ?_
  refine r_aload_n 0 dX11_ruleInForce_8 rfl ?_
  refine gNextStall_ruleCount 0 rfl (tb_in (i := 12) (j := 22) rfl rfl) dX11_ruleInForce_9 ?_
  refine r_iconst (x := (1 : Int32)) dX11_ruleInForce_12 (by decide) ?_
  refine r_isub dX11_ruleInForce_13 ?_
  obtain ⟨q1, h1, h⟩ := bd_some h
  refine b_callS (isC := []) (st := []) (bs1 := ([bNextStallG K (a0 0) (fun j => some (f0_rules j 0)) f0_images ((a0 1) 0) ((a0 2) 0) ((a0 3) 0) ((a0 7) 0) ((a0 8) 0) g0, bTapeG K (a0 1) g1, bCursorG K (a0 2) g2, bWorldG K (a0 3) ((a0 4) 0) ((a0 5) 0) ((a0 6) 0) g3, bFairG K (a0 4) g4, bFairG K (a0 5) g5, bNotesG K (a0 6) g6, bPastG K (a0 7) f7_fairs g7, bTrialsG K (a0 8) ((a0 9) 0) ((a0 10) 0) ((a0 11) 0) g8, bFairG K (a0 9) g9, bOrderG K (a0 10) g10, bOrderG K (a0 11) g11] ++ (fam 6 (fun j => bRuleG K (f0_rules j) (p0_rules0 j)) ++ []))) (cNextStall_within   h1) rfl rfl (Nat.le_of_ble_eq_true rfl) kNextStall_within (tb_in (i := 13) (j := 17) rfl rfl) (by decide) (by decide) rfl rfl rfl dX11_ruleInForce_14 ?_
  refine r_if_eq 35 dX11_ruleInForce_17 (by decide) (fun c2 => ?_) (fun c2 => ?_)
  · replace h := it_pos c2 h
    refine r_null dX11_ruleInForce_35 ?_
    have hq := Option.some.inj h
    subst hq
    exact r_aret rfl (Or.inl ⟨_, rfl⟩) (Or.inl rfl) dX11_ruleInForce_36
  · replace h := it_neg c2 h
    refine r_aload_n 0 dX11_ruleInForce_20 rfl ?_
    refine gNextStall_rules 0 rfl (tb_in (i := 12) (j := 21) rfl rfl) dX11_ruleInForce_21 ?_
    refine r_aload_n 0 dX11_ruleInForce_24 rfl ?_
    refine gNextStall_world 0 rfl (tb_in (i := 12) (j := 26) rfl rfl) dX11_ruleInForce_25 ?_
    refine gWorld_inForceN 3 rfl (List.mem_of_getElem? (i := 51) rfl) dX11_ruleInForce_28 ?_
    obtain ⟨h3, h⟩ := rq_some h
    obtain ⟨j3, e3, h⟩ := lt_some h
    have hj3 : j3 < 6 := by rw [e3]; exact inb_lt h3
    refine b_aald 0 1 5 rfl rfl rfl (inb_in h3) dX11_ruleInForce_31 ?_
    refine r_st (st' := [.ref (f0_rules j3 0)]) (by rw [e3]; rfl) ?_
    refine r_goto 36 dX11_ruleInForce_32 (by decide) ?_
    have hq := Option.some.inj h
    subst hq
    exact r_aret rfl (Or.inl ⟨_, rfl⟩) (Or.inr ⟨_, rfl⟩) dX11_ruleInForce_36
end
theorem dX11_minute_0 : decode cX11_minute 0 = .ok (.aload_n 0, 1) := by decide +kernel
theorem dX11_minute_1 : decode cX11_minute 1 = .ok (.getfield 36, 3) := by decide +kernel
theorem dX11_minute_4 : decode cX11_minute 4 = .ok (.getfield 166, 3) := by decide +kernel
theorem dX11_minute_7 : decode cX11_minute 7 = .ok (.ifCond .eq 19, 3) := by decide +kernel
theorem dX11_minute_10 : decode cX11_minute 10 = .ok (.aload_n 0, 1) := by decide +kernel
theorem dX11_minute_11 : decode cX11_minute 11 = .ok (.getfield 36, 3) := by decide +kernel
theorem dX11_minute_14 : decode cX11_minute 14 = .ok (.getfield 119, 3) := by decide +kernel
theorem dX11_minute_17 : decode cX11_minute 17 = .ok (.getfield 170, 3) := by decide +kernel
theorem dX11_minute_20 : decode cX11_minute 20 = .ok (.sipush 999, 3) := by decide +kernel
theorem dX11_minute_23 : decode cX11_minute 23 = .ok (.if_icmp .lt 5, 3) := by decide +kernel
theorem dX11_minute_26 : decode cX11_minute 26 = .ok (.iconst (-1), 1) := by decide +kernel
theorem dX11_minute_27 : decode cX11_minute 27 = .ok (.ireturn, 1) := by decide +kernel
theorem dX11_minute_28 : decode cX11_minute 28 = .ok (.aload_n 0, 1) := by decide +kernel
theorem dX11_minute_29 : decode cX11_minute 29 = .ok (.getfield 43, 3) := by decide +kernel
theorem dX11_minute_32 : decode cX11_minute 32 = .ok (.aload_n 0, 1) := by decide +kernel
theorem dX11_minute_33 : decode cX11_minute 33 = .ok (.getfield 36, 3) := by decide +kernel
theorem dX11_minute_36 : decode cX11_minute 36 = .ok (.getfield 119, 3) := by decide +kernel
theorem dX11_minute_39 : decode cX11_minute 39 = .ok (.invokevirtual 173, 3) := by decide +kernel
theorem dX11_minute_42 : decode cX11_minute 42 = .ok (.aload_n 0, 1) := by decide +kernel
theorem dX11_minute_43 : decode cX11_minute 43 = .ok (.getfield 36, 3) := by decide +kernel
theorem dX11_minute_46 : decode cX11_minute 46 = .ok (.getfield 119, 3) := by decide +kernel
theorem dX11_minute_49 : decode cX11_minute 49 = .ok (.aload_n 0, 1) := by decide +kernel
theorem dX11_minute_50 : decode cX11_minute 50 = .ok (.invokevirtual 176, 3) := by decide +kernel
theorem dX11_minute_53 : decode cX11_minute 53 = .ok (.iconst 1, 1) := by decide +kernel
theorem dX11_minute_54 : decode cX11_minute 54 = .ok (.iconst (-1), 1) := by decide +kernel
theorem dX11_minute_55 : decode cX11_minute 55 = .ok (.invokevirtual 180, 3) := by decide +kernel
theorem dX11_minute_58 : decode cX11_minute 58 = .ok (.ireturn, 1) := by decide +kernel
abbrev MNextStall_minute : rx_M := (RX11, yX11_minute, cX11_minute, 1, (some .int), 6)
theorem kNextStall_minute : rKv MNextStall_minute 0 := ⟨tb_in (i := 32) (j := 1) rfl rfl, tb_in (i := 32) (j := 2) rfl rfl, tb_in (i := 2) (j := 22) rfl rfl, tb_in (i := 14) (j := 14) rfl rfl, ⟨by decide, by decide, by decide +kernel⟩, by decide⟩
section
variable {a0 : Nat → Nat → Nat} {g0 : tyNextStall} {g1 : tyTape} {g2 : tyCursor} {g3 : tyWorld} {g4 : tyFair} {g5 : tyFair} {g6 : tyNotes} {g7 : tyPast} {g8 : tyTrials} {g9 : tyFair} {g10 : tyOrder} {g11 : tyOrder} {f0_rules : Nat → Nat → Nat} {f0_images : Nat → Option Nat} {f7_fairs : Nat → Nat → Nat} {p7_fairs0 : Nat → tyFair} {p0_rules0 : Nat → tyRule}
def mNextStall_minute (g0 : tyNextStall) (g3 : tyWorld) (g5 : tyFair) (g7 : tyPast) (p7_fairs0 : Nat → tyFair) (p0_rules0 : Nat → tyRule) : Option (Int32 × tyFair × tyPast × (Nat → tyFair) × (Nat → tyRule)) := (if g3.1 = 0 then some ((-1 : Int32), g5, g7, p7_fairs0, p0_rules0) else (if g5.2.2.2.2.1 < (999 : Int32) then (mPast_keep g7 g5 p7_fairs0).bind (fun q3 => (mNextStall_ruleInForce g0 g3).bind (fun q4 => mt q4 ((mFair_gon (1 : Int32) (-1 : Int32) g5.1 g5.2.1 g5.2.2.1 g5.2.2.2.1 g5.2.2.2.2.1 g5.2.2.2.2.2.1 g5.2.2.2.2.2.2.1 g5.2.2.2.2.2.2.2.2.1 g5.2.2.2.2.2.2.2.2.2.1 g5.2.2.2.2.2.2.2.2.2.2.1 g5.2.2.2.2.2.2.2.2.2.2.2.2.2.1 g5.2.2.2.2.2.2.2.2.2.2.2.2.2.2.1 g5.2.2.2.2.2.2.2.2.2.2.2.2.2.2.2.1 g5.2.2.2.2.2.2.2.2.2.2.2.2.2.2.2.2.1 g5.2.2.2.2.2.2.2.2.2.2.2.2.2.2.2.2.2.1).bind (fun q5 => some (q5.1, (g5.1, g5.2.1, g5.2.2.1, g5.2.2.2.1, q5.2.1, q5.2.2.1, g5.2.2.2.2.2.2.1, g5.2.2.2.2.2.2.2.1, q5.2.2.2.1, q5.2.2.2.2.1, q5.2.2.2.2.2.1, g5.2.2.2.2.2.2.2.2.2.2.2.1, g5.2.2.2.2.2.2.2.2.2.2.2.2.1, q5.2.2.2.2.2.2.1, g5.2.2.2.2.2.2.2.2.2.2.2.2.2.2.1, q5.2.2.2.2.2.2.2, g5.2.2.2.2.2.2.2.2.2.2.2.2.2.2.2.2.1, g5.2.2.2.2.2.2.2.2.2.2.2.2.2.2.2.2.2.1, g5.2.2.2.2.2.2.2.2.2.2.2.2.2.2.2.2.2.2), q3.1, q3.2, p0_rules0))) (fun j4 => rq (decide (j4 < 6)) ((mFair_gor (1 : Int32) (-1 : Int32) g5.1 g5.2.1 g5.2.2.1 g5.2.2.2.1 g5.2.2.2.2.1 g5.2.2.2.2.2.1 g5.2.2.2.2.2.2.1 g5.2.2.2.2.2.2.2.2.1 g5.2.2.2.2.2.2.2.2.2.1 g5.2.2.2.2.2.2.2.2.2.2.1 g5.2.2.2.2.2.2.2.2.2.2.2.2.2.1 g5.2.2.2.2.2.2.2.2.2.2.2.2.2.2.1 g5.2.2.2.2.2.2.2.2.2.2.2.2.2.2.2.1 g5.2.2.2.2.2.2.2.2.2.2.2.2.2.2.2.2.1 g5.2.2.2.2.2.2.2.2.2.2.2.2.2.2.2.2.2.1 g5.2.2.2.2.2.2.2.2.2.2.2.2.2.2.2.2.2.2 ((p0_rules0 j4).1) ((p0_rules0 j4).2.1) ((p0_rules0 j4).2.2.1) ((p0_rules0 j4).2.2.2.1) ((p0_rules0 j4).2.2.2.2.1) ((p0_rules0 j4).2.2.2.2.2.1) ((p0_rules0 j4).2.2.2.2.2.2.2.1) ((p0_rules0 j4).2.2.2.2.2.2.2.2.1) ((p0_rules0 j4).2.2.2.2.2.2.2.2.2)).bind (fun q6 => some (q6.1, (g5.1, g5.2.1, g5.2.2.1, g5.2.2.2.1, q6.2.1, q6.2.2.1, g5.2.2.2.2.2.2.1, g5.2.2.2.2.2.2.2.1, q6.2.2.2.1, q6.2.2.2.2.1, q6.2.2.2.2.2.1, g5.2.2.2.2.2.2.2.2.2.2.2.1, g5.2.2.2.2.2.2.2.2.2.2.2.2.1, q6.2.2.2.2.2.2.1, g5.2.2.2.2.2.2.2.2.2.2.2.2.2.2.1, q6.2.2.2.2.2.2.2.1, g5.2.2.2.2.2.2.2.2.2.2.2.2.2.2.2.2.1, g5.2.2.2.2.2.2.2.2.2.2.2.2.2.2.2.2.2.1, g5.2.2.2.2.2.2.2.2.2.2.2.2.2.2.2.2.2.2), q3.1, q3.2, (va_up p0_rules0 j4 ((p0_rules0 j4).1, (p0_rules0 j4).2.1, (p0_rules0 j4).2.2.1, (p0_rules0 j4).2.2.2.1, (p0_rules0 j4).2.2.2.2.1, (p0_rules0 j4).2.2.2.2.2.1, (p0_rules0 j4).2.2.2.2.2.2.1, (p0_rules0 j4).2.2.2.2.2.2.2.1, q6.2.2.2.2.2.2.2.2.1, q6.2.2.2.2.2.2.2.2.2)))))))) else some ((-1 : Int32), g5, g7, p7_fairs0, p0_rules0)))
set_option maxHeartbeats 4000000 in
set_option maxRecDepth 20000 in
theorem cNextStall_minute {q : Int32 × tyFair × tyPast × (Nat → tyFair) × (Nat → tyRule)}  (h : mNextStall_minute g0 g3 g5 g7 p7_fairs0 p0_rules0 = some q) : rMet l D Z (ty7 K) MNextStall_minute [.ref ((a0 0) 0)] (List.flatten ([bNextStallG K (a0 0) (fun j => some (f0_rules j 0)) f0_images ((a0 1) 0) ((a0 2) 0) ((a0 3) 0) ((a0 7) 0) ((a0 8) 0) g0, bTapeG K (a0 1) g1, bCursorG K (a0 2) g2, bWorldG K (a0 3) ((a0 4) 0) ((a0 5) 0) ((a0 6) 0) g3, bFairG K (a0 4) g4, bFairG K (a0 5) g5, bNotesG K (a0 6) g6, bPastG K (a0 7) (fun j => some (f7_fairs j 0)) g7, bTrialsG K (a0 8) ((a0 9) 0) ((a0 10) 0) ((a0 11) 0) g8, bFairG K (a0 9) g9, bOrderG K (a0 10) g10, bOrderG K (a0 11) g11] ++ (fam 20 (fun j => bFairG K (f7_fairs j) (p7_fairs0 j)) ++ (fam 6 (fun j => bRuleG K (f0_rules j) (p0_rules0 j)) ++ [])))) (List.flatten ([bNextStallG K (a0 0) (fun j => some (f0_rules j 0)) f0_images ((a0 1) 0) ((a0 2) 0) ((a0 3) 0) ((a0 7) 0) ((a0 8) 0) g0, bTapeG K (a0 1) g1, bCursorG K (a0 2) g2, bWorldG K (a0 3) ((a0 4) 0) ((a0 5) 0) ((a0 6) 0) g3, bFairG K (a0 4) g4, bFairG K (a0 5) q.2.1, bNotesG K (a0 6) g6, bPastG K (a0 7) (fun j => some (f7_fairs j 0)) q.2.2.1, bTrialsG K (a0 8) ((a0 9) 0) ((a0 10) 0) ((a0 11) 0) g8, bFairG K (a0 9) g9, bOrderG K (a0 10) g10, bOrderG K (a0 11) g11] ++ (fam 20 (fun j => bFairG K (f7_fairs j) (q.2.2.2.1 j)) ++ (fam 6 (fun j => bRuleG K (f0_rules j) (q.2.2.2.2 j)) ++ [])))) (some (.int q.1)) := by
  refine rMet.of (by decide) rfl (Nat.le_of_ble_eq_true rfl) ?_
  refine r_sub (lv' := [(0, .ref ((a0 0) 0))]) [0] rfl ?_
  unfold mNextStall_minute at h
  refine r_aload_n 0 dX11_minute_0 rfl ?_
  refine gNextStall_world 0 rfl (tb_in (i := 12) (j := 26) rfl rfl) dX11_minute_1 ?_
  refine gWorld_openN 3 rfl (List.mem_of_getElem? (i := 50) rfl) dX11_minute_4 ?_
  refine r_if_eq 26 dX11_minute_7 (by decide) (fun c1 => ?_) (fun c1 => ?_)
  · replace h := it_pos c1 h
    refine r_iconst (x := (-1 : Int32)) dX11_minute_26 (by decide) ?_
    have hq := Option.some.inj h
    subst hq
    exact r_iret rfl dX11_minute_27
  · replace h := it_neg c1 h
    refine r_aload_n 0 dX11_minute_10 rfl ?_
    refine gNextStall_world 0 rfl (tb_in (i := 12) (j := 26) rfl rfl) dX11_minute_11 ?_
    refine gWorld_nowN 3 rfl (List.mem_of_getElem? (i := 55) rfl) dX11_minute_14 ?_
    refine gFair_minuteN 5 rfl (List.mem_of_getElem? (i := 22) rfl) dX11_minute_17 ?_
    refine r_sipush (x := (999 : Int32)) dX11_minute_20 (by decide) ?_
    refine r_icmp_lt 28 dX11_minute_23 (by decide) (fun c2 => ?_) (fun c2 => ?_)
    · replace h := it_pos c2 h
      refine r_aload_n 0 dX11_minute_28 rfl ?_
      refine gNextStall_past 0 rfl (tb_in (i := 12) (j := 30) rfl rfl) dX11_minute_29 ?_
      refine r_aload_n 0 dX11_minute_32 rfl ?_
      refine gNextStall_world 0 rfl (tb_in (i := 12) (j := 26) rfl rfl) dX11_minute_33 ?_
      refine gWorld_nowN 3 rfl (List.mem_of_getElem? (i := 55) rfl) dX11_minute_36 ?_
      obtain ⟨q3, h3, h⟩ := bd_some h
      refine b_callVN (isC := ([7, 5] ++ (List.range' 12 20 ++ []))) (ci := 4)  (st := []) (bs1 := ([bNextStallG K (a0 0) (fun j => some (f0_rules j 0)) f0_images ((a0 1) 0) ((a0 2) 0) ((a0 3) 0) ((a0 7) 0) ((a0 8) 0) g0, bTapeG K (a0 1) g1, bCursorG K (a0 2) g2, bWorldG K (a0 3) ((a0 4) 0) ((a0 5) 0) ((a0 6) 0) g3, bFairG K (a0 4) g4, bFairG K (a0 5) g5, bNotesG K (a0 6) g6, bPastG K (a0 7) (fun j => some (f7_fairs j 0)) q3.1, bTrialsG K (a0 8) ((a0 9) 0) ((a0 10) 0) ((a0 11) 0) g8, bFairG K (a0 9) g9, bOrderG K (a0 10) g10, bOrderG K (a0 11) g11] ++ (fam 20 (fun j => bFairG K (f7_fairs j) (q3.2 j)) ++ (fam 6 (fun j => bRuleG K (f0_rules j) (p0_rules0 j)) ++ [])))) (cPast_keep (a0 := (a0 7)) (a1 := (a0 5)) (f0_fairs := f7_fairs) (g0 := g7) (g1 := g5) (p0_fairs0 := p7_fairs0) h3) rfl rfl (Nat.le_of_ble_eq_true rfl) kPast_keep (List.mem_of_getElem? (i := 44) rfl) (by decide) (by decide +kernel) (map_app rfl (map_app (map_f0 (n := 20) (l := [bNextStallG K (a0 0) (fun j => some (f0_rules j 0)) f0_images ((a0 1) 0) ((a0 2) 0) ((a0 3) 0) ((a0 7) 0) ((a0 8) 0) g0, bTapeG K (a0 1) g1, bCursorG K (a0 2) g2, bWorldG K (a0 3) ((a0 4) 0) ((a0 5) 0) ((a0 6) 0) g3, bFairG K (a0 4) g4, bFairG K (a0 5) g5, bNotesG K (a0 6) g6, bPastG K (a0 7) (fun j => some (f7_fairs j 0)) g7, bTrialsG K (a0 8) ((a0 9) 0) ((a0 10) 0) ((a0 11) 0) g8, bFairG K (a0 9) g9, bOrderG K (a0 10) g10, bOrderG K (a0 11) g11]) rfl) rfl)) (by simp only [List.length_append, fam_len, List.length_range', List.length_cons, List.length_nil]) (stm_a (bs1 := ([bNextStallG K (a0 0) (fun j => some (f0_rules j 0)) f0_images ((a0 1) 0) ((a0 2) 0) ((a0 3) 0) ((a0 7) 0) ((a0 8) 0) g0, bTapeG K (a0 1) g1, bCursorG K (a0 2) g2, bWorldG K (a0 3) ((a0 4) 0) ((a0 5) 0) ((a0 6) 0) g3, bFairG K (a0 4) g4, bFairG K (a0 5) g5, bNotesG K (a0 6) g6, bPastG K (a0 7) (fun j => some (f7_fairs j 0)) q3.1, bTrialsG K (a0 8) ((a0 9) 0) ((a0 10) 0) ((a0 11) 0) g8, bFairG K (a0 9) g9, bOrderG K (a0 10) g10, bOrderG K (a0 11) g11] ++ (fam 20 (fun j => bFairG K (f7_fairs j) (p7_fairs0 j)) ++ (fam 6 (fun j => bRuleG K (f0_rules j) (p0_rules0 j)) ++ [])))) rfl rfl (stm_a (bs1 := ([bNextStallG K (a0 0) (fun j => some (f0_rules j 0)) f0_images ((a0 1) 0) ((a0 2) 0) ((a0 3) 0) ((a0 7) 0) ((a0 8) 0) g0, bTapeG K (a0 1) g1, bCursorG K (a0 2) g2, bWorldG K (a0 3) ((a0 4) 0) ((a0 5) 0) ((a0 6) 0) g3, bFairG K (a0 4) g4, bFairG K (a0 5) g5, bNotesG K (a0 6) g6, bPastG K (a0 7) (fun j => some (f7_fairs j 0)) q3.1, bTrialsG K (a0 8) ((a0 9) 0) ((a0 10) 0) ((a0 11) 0) g8, bFairG K (a0 9) g9, bOrderG K (a0 10) g10, bOrderG K (a0 11) g11] ++ (fam 20 (fun j => bFairG K (f7_fairs j) (q3.2 j)) ++ (fam 6 (fun j => bRuleG K (f0_rules j) (p0_rules0 j)) ++ [])))) (by rw [List.length_range', fam_len]) (stm_f0 (n := 20) (l := [bNextStallG K (a0 0) (fun j => some (f0_rules j 0)) f0_images ((a0 1) 0) ((a0 2) 0) ((a0 3) 0) ((a0 7) 0) ((a0 8) 0) g0, bTapeG K (a0 1) g1, bCursorG K (a0 2) g2, bWorldG K (a0 3) ((a0 4) 0) ((a0 5) 0) ((a0 6) 0) g3, bFairG K (a0 4) g4, bFairG K (a0 5) g5, bNotesG K (a0 6) g6, bPastG K (a0 7) (fun j => some (f7_fairs j 0)) q3.1, bTrialsG K (a0 8) ((a0 9) 0) ((a0 10) 0) ((a0 11) 0) g8, bFairG K (a0 9) g9, bOrderG K (a0 10) g10, bOrderG K (a0 11) g11]) rfl) rfl)) rfl rfl rfl rfl dX11_minute_39 ?_
      refine r_aload_n 0 dX11_minute_42 rfl ?_
      refine gNextStall_world 0 rfl (tb_in (i := 12) (j := 26) rfl rfl) dX11_minute_43 ?_
      refine gWorld_nowN 3 rfl (List.mem_of_getElem? (i := 55) rfl) dX11_minute_46 ?_
      refine r_aload_n 0 dX11_minute_49 rfl ?_
      obtain ⟨q4, h4, h⟩ := bd_some h
      refine b_callV (isC := ([0, 1, 2, 3, 4, 5, 6, 7, 8, 9, 10, 11] ++ (List.range' 32 6 ++ []))) (ci := 9)  (st := [.ref ((a0 5) 0)]) (bs1 := ([bNextStallG K (a0 0) (fun j => some (f0_rules j 0)) f0_images ((a0 1) 0) ((a0 2) 0) ((a0 3) 0) ((a0 7) 0) ((a0 8) 0) g0, bTapeG K (a0 1) g1, bCursorG K (a0 2) g2, bWorldG K (a0 3) ((a0 4) 0) ((a0 5) 0) ((a0 6) 0) g3, bFairG K (a0 4) g4, bFairG K (a0 5) g5, bNotesG K (a0 6) g6, bPastG K (a0 7) (fun j => some (f7_fairs j 0)) q3.1, bTrialsG K (a0 8) ((a0 9) 0) ((a0 10) 0) ((a0 11) 0) g8, bFairG K (a0 9) g9, bOrderG K (a0 10) g10, bOrderG K (a0 11) g11] ++ (fam 20 (fun j => bFairG K (f7_fairs j) (q3.2 j)) ++ (fam 6 (fun j => bRuleG K (f0_rules j) (p0_rules0 j)) ++ [])))) (cNextStall_ruleInForce (a0 := a0) (f0_rules := f0_rules) (g0 := g0) (g1 := g1) (g2 := g2) (g3 := g3) (g4 := g4) (g5 := g5) (g6 := g6) (g7 := q3.1) (g8 := g8) (g9 := g9) (g10 := g10) (g11 := g11) (p0_rules0 := p0_rules0) h4) rfl rfl (Nat.le_of_ble_eq_true rfl) kNextStall_ruleInForce (tb_in (i := 14) (j := 11) rfl rfl) (by decide) (by decide +kernel) (map_app rfl (map_app (map_f1 (n0 := 20) (n := 6) (l := [bNextStallG K (a0 0) (fun j => some (f0_rules j 0)) f0_images ((a0 1) 0) ((a0 2) 0) ((a0 3) 0) ((a0 7) 0) ((a0 8) 0) g0, bTapeG K (a0 1) g1, bCursorG K (a0 2) g2, bWorldG K (a0 3) ((a0 4) 0) ((a0 5) 0) ((a0 6) 0) g3, bFairG K (a0 4) g4, bFairG K (a0 5) g5, bNotesG K (a0 6) g6, bPastG K (a0 7) (fun j => some (f7_fairs j 0)) q3.1, bTrialsG K (a0 8) ((a0 9) 0) ((a0 10) 0) ((a0 11) 0) g8, bFairG K (a0 9) g9, bOrderG K (a0 10) g10, bOrderG K (a0 11) g11]) rfl) rfl)) (by simp only [List.length_append, fam_len, List.length_range', List.length_cons, List.length_nil]) (stm_a (bs1 := ([bNextStallG K (a0 0) (fun j => some (f0_rules j 0)) f0_images ((a0 1) 0) ((a0 2) 0) ((a0 3) 0) ((a0 7) 0) ((a0 8) 0) g0, bTapeG K (a0 1) g1, bCursorG K (a0 2) g2, bWorldG K (a0 3) ((a0 4) 0) ((a0 5) 0) ((a0 6) 0) g3, bFairG K (a0 4) g4, bFairG K (a0 5) g5, bNotesG K (a0 6) g6, bPastG K (a0 7) (fun j => some (f7_fairs j 0)) q3.1, bTrialsG K (a0 8) ((a0 9) 0) ((a0 10) 0) ((a0 11) 0) g8, bFairG K (a0 9) g9, bOrderG K (a0 10) g10, bOrderG K (a0 11) g11] ++ (fam 20 (fun j => bFairG K (f7_fairs j) (q3.2 j)) ++ (fam 6 (fun j => bRuleG K (f0_rules j) (p0_rules0 j)) ++ [])))) rfl rfl (stm_a (bs1 := ([bNextStallG K (a0 0) (fun j => some (f0_rules j 0)) f0_images ((a0 1) 0) ((a0 2) 0) ((a0 3) 0) ((a0 7) 0) ((a0 8) 0) g0, bTapeG K (a0 1) g1, bCursorG K (a0 2) g2, bWorldG K (a0 3) ((a0 4) 0) ((a0 5) 0) ((a0 6) 0) g3, bFairG K (a0 4) g4, bFairG K (a0 5) g5, bNotesG K (a0 6) g6, bPastG K (a0 7) (fun j => some (f7_fairs j 0)) q3.1, bTrialsG K (a0 8) ((a0 9) 0) ((a0 10) 0) ((a0 11) 0) g8, bFairG K (a0 9) g9, bOrderG K (a0 10) g10, bOrderG K (a0 11) g11] ++ (fam 20 (fun j => bFairG K (f7_fairs j) (q3.2 j)) ++ (fam 6 (fun j => bRuleG K (f0_rules j) (p0_rules0 j)) ++ [])))) (by rw [List.length_range', fam_len]) (stm_f1 (n0 := 20) (n := 6) (l := [bNextStallG K (a0 0) (fun j => some (f0_rules j 0)) f0_images ((a0 1) 0) ((a0 2) 0) ((a0 3) 0) ((a0 7) 0) ((a0 8) 0) g0, bTapeG K (a0 1) g1, bCursorG K (a0 2) g2, bWorldG K (a0 3) ((a0 4) 0) ((a0 5) 0) ((a0 6) 0) g3, bFairG K (a0 4) g4, bFairG K (a0 5) g5, bNotesG K (a0 6) g6, bPastG K (a0 7) (fun j => some (f7_fairs j 0)) q3.1, bTrialsG K (a0 8) ((a0 9) 0) ((a0 10) 0) ((a0 11) 0) g8, bFairG K (a0 9) g9, bOrderG K (a0 10) g10, bOrderG K (a0 11) g11]) rfl) rfl)) rfl rfl rfl rfl dX11_minute_50 ?_
      cases q4 with
      | none =>
        replace h := mt_n h
        refine r_st (st' := [.null, .ref ((a0 5) 0)]) rfl ?_
        refine r_iconst (x := (1 : Int32)) dX11_minute_53 (by decide) ?_
        refine r_iconst (x := (-1 : Int32)) dX11_minute_54 (by decide) ?_
        obtain ⟨q5, h5, h⟩ := bd_some h
        refine b_callVN (isC := [5]) (ci := 1)  (st := []) (bs1 := ([bNextStallG K (a0 0) (fun j => some (f0_rules j 0)) f0_images ((a0 1) 0) ((a0 2) 0) ((a0 3) 0) ((a0 7) 0) ((a0 8) 0) g0, bTapeG K (a0 1) g1, bCursorG K (a0 2) g2, bWorldG K (a0 3) ((a0 4) 0) ((a0 5) 0) ((a0 6) 0) g3, bFairG K (a0 4) g4, bFair K (a0 5) g5.1 g5.2.1 g5.2.2.1 g5.2.2.2.1 q5.2.1 q5.2.2.1 g5.2.2.2.2.2.2.1 g5.2.2.2.2.2.2.2.1 q5.2.2.2.1 q5.2.2.2.2.1 q5.2.2.2.2.2.1 g5.2.2.2.2.2.2.2.2.2.2.2.1 g5.2.2.2.2.2.2.2.2.2.2.2.2.1 q5.2.2.2.2.2.2.1 g5.2.2.2.2.2.2.2.2.2.2.2.2.2.2.1 q5.2.2.2.2.2.2.2 g5.2.2.2.2.2.2.2.2.2.2.2.2.2.2.2.2.1 g5.2.2.2.2.2.2.2.2.2.2.2.2.2.2.2.2.2.1 g5.2.2.2.2.2.2.2.2.2.2.2.2.2.2.2.2.2.2, bNotesG K (a0 6) g6, bPastG K (a0 7) (fun j => some (f7_fairs j 0)) q3.1, bTrialsG K (a0 8) ((a0 9) 0) ((a0 10) 0) ((a0 11) 0) g8, bFairG K (a0 9) g9, bOrderG K (a0 10) g10, bOrderG K (a0 11) g11] ++ (fam 20 (fun j => bFairG K (f7_fairs j) (q3.2 j)) ++ (fam 6 (fun j => bRuleG K (f0_rules j) (p0_rules0 j)) ++ [])))) (cFair_gon (a0 := (a0 5)) (z0_lasts := g5.1) (z0_keeps := g5.2.1) (z0_stalls := g5.2.2.1) (z0_buyers := g5.2.2.2.1) (z0_minute := g5.2.2.2.2.1) (z0_goods := g5.2.2.2.2.2.1) (z0_price := g5.2.2.2.2.2.2.1) (z0_tongue := g5.2.2.2.2.2.2.2.1) (z0_till := g5.2.2.2.2.2.2.2.2.1) (z0_wealth := g5.2.2.2.2.2.2.2.2.2.1) (z0_sold := g5.2.2.2.2.2.2.2.2.2.2.1) (z0_ring := g5.2.2.2.2.2.2.2.2.2.2.2.1) (z0_grudges := g5.2.2.2.2.2.2.2.2.2.2.2.2.1) (z0_purse := g5.2.2.2.2.2.2.2.2.2.2.2.2.2.1) (z0_came := g5.2.2.2.2.2.2.2.2.2.2.2.2.2.2.1) (z0_had := g5.2.2.2.2.2.2.2.2.2.2.2.2.2.2.2.1) (z0_seller := g5.2.2.2.2.2.2.2.2.2.2.2.2.2.2.2.2.1) (z0_praise := g5.2.2.2.2.2.2.2.2.2.2.2.2.2.2.2.2.2.1) (z0_borne := g5.2.2.2.2.2.2.2.2.2.2.2.2.2.2.2.2.2.2) h5) rfl rfl (Nat.le_of_ble_eq_true rfl) kFair_gon (List.mem_of_getElem? (i := 46) rfl) (by decide) (by decide) rfl rfl rfl rfl rfl rfl rfl dX11_minute_55 ?_
        have hq := Option.some.inj h
        subst hq
        exact r_iret rfl dX11_minute_58
      | some j4 =>
        replace h := mt_s h
        obtain ⟨hg4, h⟩ := rq_some h
        have hj4 := of_decide_eq_true hg4
        refine r_st (st' := [.ref (f0_rules j4 0), .ref ((a0 5) 0)]) rfl ?_
        refine r_iconst (x := (1 : Int32)) dX11_minute_53 (by decide) ?_
        refine r_iconst (x := (-1 : Int32)) dX11_minute_54 (by decide) ?_
        obtain ⟨q6, h6, h⟩ := bd_some h
        refine b_callVN (isC := [5, 32 + j4]) (ci := 1)  (st := []) (bs1 := ([bNextStallG K (a0 0) (fun j => some (f0_rules j 0)) f0_images ((a0 1) 0) ((a0 2) 0) ((a0 3) 0) ((a0 7) 0) ((a0 8) 0) g0, bTapeG K (a0 1) g1, bCursorG K (a0 2) g2, bWorldG K (a0 3) ((a0 4) 0) ((a0 5) 0) ((a0 6) 0) g3, bFairG K (a0 4) g4, bFair K (a0 5) g5.1 g5.2.1 g5.2.2.1 g5.2.2.2.1 q6.2.1 q6.2.2.1 g5.2.2.2.2.2.2.1 g5.2.2.2.2.2.2.2.1 q6.2.2.2.1 q6.2.2.2.2.1 q6.2.2.2.2.2.1 g5.2.2.2.2.2.2.2.2.2.2.2.1 g5.2.2.2.2.2.2.2.2.2.2.2.2.1 q6.2.2.2.2.2.2.1 g5.2.2.2.2.2.2.2.2.2.2.2.2.2.2.1 q6.2.2.2.2.2.2.2.1 g5.2.2.2.2.2.2.2.2.2.2.2.2.2.2.2.2.1 g5.2.2.2.2.2.2.2.2.2.2.2.2.2.2.2.2.2.1 g5.2.2.2.2.2.2.2.2.2.2.2.2.2.2.2.2.2.2, bNotesG K (a0 6) g6, bPastG K (a0 7) (fun j => some (f7_fairs j 0)) q3.1, bTrialsG K (a0 8) ((a0 9) 0) ((a0 10) 0) ((a0 11) 0) g8, bFairG K (a0 9) g9, bOrderG K (a0 10) g10, bOrderG K (a0 11) g11] ++ (fam 20 (fun j => bFairG K (f7_fairs j) (q3.2 j)) ++ (fam 6 (fun j => bRuleG K (f0_rules j) ((va_up p0_rules0 j4 ((p0_rules0 j4).1, (p0_rules0 j4).2.1, (p0_rules0 j4).2.2.1, (p0_rules0 j4).2.2.2.1, (p0_rules0 j4).2.2.2.2.1, (p0_rules0 j4).2.2.2.2.2.1, (p0_rules0 j4).2.2.2.2.2.2.1, (p0_rules0 j4).2.2.2.2.2.2.2.1, q6.2.2.2.2.2.2.2.2.1, q6.2.2.2.2.2.2.2.2.2)) j)) ++ [])))) (cFair_gor (a0 := (a0 5)) (a1 := f0_rules j4) (z0_lasts := g5.1) (z0_keeps := g5.2.1) (z0_stalls := g5.2.2.1) (z0_buyers := g5.2.2.2.1) (z0_minute := g5.2.2.2.2.1) (z0_goods := g5.2.2.2.2.2.1) (z0_price := g5.2.2.2.2.2.2.1) (z0_tongue := g5.2.2.2.2.2.2.2.1) (z0_till := g5.2.2.2.2.2.2.2.2.1) (z0_wealth := g5.2.2.2.2.2.2.2.2.2.1) (z0_sold := g5.2.2.2.2.2.2.2.2.2.2.1) (z0_ring := g5.2.2.2.2.2.2.2.2.2.2.2.1) (z0_grudges := g5.2.2.2.2.2.2.2.2.2.2.2.2.1) (z0_purse := g5.2.2.2.2.2.2.2.2.2.2.2.2.2.1) (z0_came := g5.2.2.2.2.2.2.2.2.2.2.2.2.2.2.1) (z0_had := g5.2.2.2.2.2.2.2.2.2.2.2.2.2.2.2.1) (z0_seller := g5.2.2.2.2.2.2.2.2.2.2.2.2.2.2.2.2.1) (z0_praise := g5.2.2.2.2.2.2.2.2.2.2.2.2.2.2.2.2.2.1) (z0_borne := g5.2.2.2.2.2.2.2.2.2.2.2.2.2.2.2.2.2.2) (z1_steps := (p0_rules0 j4).1) (z1_size := (p0_rules0 j4).2.1) (z1_sumFrom := (p0_rules0 j4).2.2.1) (z1_testFrom := (p0_rules0 j4).2.2.2.1) (z1_testTo := (p0_rules0 j4).2.2.2.2.1) (z1_clauses := (p0_rules0 j4).2.2.2.2.2.1) (z1_parts := (p0_rules0 j4).2.2.2.2.2.2.1) (z1_readsTime := (p0_rules0 j4).2.2.2.2.2.2.2.1) (z1_words := (p0_rules0 j4).2.2.2.2.2.2.2.2.1) (z1_stack := (p0_rules0 j4).2.2.2.2.2.2.2.2.2) h6) rfl rfl (Nat.le_of_ble_eq_true rfl) kFair_gor (List.mem_of_getElem? (i := 46) rfl) (by decide) (by simp only [List.nodup_cons, List.mem_cons, List.not_mem_nil, or_false, not_or, List.nodup_nil, not_false_eq_true, and_true]; omega) (map_s (rfl) (map_s (fq1 (n0 := 20) (B := fun j g => bRuleG K (f0_rules j) g) (l := [bNextStallG K (a0 0) (fun j => some (f0_rules j 0)) f0_images ((a0 1) 0) ((a0 2) 0) ((a0 3) 0) ((a0 7) 0) ((a0 8) 0) g0, bTapeG K (a0 1) g1, bCursorG K (a0 2) g2, bWorldG K (a0 3) ((a0 4) 0) ((a0 5) 0) ((a0 6) 0) g3, bFairG K (a0 4) g4, bFairG K (a0 5) g5, bNotesG K (a0 6) g6, bPastG K (a0 7) (fun j => some (f7_fairs j 0)) q3.1, bTrialsG K (a0 8) ((a0 9) 0) ((a0 10) 0) ((a0 11) 0) g8, bFairG K (a0 9) g9, bOrderG K (a0 10) g10, bOrderG K (a0 11) g11]) rfl hj4) map_n)) rfl (stm_s (bs1 := ([bNextStallG K (a0 0) (fun j => some (f0_rules j 0)) f0_images ((a0 1) 0) ((a0 2) 0) ((a0 3) 0) ((a0 7) 0) ((a0 8) 0) g0, bTapeG K (a0 1) g1, bCursorG K (a0 2) g2, bWorldG K (a0 3) ((a0 4) 0) ((a0 5) 0) ((a0 6) 0) g3, bFairG K (a0 4) g4, bFair K (a0 5) g5.1 g5.2.1 g5.2.2.1 g5.2.2.2.1 q6.2.1 q6.2.2.1 g5.2.2.2.2.2.2.1 g5.2.2.2.2.2.2.2.1 q6.2.2.2.1 q6.2.2.2.2.1 q6.2.2.2.2.2.1 g5.2.2.2.2.2.2.2.2.2.2.2.1 g5.2.2.2.2.2.2.2.2.2.2.2.2.1 q6.2.2.2.2.2.2.1 g5.2.2.2.2.2.2.2.2.2.2.2.2.2.2.1 q6.2.2.2.2.2.2.2.1 g5.2.2.2.2.2.2.2.2.2.2.2.2.2.2.2.2.1 g5.2.2.2.2.2.2.2.2.2.2.2.2.2.2.2.2.2.1 g5.2.2.2.2.2.2.2.2.2.2.2.2.2.2.2.2.2.2, bNotesG K (a0 6) g6, bPastG K (a0 7) (fun j => some (f7_fairs j 0)) q3.1, bTrialsG K (a0 8) ((a0 9) 0) ((a0 10) 0) ((a0 11) 0) g8, bFairG K (a0 9) g9, bOrderG K (a0 10) g10, bOrderG K (a0 11) g11] ++ (fam 20 (fun j => bFairG K (f7_fairs j) (q3.2 j)) ++ (fam 6 (fun j => bRuleG K (f0_rules j) (p0_rules0 j)) ++ [])))) (rfl) (stm_s (bs1 := ([bNextStallG K (a0 0) (fun j => some (f0_rules j 0)) f0_images ((a0 1) 0) ((a0 2) 0) ((a0 3) 0) ((a0 7) 0) ((a0 8) 0) g0, bTapeG K (a0 1) g1, bCursorG K (a0 2) g2, bWorldG K (a0 3) ((a0 4) 0) ((a0 5) 0) ((a0 6) 0) g3, bFairG K (a0 4) g4, bFair K (a0 5) g5.1 g5.2.1 g5.2.2.1 g5.2.2.2.1 q6.2.1 q6.2.2.1 g5.2.2.2.2.2.2.1 g5.2.2.2.2.2.2.2.1 q6.2.2.2.1 q6.2.2.2.2.1 q6.2.2.2.2.2.1 g5.2.2.2.2.2.2.2.2.2.2.2.1 g5.2.2.2.2.2.2.2.2.2.2.2.2.1 q6.2.2.2.2.2.2.1 g5.2.2.2.2.2.2.2.2.2.2.2.2.2.2.1 q6.2.2.2.2.2.2.2.1 g5.2.2.2.2.2.2.2.2.2.2.2.2.2.2.2.2.1 g5.2.2.2.2.2.2.2.2.2.2.2.2.2.2.2.2.2.1 g5.2.2.2.2.2.2.2.2.2.2.2.2.2.2.2.2.2.2, bNotesG K (a0 6) g6, bPastG K (a0 7) (fun j => some (f7_fairs j 0)) q3.1, bTrialsG K (a0 8) ((a0 9) 0) ((a0 10) 0) ((a0 11) 0) g8, bFairG K (a0 9) g9, bOrderG K (a0 10) g10, bOrderG K (a0 11) g11] ++ (fam 20 (fun j => bFairG K (f7_fairs j) (q3.2 j)) ++ (fam 6 (fun j => bRuleG K (f0_rules j) ((va_up p0_rules0 j4 ((p0_rules0 j4).1, (p0_rules0 j4).2.1, (p0_rules0 j4).2.2.1, (p0_rules0 j4).2.2.2.1, (p0_rules0 j4).2.2.2.2.1, (p0_rules0 j4).2.2.2.2.2.1, (p0_rules0 j4).2.2.2.2.2.2.1, (p0_rules0 j4).2.2.2.2.2.2.2.1, q6.2.2.2.2.2.2.2.2.1, q6.2.2.2.2.2.2.2.2.2)) j)) ++ [])))) (fs1 (n0 := 20) (B := fun j g => bRuleG K (f0_rules j) g) (g := ((p0_rules0 j4).1, (p0_rules0 j4).2.1, (p0_rules0 j4).2.2.1, (p0_rules0 j4).2.2.2.1, (p0_rules0 j4).2.2.2.2.1, (p0_rules0 j4).2.2.2.2.2.1, (p0_rules0 j4).2.2.2.2.2.2.1, (p0_rules0 j4).2.2.2.2.2.2.2.1, q6.2.2.2.2.2.2.2.2.1, q6.2.2.2.2.2.2.2.2.2)) (l := [bNextStallG K (a0 0) (fun j => some (f0_rules j 0)) f0_images ((a0 1) 0) ((a0 2) 0) ((a0 3) 0) ((a0 7) 0) ((a0 8) 0) g0, bTapeG K (a0 1) g1, bCursorG K (a0 2) g2, bWorldG K (a0 3) ((a0 4) 0) ((a0 5) 0) ((a0 6) 0) g3, bFairG K (a0 4) g4, bFair K (a0 5) g5.1 g5.2.1 g5.2.2.1 g5.2.2.2.1 q6.2.1 q6.2.2.1 g5.2.2.2.2.2.2.1 g5.2.2.2.2.2.2.2.1 q6.2.2.2.1 q6.2.2.2.2.1 q6.2.2.2.2.2.1 g5.2.2.2.2.2.2.2.2.2.2.2.1 g5.2.2.2.2.2.2.2.2.2.2.2.2.1 q6.2.2.2.2.2.2.1 g5.2.2.2.2.2.2.2.2.2.2.2.2.2.2.1 q6.2.2.2.2.2.2.2.1 g5.2.2.2.2.2.2.2.2.2.2.2.2.2.2.2.2.1 g5.2.2.2.2.2.2.2.2.2.2.2.2.2.2.2.2.2.1 g5.2.2.2.2.2.2.2.2.2.2.2.2.2.2.2.2.2.2, bNotesG K (a0 6) g6, bPastG K (a0 7) (fun j => some (f7_fairs j 0)) q3.1, bTrialsG K (a0 8) ((a0 9) 0) ((a0 10) 0) ((a0 11) 0) g8, bFairG K (a0 9) g9, bOrderG K (a0 10) g10, bOrderG K (a0 11) g11]) rfl hj4) stm_n)) rfl rfl rfl rfl dX11_minute_55 ?_
        have hq := Option.some.inj h
        subst hq
        exact r_iret rfl dX11_minute_58
    · replace h := it_neg c2 h
      refine r_iconst (x := (-1 : Int32)) dX11_minute_26 (by decide) ?_
      have hq := Option.some.inj h
      subst hq
      exact r_iret rfl dX11_minute_27
end
theorem dX11_areTwoStalls_0 : decode cX11_areTwoStalls 0 = .ok (.aload_n 0, 1) := by decide +kernel
theorem dX11_areTwoStalls_1 : decode cX11_areTwoStalls 1 = .ok (.iload_n 1, 1) := by decide +kernel
theorem dX11_areTwoStalls_2 : decode cX11_areTwoStalls 2 = .ok (.invokevirtual 115, 3) := by decide +kernel
theorem dX11_areTwoStalls_5 : decode cX11_areTwoStalls 5 = .ok (.ifCond .eq 20, 3) := by decide +kernel
theorem dX11_areTwoStalls_8 : decode cX11_areTwoStalls 8 = .ok (.aload_n 0, 1) := by decide +kernel
theorem dX11_areTwoStalls_9 : decode cX11_areTwoStalls 9 = .ok (.iload_n 2, 1) := by decide +kernel
theorem dX11_areTwoStalls_10 : decode cX11_areTwoStalls 10 = .ok (.invokevirtual 115, 3) := by decide +kernel
theorem dX11_areTwoStalls_13 : decode cX11_areTwoStalls 13 = .ok (.ifCond .eq 12, 3) := by decide +kernel
theorem dX11_areTwoStalls_16 : decode cX11_areTwoStalls 16 = .ok (.iload_n 1, 1) := by decide +kernel
theorem dX11_areTwoStalls_17 : decode cX11_areTwoStalls 17 = .ok (.iload_n 2, 1) := by decide +kernel
theorem dX11_areTwoStalls_18 : decode cX11_areTwoStalls 18 = .ok (.if_icmp .eq 7, 3) := by decide +kernel
theorem dX11_areTwoStalls_21 : decode cX11_areTwoStalls 21 = .ok (.iconst 1, 1) := by decide +kernel
theorem dX11_areTwoStalls_22 : decode cX11_areTwoStalls 22 = .ok (.goto 4, 3) := by decide +kernel
theorem dX11_areTwoStalls_25 : decode cX11_areTwoStalls 25 = .ok (.iconst 0, 1) := by decide +kernel
theorem dX11_areTwoStalls_26 : decode cX11_areTwoStalls 26 = .ok (.ireturn, 1) := by decide +kernel
abbrev MNextStall_areTwoStalls : rx_M := (RX11, yX11_areTwoStalls, cX11_areTwoStalls, 3, (some .boolean), 3)
theorem kNextStall_areTwoStalls : rKv MNextStall_areTwoStalls 2 := ⟨tb_in (i := 14) (j := 17) rfl rfl, tb_in (i := 14) (j := 18) rfl rfl, tb_in (i := 2) (j := 22) rfl rfl, tb_in (i := 14) (j := 15) rfl rfl, ⟨by decide, by decide, by decide +kernel⟩, by decide⟩
section
variable {a0 : Nat → Nat → Nat} {g0 : tyNextStall} {g1 : tyTape} {g2 : tyCursor} {g3 : tyWorld} {g4 : tyFair} {g5 : tyFair} {g6 : tyNotes} {g7 : tyPast} {g8 : tyTrials} {g9 : tyFair} {g10 : tyOrder} {g11 : tyOrder} {f0_rules : Nat → Option Nat} {f0_images : Nat → Option Nat} {f7_fairs : Nat → Option Nat}
def mNextStall_areTwoStalls (x1 : Int32) (x2 : Int32) (g5 : tyFair) : Option (Int32) := (mNextStall_isStall x1 g5).bind (fun q1 => (if q1 = 0 then some ((0 : Int32)) else (mNextStall_isStall x2 g5).bind (fun q3 => (if q3 = 0 then some ((0 : Int32)) else (if x1 = x2 then some ((0 : Int32)) else some ((1 : Int32)))))))
set_option maxHeartbeats 4000000 in
set_option maxRecDepth 20000 in
theorem cNextStall_areTwoStalls {q : Int32} {x1 : Int32} {x2 : Int32} (h : mNextStall_areTwoStalls x1 x2 g5 = some q) : rMet l D Z (ty7 K) MNextStall_areTwoStalls [.ref ((a0 0) 0), .int x1, .int x2] (List.flatten [bNextStallG K (a0 0) f0_rules f0_images ((a0 1) 0) ((a0 2) 0) ((a0 3) 0) ((a0 7) 0) ((a0 8) 0) g0, bTapeG K (a0 1) g1, bCursorG K (a0 2) g2, bWorldG K (a0 3) ((a0 4) 0) ((a0 5) 0) ((a0 6) 0) g3, bFairG K (a0 4) g4, bFairG K (a0 5) g5, bNotesG K (a0 6) g6, bPastG K (a0 7) f7_fairs g7, bTrialsG K (a0 8) ((a0 9) 0) ((a0 10) 0) ((a0 11) 0) g8, bFairG K (a0 9) g9, bOrderG K (a0 10) g10, bOrderG K (a0 11) g11]) (List.flatten [bNextStallG K (a0 0) f0_rules f0_images ((a0 1) 0) ((a0 2) 0) ((a0 3) 0) ((a0 7) 0) ((a0 8) 0) g0, bTapeG K (a0 1) g1, bCursorG K (a0 2) g2, bWorldG K (a0 3) ((a0 4) 0) ((a0 5) 0) ((a0 6) 0) g3, bFairG K (a0 4) g4, bFairG K (a0 5) g5, bNotesG K (a0 6) g6, bPastG K (a0 7) f7_fairs g7, bTrialsG K (a0 8) ((a0 9) 0) ((a0 10) 0) ((a0 11) 0) g8, bFairG K (a0 9) g9, bOrderG K (a0 10) g10, bOrderG K (a0 11) g11]) (some (.int q)) := by
  refine rMet.of (by decide) rfl (Nat.le_of_ble_eq_true rfl) ?_
  refine r_sub (lv' := [(0, .ref ((a0 0) 0)), (1, .int x1), (2, .int x2)]) [0, 1, 2] rfl ?_
  unfold mNextStall_areTwoStalls at h
  refine r_aload_n 0 dX11_areTwoStalls_0 rfl ?_
  refine r_iload_n 1 dX11_areTwoStalls_1 rfl ?_
  obtain ⟨q1, h1, h⟩ := bd_some h
  refine b_callV (isC := [0, 1, 2, 3, 4, 5, 6, 7, 8, 9, 10, 11]) (ci := 9)  (st := []) (bs1 := [bNextStallG K (a0 0) f0_rules f0_images ((a0 1) 0) ((a0 2) 0) ((a0 3) 0) ((a0 7) 0) ((a0 8) 0) g0, bTapeG K (a0 1) g1, bCursorG K (a0 2) g2, bWorldG K (a0 3) ((a0 4) 0) ((a0 5) 0) ((a0 6) 0) g3, bFairG K (a0 4) g4, bFairG K (a0 5) g5, bNotesG K (a0 6) g6, bPastG K (a0 7) f7_fairs g7, bTrialsG K (a0 8) ((a0 9) 0) ((a0 10) 0) ((a0 11) 0) g8, bFairG K (a0 9) g9, bOrderG K (a0 10) g10, bOrderG K (a0 11) g11]) (cNextStall_isStall (a0 := a0) (g0 := g0) (g1 := g1) (g2 := g2) (g3 := g3) (g4 := g4) (g5 := g5) (g6 := g6) (g7 := g7) (g8 := g8) (g9 := g9) (g10 := g10) (g11 := g11) h1) rfl rfl (Nat.le_of_ble_eq_true rfl) kNextStall_isStall (tb_in (i := 13) (j := 31) rfl rfl) (by decide) (by decide) rfl rfl rfl rfl rfl rfl rfl dX11_areTwoStalls_2 ?_
  refine r_if_eq 25 dX11_areTwoStalls_5 (by decide) (fun c2 => ?_) (fun c2 => ?_)
  · replace h := it_pos c2 h
    refine r_iconst (x := (0 : Int32)) dX11_areTwoStalls_25 (by decide) ?_
    have hq := Option.some.inj h
    subst hq
    exact r_zret (ty := .boolean) rfl rfl dX11_areTwoStalls_26
  · replace h := it_neg c2 h
    refine r_aload_n 0 dX11_areTwoStalls_8 rfl ?_
    refine r_iload_n 2 dX11_areTwoStalls_9 rfl ?_
    obtain ⟨q3, h3, h⟩ := bd_some h
    refine b_callV (isC := [0, 1, 2, 3, 4, 5, 6, 7, 8, 9, 10, 11]) (ci := 9)  (st := []) (bs1 := [bNextStallG K (a0 0) f0_rules f0_images ((a0 1) 0) ((a0 2) 0) ((a0 3) 0) ((a0 7) 0) ((a0 8) 0) g0, bTapeG K (a0 1) g1, bCursorG K (a0 2) g2, bWorldG K (a0 3) ((a0 4) 0) ((a0 5) 0) ((a0 6) 0) g3, bFairG K (a0 4) g4, bFairG K (a0 5) g5, bNotesG K (a0 6) g6, bPastG K (a0 7) f7_fairs g7, bTrialsG K (a0 8) ((a0 9) 0) ((a0 10) 0) ((a0 11) 0) g8, bFairG K (a0 9) g9, bOrderG K (a0 10) g10, bOrderG K (a0 11) g11]) (cNextStall_isStall (a0 := a0) (g0 := g0) (g1 := g1) (g2 := g2) (g3 := g3) (g4 := g4) (g5 := g5) (g6 := g6) (g7 := g7) (g8 := g8) (g9 := g9) (g10 := g10) (g11 := g11) h3) rfl rfl (Nat.le_of_ble_eq_true rfl) kNextStall_isStall (tb_in (i := 13) (j := 31) rfl rfl) (by decide) (by decide) rfl rfl rfl rfl rfl rfl rfl dX11_areTwoStalls_10 ?_
    refine r_if_eq 25 dX11_areTwoStalls_13 (by decide) (fun c4 => ?_) (fun c4 => ?_)
    · replace h := it_pos c4 h
      refine r_iconst (x := (0 : Int32)) dX11_areTwoStalls_25 (by decide) ?_
      have hq := Option.some.inj h
      subst hq
      exact r_zret (ty := .boolean) rfl rfl dX11_areTwoStalls_26
    · replace h := it_neg c4 h
      refine r_iload_n 1 dX11_areTwoStalls_16 rfl ?_
      refine r_iload_n 2 dX11_areTwoStalls_17 rfl ?_
      refine r_icmp_eq 25 dX11_areTwoStalls_18 (by decide) (fun c5 => ?_) (fun c5 => ?_)
      · replace h := it_pos c5 h
        refine r_iconst (x := (0 : Int32)) dX11_areTwoStalls_25 (by decide) ?_
        have hq := Option.some.inj h
        subst hq
        exact r_zret (ty := .boolean) rfl rfl dX11_areTwoStalls_26
      · replace h := it_neg c5 h
        refine r_iconst (x := (1 : Int32)) dX11_areTwoStalls_21 (by decide) ?_
        refine r_goto 26 dX11_areTwoStalls_22 (by decide) ?_
        have hq := Option.some.inj h
        subst hq
        exact r_zret (ty := .boolean) rfl rfl dX11_areTwoStalls_26
end
theorem dX11_move_0 : decode cX11_move 0 = .ok (.aload_n 0, 1) := by decide +kernel
theorem dX11_move_1 : decode cX11_move 1 = .ok (.iload_n 1, 1) := by decide +kernel
theorem dX11_move_2 : decode cX11_move 2 = .ok (.iload_n 2, 1) := by decide +kernel
theorem dX11_move_3 : decode cX11_move 3 = .ok (.invokevirtual 184, 3) := by decide +kernel
theorem dX11_move_6 : decode cX11_move 6 = .ok (.ifCond .ne 5, 3) := by decide +kernel
theorem dX11_move_9 : decode cX11_move 9 = .ok (.iconst (-1), 1) := by decide +kernel
theorem dX11_move_10 : decode cX11_move 10 = .ok (.ireturn, 1) := by decide +kernel
theorem dX11_move_11 : decode cX11_move 11 = .ok (.aload_n 0, 1) := by decide +kernel
theorem dX11_move_12 : decode cX11_move 12 = .ok (.getfield 43, 3) := by decide +kernel
theorem dX11_move_15 : decode cX11_move 15 = .ok (.aload_n 0, 1) := by decide +kernel
theorem dX11_move_16 : decode cX11_move 16 = .ok (.getfield 36, 3) := by decide +kernel
theorem dX11_move_19 : decode cX11_move 19 = .ok (.getfield 119, 3) := by decide +kernel
theorem dX11_move_22 : decode cX11_move 22 = .ok (.invokevirtual 173, 3) := by decide +kernel
theorem dX11_move_25 : decode cX11_move 25 = .ok (.aload_n 0, 1) := by decide +kernel
theorem dX11_move_26 : decode cX11_move 26 = .ok (.getfield 36, 3) := by decide +kernel
theorem dX11_move_29 : decode cX11_move 29 = .ok (.getfield 119, 3) := by decide +kernel
theorem dX11_move_32 : decode cX11_move 32 = .ok (.iload_n 1, 1) := by decide +kernel
theorem dX11_move_33 : decode cX11_move 33 = .ok (.iload_n 2, 1) := by decide +kernel
theorem dX11_move_34 : decode cX11_move 34 = .ok (.invokevirtual 188, 3) := by decide +kernel
theorem dX11_move_37 : decode cX11_move 37 = .ok (.aload_n 0, 1) := by decide +kernel
theorem dX11_move_38 : decode cX11_move 38 = .ok (.getfield 36, 3) := by decide +kernel
theorem dX11_move_41 : decode cX11_move 41 = .ok (.getfield 119, 3) := by decide +kernel
theorem dX11_move_44 : decode cX11_move 44 = .ok (.iload_n 1, 1) := by decide +kernel
theorem dX11_move_45 : decode cX11_move 45 = .ok (.invokevirtual 135, 3) := by decide +kernel
theorem dX11_move_48 : decode cX11_move 48 = .ok (.ireturn, 1) := by decide +kernel
abbrev MNextStall_move : rx_M := (RX11, yX11_move, cX11_move, 3, (some .int), 6)
theorem kNextStall_move : rKv MNextStall_move 2 := ⟨tb_in (i := 32) (j := 7) rfl rfl, tb_in (i := 32) (j := 8) rfl rfl, tb_in (i := 2) (j := 22) rfl rfl, tb_in (i := 14) (j := 19) rfl rfl, ⟨by decide, by decide, by decide +kernel⟩, by decide⟩
section
variable {a0 : Nat → Nat → Nat} {g0 : tyNextStall} {g1 : tyTape} {g2 : tyCursor} {g3 : tyWorld} {g4 : tyFair} {g5 : tyFair} {g6 : tyNotes} {g7 : tyPast} {g8 : tyTrials} {g9 : tyFair} {g10 : tyOrder} {g11 : tyOrder} {f0_rules : Nat → Option Nat} {f0_images : Nat → Option Nat} {f7_fairs : Nat → Nat → Nat} {p7_fairs0 : Nat → tyFair}
def mNextStall_move (x1 : Int32) (x2 : Int32) (g5 : tyFair) (g7 : tyPast) (p7_fairs0 : Nat → tyFair) : Option (Int32 × tyFair × tyPast × (Nat → tyFair)) := (mNextStall_areTwoStalls x1 x2 g5).bind (fun q1 => (if q1 = 0 then some ((-1 : Int32), g5, g7, p7_fairs0) else (mPast_keep g7 g5 p7_fairs0).bind (fun q3 => (mFair_swapPlaces x1 x2 g5.2.2.1 g5.2.2.2.2.2.2.2.1 g5.2.2.2.2.2.2.2.2.2.2.2.1 g5.2.2.2.2.2.2.2.2.2.2.2.2.1 g5.2.2.2.2.2.2.2.2.2.2.2.2.2.2.2.2.1 g5.2.2.2.2.2.2.2.2.2.2.2.2.2.2.2.2.2.1 g5.2.2.2.2.2.2.2.2.2.2.2.2.2.2.2.2.2.2).bind (fun q4 => (mFair_placeOf x1 g5.2.2.1 q4.1).bind (fun q5 => some (q5, (g5.1, g5.2.1, g5.2.2.1, g5.2.2.2.1, g5.2.2.2.2.1, g5.2.2.2.2.2.1, g5.2.2.2.2.2.2.1, g5.2.2.2.2.2.2.2.1, g5.2.2.2.2.2.2.2.2.1, g5.2.2.2.2.2.2.2.2.2.1, g5.2.2.2.2.2.2.2.2.2.2.1, q4.1, g5.2.2.2.2.2.2.2.2.2.2.2.2.1, g5.2.2.2.2.2.2.2.2.2.2.2.2.2.1, g5.2.2.2.2.2.2.2.2.2.2.2.2.2.2.1, g5.2.2.2.2.2.2.2.2.2.2.2.2.2.2.2.1, q4.2.1, q4.2.2.1, q4.2.2.2), q3.1, q3.2))))))
set_option maxHeartbeats 4000000 in
set_option maxRecDepth 20000 in
theorem cNextStall_move {q : Int32 × tyFair × tyPast × (Nat → tyFair)} {x1 : Int32} {x2 : Int32} (h : mNextStall_move x1 x2 g5 g7 p7_fairs0 = some q) : rMet l D Z (ty7 K) MNextStall_move [.ref ((a0 0) 0), .int x1, .int x2] (List.flatten ([bNextStallG K (a0 0) f0_rules f0_images ((a0 1) 0) ((a0 2) 0) ((a0 3) 0) ((a0 7) 0) ((a0 8) 0) g0, bTapeG K (a0 1) g1, bCursorG K (a0 2) g2, bWorldG K (a0 3) ((a0 4) 0) ((a0 5) 0) ((a0 6) 0) g3, bFairG K (a0 4) g4, bFairG K (a0 5) g5, bNotesG K (a0 6) g6, bPastG K (a0 7) (fun j => some (f7_fairs j 0)) g7, bTrialsG K (a0 8) ((a0 9) 0) ((a0 10) 0) ((a0 11) 0) g8, bFairG K (a0 9) g9, bOrderG K (a0 10) g10, bOrderG K (a0 11) g11] ++ (fam 20 (fun j => bFairG K (f7_fairs j) (p7_fairs0 j)) ++ []))) (List.flatten ([bNextStallG K (a0 0) f0_rules f0_images ((a0 1) 0) ((a0 2) 0) ((a0 3) 0) ((a0 7) 0) ((a0 8) 0) g0, bTapeG K (a0 1) g1, bCursorG K (a0 2) g2, bWorldG K (a0 3) ((a0 4) 0) ((a0 5) 0) ((a0 6) 0) g3, bFairG K (a0 4) g4, bFairG K (a0 5) q.2.1, bNotesG K (a0 6) g6, bPastG K (a0 7) (fun j => some (f7_fairs j 0)) q.2.2.1, bTrialsG K (a0 8) ((a0 9) 0) ((a0 10) 0) ((a0 11) 0) g8, bFairG K (a0 9) g9, bOrderG K (a0 10) g10, bOrderG K (a0 11) g11] ++ (fam 20 (fun j => bFairG K (f7_fairs j) (q.2.2.2 j)) ++ []))) (some (.int q.1)) := by
  refine rMet.of (by decide) rfl (Nat.le_of_ble_eq_true rfl) ?_
  refine r_sub (lv' := [(0, .ref ((a0 0) 0)), (1, .int x1), (2, .int x2)]) [0, 1, 2] rfl ?_
  unfold mNextStall_move at h
  refine r_aload_n 0 dX11_move_0 rfl ?_
  refine r_iload_n 1 dX11_move_1 rfl ?_
  refine r_iload_n 2 dX11_move_2 rfl ?_
  obtain ⟨q1, h1, h⟩ := bd_some h
  refine b_callV (isC := [0, 1, 2, 3, 4, 5, 6, 7, 8, 9, 10, 11]) (ci := 9)  (st := []) (bs1 := ([bNextStallG K (a0 0) f0_rules f0_images ((a0 1) 0) ((a0 2) 0) ((a0 3) 0) ((a0 7) 0) ((a0 8) 0) g0, bTapeG K (a0 1) g1, bCursorG K (a0 2) g2, bWorldG K (a0 3) ((a0 4) 0) ((a0 5) 0) ((a0 6) 0) g3, bFairG K (a0 4) g4, bFairG K (a0 5) g5, bNotesG K (a0 6) g6, bPastG K (a0 7) (fun j => some (f7_fairs j 0)) g7, bTrialsG K (a0 8) ((a0 9) 0) ((a0 10) 0) ((a0 11) 0) g8, bFairG K (a0 9) g9, bOrderG K (a0 10) g10, bOrderG K (a0 11) g11] ++ (fam 20 (fun j => bFairG K (f7_fairs j) (p7_fairs0 j)) ++ []))) (cNextStall_areTwoStalls (a0 := a0) (g0 := g0) (g1 := g1) (g2 := g2) (g3 := g3) (g4 := g4) (g5 := g5) (g6 := g6) (g7 := g7) (g8 := g8) (g9 := g9) (g10 := g10) (g11 := g11) h1) rfl rfl (Nat.le_of_ble_eq_true rfl) kNextStall_areTwoStalls (tb_in (i := 14) (j := 16) rfl rfl) (by decide) (by decide) rfl rfl rfl rfl rfl rfl rfl dX11_move_3 ?_
  refine r_if_ne 11 dX11_move_6 (by decide) (fun c2 => ?_) (fun c2 => ?_)
  · replace h := it_neg c2 h
    refine r_aload_n 0 dX11_move_11 rfl ?_
    refine gNextStall_past 0 rfl (tb_in (i := 12) (j := 30) rfl rfl) dX11_move_12 ?_
    refine r_aload_n 0 dX11_move_15 rfl ?_
    refine gNextStall_world 0 rfl (tb_in (i := 12) (j := 26) rfl rfl) dX11_move_16 ?_
    refine gWorld_nowN 3 rfl (List.mem_of_getElem? (i := 55) rfl) dX11_move_19 ?_
    obtain ⟨q3, h3, h⟩ := bd_some h
    refine b_callVN (isC := ([7, 5] ++ (List.range' 12 20 ++ []))) (ci := 4)  (st := []) (bs1 := ([bNextStallG K (a0 0) f0_rules f0_images ((a0 1) 0) ((a0 2) 0) ((a0 3) 0) ((a0 7) 0) ((a0 8) 0) g0, bTapeG K (a0 1) g1, bCursorG K (a0 2) g2, bWorldG K (a0 3) ((a0 4) 0) ((a0 5) 0) ((a0 6) 0) g3, bFairG K (a0 4) g4, bFairG K (a0 5) g5, bNotesG K (a0 6) g6, bPastG K (a0 7) (fun j => some (f7_fairs j 0)) q3.1, bTrialsG K (a0 8) ((a0 9) 0) ((a0 10) 0) ((a0 11) 0) g8, bFairG K (a0 9) g9, bOrderG K (a0 10) g10, bOrderG K (a0 11) g11] ++ (fam 20 (fun j => bFairG K (f7_fairs j) (q3.2 j)) ++ []))) (cPast_keep (a0 := (a0 7)) (a1 := (a0 5)) (f0_fairs := f7_fairs) (g0 := g7) (g1 := g5) (p0_fairs0 := p7_fairs0) h3) rfl rfl (Nat.le_of_ble_eq_true rfl) kPast_keep (List.mem_of_getElem? (i := 44) rfl) (by decide) (by decide +kernel) (map_app rfl (map_app (map_f0 (n := 20) (l := [bNextStallG K (a0 0) f0_rules f0_images ((a0 1) 0) ((a0 2) 0) ((a0 3) 0) ((a0 7) 0) ((a0 8) 0) g0, bTapeG K (a0 1) g1, bCursorG K (a0 2) g2, bWorldG K (a0 3) ((a0 4) 0) ((a0 5) 0) ((a0 6) 0) g3, bFairG K (a0 4) g4, bFairG K (a0 5) g5, bNotesG K (a0 6) g6, bPastG K (a0 7) (fun j => some (f7_fairs j 0)) g7, bTrialsG K (a0 8) ((a0 9) 0) ((a0 10) 0) ((a0 11) 0) g8, bFairG K (a0 9) g9, bOrderG K (a0 10) g10, bOrderG K (a0 11) g11]) rfl) rfl)) (by simp only [List.length_append, fam_len, List.length_range', List.length_cons, List.length_nil]) (stm_a (bs1 := ([bNextStallG K (a0 0) f0_rules f0_images ((a0 1) 0) ((a0 2) 0) ((a0 3) 0) ((a0 7) 0) ((a0 8) 0) g0, bTapeG K (a0 1) g1, bCursorG K (a0 2) g2, bWorldG K (a0 3) ((a0 4) 0) ((a0 5) 0) ((a0 6) 0) g3, bFairG K (a0 4) g4, bFairG K (a0 5) g5, bNotesG K (a0 6) g6, bPastG K (a0 7) (fun j => some (f7_fairs j 0)) q3.1, bTrialsG K (a0 8) ((a0 9) 0) ((a0 10) 0) ((a0 11) 0) g8, bFairG K (a0 9) g9, bOrderG K (a0 10) g10, bOrderG K (a0 11) g11] ++ (fam 20 (fun j => bFairG K (f7_fairs j) (p7_fairs0 j)) ++ []))) rfl rfl (stm_a (bs1 := ([bNextStallG K (a0 0) f0_rules f0_images ((a0 1) 0) ((a0 2) 0) ((a0 3) 0) ((a0 7) 0) ((a0 8) 0) g0, bTapeG K (a0 1) g1, bCursorG K (a0 2) g2, bWorldG K (a0 3) ((a0 4) 0) ((a0 5) 0) ((a0 6) 0) g3, bFairG K (a0 4) g4, bFairG K (a0 5) g5, bNotesG K (a0 6) g6, bPastG K (a0 7) (fun j => some (f7_fairs j 0)) q3.1, bTrialsG K (a0 8) ((a0 9) 0) ((a0 10) 0) ((a0 11) 0) g8, bFairG K (a0 9) g9, bOrderG K (a0 10) g10, bOrderG K (a0 11) g11] ++ (fam 20 (fun j => bFairG K (f7_fairs j) (q3.2 j)) ++ []))) (by rw [List.length_range', fam_len]) (stm_f0 (n := 20) (l := [bNextStallG K (a0 0) f0_rules f0_images ((a0 1) 0) ((a0 2) 0) ((a0 3) 0) ((a0 7) 0) ((a0 8) 0) g0, bTapeG K (a0 1) g1, bCursorG K (a0 2) g2, bWorldG K (a0 3) ((a0 4) 0) ((a0 5) 0) ((a0 6) 0) g3, bFairG K (a0 4) g4, bFairG K (a0 5) g5, bNotesG K (a0 6) g6, bPastG K (a0 7) (fun j => some (f7_fairs j 0)) q3.1, bTrialsG K (a0 8) ((a0 9) 0) ((a0 10) 0) ((a0 11) 0) g8, bFairG K (a0 9) g9, bOrderG K (a0 10) g10, bOrderG K (a0 11) g11]) rfl) rfl)) rfl rfl rfl rfl dX11_move_22 ?_
    refine r_aload_n 0 dX11_move_25 rfl ?_
    refine gNextStall_world 0 rfl (tb_in (i := 12) (j := 26) rfl rfl) dX11_move_26 ?_
    refine gWorld_nowN 3 rfl (List.mem_of_getElem? (i := 55) rfl) dX11_move_29 ?_
    refine r_iload_n 1 dX11_move_32 rfl ?_
    refine r_iload_n 2 dX11_move_33 rfl ?_
    obtain ⟨q4, h4, h⟩ := bd_some h
    refine b_callVN (isC := [5]) (ci := 1)  (st := []) (bs1 := ([bNextStallG K (a0 0) f0_rules f0_images ((a0 1) 0) ((a0 2) 0) ((a0 3) 0) ((a0 7) 0) ((a0 8) 0) g0, bTapeG K (a0 1) g1, bCursorG K (a0 2) g2, bWorldG K (a0 3) ((a0 4) 0) ((a0 5) 0) ((a0 6) 0) g3, bFairG K (a0 4) g4, bFair K (a0 5) g5.1 g5.2.1 g5.2.2.1 g5.2.2.2.1 g5.2.2.2.2.1 g5.2.2.2.2.2.1 g5.2.2.2.2.2.2.1 g5.2.2.2.2.2.2.2.1 g5.2.2.2.2.2.2.2.2.1 g5.2.2.2.2.2.2.2.2.2.1 g5.2.2.2.2.2.2.2.2.2.2.1 q4.1 g5.2.2.2.2.2.2.2.2.2.2.2.2.1 g5.2.2.2.2.2.2.2.2.2.2.2.2.2.1 g5.2.2.2.2.2.2.2.2.2.2.2.2.2.2.1 g5.2.2.2.2.2.2.2.2.2.2.2.2.2.2.2.1 q4.2.1 q4.2.2.1 q4.2.2.2, bNotesG K (a0 6) g6, bPastG K (a0 7) (fun j => some (f7_fairs j 0)) q3.1, bTrialsG K (a0 8) ((a0 9) 0) ((a0 10) 0) ((a0 11) 0) g8, bFairG K (a0 9) g9, bOrderG K (a0 10) g10, bOrderG K (a0 11) g11] ++ (fam 20 (fun j => bFairG K (f7_fairs j) (q3.2 j)) ++ []))) (cFair_swapPlaces (a0 := (a0 5)) (z0_lasts := g5.1) (z0_keeps := g5.2.1) (z0_stalls := g5.2.2.1) (z0_buyers := g5.2.2.2.1) (z0_minute := g5.2.2.2.2.1) (z0_goods := g5.2.2.2.2.2.1) (z0_price := g5.2.2.2.2.2.2.1) (z0_tongue := g5.2.2.2.2.2.2.2.1) (z0_till := g5.2.2.2.2.2.2.2.2.1) (z0_wealth := g5.2.2.2.2.2.2.2.2.2.1) (z0_sold := g5.2.2.2.2.2.2.2.2.2.2.1) (z0_ring := g5.2.2.2.2.2.2.2.2.2.2.2.1) (z0_grudges := g5.2.2.2.2.2.2.2.2.2.2.2.2.1) (z0_purse := g5.2.2.2.2.2.2.2.2.2.2.2.2.2.1) (z0_came := g5.2.2.2.2.2.2.2.2.2.2.2.2.2.2.1) (z0_had := g5.2.2.2.2.2.2.2.2.2.2.2.2.2.2.2.1) (z0_seller := g5.2.2.2.2.2.2.2.2.2.2.2.2.2.2.2.2.1) (z0_praise := g5.2.2.2.2.2.2.2.2.2.2.2.2.2.2.2.2.2.1) (z0_borne := g5.2.2.2.2.2.2.2.2.2.2.2.2.2.2.2.2.2.2) h4) rfl rfl (Nat.le_of_ble_eq_true rfl) kFair_swapPlaces (List.mem_of_getElem? (i := 48) rfl) (by decide) (by decide) rfl rfl rfl rfl rfl rfl rfl dX11_move_34 ?_
    refine r_aload_n 0 dX11_move_37 rfl ?_
    refine gNextStall_world 0 rfl (tb_in (i := 12) (j := 26) rfl rfl) dX11_move_38 ?_
    refine gWorld_nowN 3 rfl (List.mem_of_getElem? (i := 55) rfl) dX11_move_41 ?_
    refine r_iload_n 1 dX11_move_44 rfl ?_
    obtain ⟨q5, h5, h⟩ := bd_some h
    refine b_callVN (isC := [5]) (ci := 1)  (st := []) (bs1 := ([bNextStallG K (a0 0) f0_rules f0_images ((a0 1) 0) ((a0 2) 0) ((a0 3) 0) ((a0 7) 0) ((a0 8) 0) g0, bTapeG K (a0 1) g1, bCursorG K (a0 2) g2, bWorldG K (a0 3) ((a0 4) 0) ((a0 5) 0) ((a0 6) 0) g3, bFairG K (a0 4) g4, bFair K (a0 5) g5.1 g5.2.1 g5.2.2.1 g5.2.2.2.1 g5.2.2.2.2.1 g5.2.2.2.2.2.1 g5.2.2.2.2.2.2.1 g5.2.2.2.2.2.2.2.1 g5.2.2.2.2.2.2.2.2.1 g5.2.2.2.2.2.2.2.2.2.1 g5.2.2.2.2.2.2.2.2.2.2.1 q4.1 g5.2.2.2.2.2.2.2.2.2.2.2.2.1 g5.2.2.2.2.2.2.2.2.2.2.2.2.2.1 g5.2.2.2.2.2.2.2.2.2.2.2.2.2.2.1 g5.2.2.2.2.2.2.2.2.2.2.2.2.2.2.2.1 q4.2.1 q4.2.2.1 q4.2.2.2, bNotesG K (a0 6) g6, bPastG K (a0 7) (fun j => some (f7_fairs j 0)) q3.1, bTrialsG K (a0 8) ((a0 9) 0) ((a0 10) 0) ((a0 11) 0) g8, bFairG K (a0 9) g9, bOrderG K (a0 10) g10, bOrderG K (a0 11) g11] ++ (fam 20 (fun j => bFairG K (f7_fairs j) (q3.2 j)) ++ []))) (cFair_placeOf (a0 := (a0 5)) (z0_lasts := g5.1) (z0_keeps := g5.2.1) (z0_stalls := g5.2.2.1) (z0_buyers := g5.2.2.2.1) (z0_minute := g5.2.2.2.2.1) (z0_goods := g5.2.2.2.2.2.1) (z0_price := g5.2.2.2.2.2.2.1) (z0_tongue := g5.2.2.2.2.2.2.2.1) (z0_till := g5.2.2.2.2.2.2.2.2.1) (z0_wealth := g5.2.2.2.2.2.2.2.2.2.1) (z0_sold := g5.2.2.2.2.2.2.2.2.2.2.1) (z0_ring := q4.1) (z0_grudges := g5.2.2.2.2.2.2.2.2.2.2.2.2.1) (z0_purse := g5.2.2.2.2.2.2.2.2.2.2.2.2.2.1) (z0_came := g5.2.2.2.2.2.2.2.2.2.2.2.2.2.2.1) (z0_had := g5.2.2.2.2.2.2.2.2.2.2.2.2.2.2.2.1) (z0_seller := q4.2.1) (z0_praise := q4.2.2.1) (z0_borne := q4.2.2.2) h5) rfl rfl (Nat.le_of_ble_eq_true rfl) kFair_placeOf (List.mem_of_getElem? (i := 42) rfl) (by decide) (by decide) rfl rfl rfl rfl rfl rfl rfl dX11_move_45 ?_
    have hq := Option.some.inj h
    subst hq
    exact r_iret rfl dX11_move_48
  · replace h := it_pos c2 h
    refine r_iconst (x := (-1 : Int32)) dX11_move_9 (by decide) ?_
    have hq := Option.some.inj h
    subst hq
    exact r_iret rfl dX11_move_10
end
theorem dX11_price_0 : decode cX11_price 0 = .ok (.aload_n 0, 1) := by decide +kernel
theorem dX11_price_1 : decode cX11_price 1 = .ok (.iload_n 1, 1) := by decide +kernel
theorem dX11_price_2 : decode cX11_price 2 = .ok (.invokevirtual 115, 3) := by decide +kernel
theorem dX11_price_5 : decode cX11_price 5 = .ok (.ifCond .eq 29, 3) := by decide +kernel
theorem dX11_price_8 : decode cX11_price 8 = .ok (.iload_n 2, 1) := by decide +kernel
theorem dX11_price_9 : decode cX11_price 9 = .ok (.iconst 1, 1) := by decide +kernel
theorem dX11_price_10 : decode cX11_price 10 = .ok (.bipush 40, 2) := by decide +kernel
theorem dX11_price_12 : decode cX11_price 12 = .ok (.invokestatic 70, 3) := by decide +kernel
theorem dX11_price_15 : decode cX11_price 15 = .ok (.ifCond .eq 19, 3) := by decide +kernel
theorem dX11_price_18 : decode cX11_price 18 = .ok (.iload_n 2, 1) := by decide +kernel
theorem dX11_price_19 : decode cX11_price 19 = .ok (.aload_n 0, 1) := by decide +kernel
theorem dX11_price_20 : decode cX11_price 20 = .ok (.getfield 36, 3) := by decide +kernel
theorem dX11_price_23 : decode cX11_price 23 = .ok (.getfield 119, 3) := by decide +kernel
theorem dX11_price_26 : decode cX11_price 26 = .ok (.getfield 126, 3) := by decide +kernel
theorem dX11_price_29 : decode cX11_price 29 = .ok (.iload_n 1, 1) := by decide +kernel
theorem dX11_price_30 : decode cX11_price 30 = .ok (.iaload, 1) := by decide +kernel
theorem dX11_price_31 : decode cX11_price 31 = .ok (.if_icmp .ne 5, 3) := by decide +kernel
theorem dX11_price_34 : decode cX11_price 34 = .ok (.iconst (-1), 1) := by decide +kernel
theorem dX11_price_35 : decode cX11_price 35 = .ok (.ireturn, 1) := by decide +kernel
theorem dX11_price_36 : decode cX11_price 36 = .ok (.aload_n 0, 1) := by decide +kernel
theorem dX11_price_37 : decode cX11_price 37 = .ok (.getfield 43, 3) := by decide +kernel
theorem dX11_price_40 : decode cX11_price 40 = .ok (.aload_n 0, 1) := by decide +kernel
theorem dX11_price_41 : decode cX11_price 41 = .ok (.getfield 36, 3) := by decide +kernel
theorem dX11_price_44 : decode cX11_price 44 = .ok (.getfield 119, 3) := by decide +kernel
theorem dX11_price_47 : decode cX11_price 47 = .ok (.invokevirtual 173, 3) := by decide +kernel
theorem dX11_price_50 : decode cX11_price 50 = .ok (.aload_n 0, 1) := by decide +kernel
theorem dX11_price_51 : decode cX11_price 51 = .ok (.getfield 36, 3) := by decide +kernel
theorem dX11_price_54 : decode cX11_price 54 = .ok (.getfield 119, 3) := by decide +kernel
theorem dX11_price_57 : decode cX11_price 57 = .ok (.getfield 126, 3) := by decide +kernel
theorem dX11_price_60 : decode cX11_price 60 = .ok (.iload_n 1, 1) := by decide +kernel
theorem dX11_price_61 : decode cX11_price 61 = .ok (.iaload, 1) := by decide +kernel
theorem dX11_price_62 : decode cX11_price 62 = .ok (.istore_n 3, 1) := by decide +kernel
theorem dX11_price_63 : decode cX11_price 63 = .ok (.aload_n 0, 1) := by decide +kernel
theorem dX11_price_64 : decode cX11_price 64 = .ok (.getfield 36, 3) := by decide +kernel
theorem dX11_price_67 : decode cX11_price 67 = .ok (.getfield 119, 3) := by decide +kernel
theorem dX11_price_70 : decode cX11_price 70 = .ok (.getfield 126, 3) := by decide +kernel
theorem dX11_price_73 : decode cX11_price 73 = .ok (.iload_n 1, 1) := by decide +kernel
theorem dX11_price_74 : decode cX11_price 74 = .ok (.iload_n 2, 1) := by decide +kernel
theorem dX11_price_75 : decode cX11_price 75 = .ok (.iastore, 1) := by decide +kernel
theorem dX11_price_76 : decode cX11_price 76 = .ok (.iload_n 3, 1) := by decide +kernel
theorem dX11_price_77 : decode cX11_price 77 = .ok (.ireturn, 1) := by decide +kernel
abbrev MNextStall_price : rx_M := (RX11, yX11_price, cX11_price, 4, (some .int), 6)
theorem kNextStall_price : rKv MNextStall_price 2 := ⟨tb_in (i := 32) (j := 13) rfl rfl, tb_in (i := 32) (j := 14) rfl rfl, tb_in (i := 2) (j := 22) rfl rfl, tb_in (i := 14) (j := 20) rfl rfl, ⟨by decide, by decide, by decide +kernel⟩, by decide⟩
section
variable {a0 : Nat → Nat → Nat} {g0 : tyNextStall} {g1 : tyTape} {g2 : tyCursor} {g3 : tyWorld} {g4 : tyFair} {g5 : tyFair} {g6 : tyNotes} {g7 : tyPast} {g8 : tyTrials} {g9 : tyFair} {g10 : tyOrder} {g11 : tyOrder} {f0_rules : Nat → Option Nat} {f0_images : Nat → Option Nat} {f7_fairs : Nat → Nat → Nat} {p7_fairs0 : Nat → tyFair}
def mNextStall_price (x1 : Int32) (x2 : Int32) (g5 : tyFair) (g7 : tyPast) (p7_fairs0 : Nat → tyFair) : Option (Int32 × tyFair × tyPast × (Nat → tyFair)) := (mNextStall_isStall x1 g5).bind (fun q1 => (if q1 = 0 then some ((-1 : Int32), g5, g7, p7_fairs0) else (mNextStall_within x2 (1 : Int32) (40 : Int32)).bind (fun q3 => (if q3 = 0 then some ((-1 : Int32), g5, g7, p7_fairs0) else rq (inb x1 6) ((if x2 = (g5.2.2.2.2.2.2.1 x1.toNatClampNeg) then some ((-1 : Int32), g5, g7, p7_fairs0) else (mPast_keep g7 g5 p7_fairs0).bind (fun q7 => rq (inb x1 6) (lt (g5.2.2.2.2.2.2.1 x1.toNatClampNeg) (fun y9 => rq (inb x1 6) (lt (upd g5.2.2.2.2.2.2.1 x1.toNatClampNeg x2) (fun u10 => some (y9, (g5.1, g5.2.1, g5.2.2.1, g5.2.2.2.1, g5.2.2.2.2.1, g5.2.2.2.2.2.1, u10, g5.2.2.2.2.2.2.2.1, g5.2.2.2.2.2.2.2.2.1, g5.2.2.2.2.2.2.2.2.2.1, g5.2.2.2.2.2.2.2.2.2.2.1, g5.2.2.2.2.2.2.2.2.2.2.2.1, g5.2.2.2.2.2.2.2.2.2.2.2.2.1, g5.2.2.2.2.2.2.2.2.2.2.2.2.2.1, g5.2.2.2.2.2.2.2.2.2.2.2.2.2.2.1, g5.2.2.2.2.2.2.2.2.2.2.2.2.2.2.2.1, g5.2.2.2.2.2.2.2.2.2.2.2.2.2.2.2.2.1, g5.2.2.2.2.2.2.2.2.2.2.2.2.2.2.2.2.2.1, g5.2.2.2.2.2.2.2.2.2.2.2.2.2.2.2.2.2.2), q7.1, q7.2))))))))))))
set_option maxHeartbeats 4000000 in
set_option maxRecDepth 20000 in
theorem cNextStall_price {q : Int32 × tyFair × tyPast × (Nat → tyFair)} {x1 : Int32} {x2 : Int32} (h : mNextStall_price x1 x2 g5 g7 p7_fairs0 = some q) : rMet l D Z (ty7 K) MNextStall_price [.ref ((a0 0) 0), .int x1, .int x2] (List.flatten ([bNextStallG K (a0 0) f0_rules f0_images ((a0 1) 0) ((a0 2) 0) ((a0 3) 0) ((a0 7) 0) ((a0 8) 0) g0, bTapeG K (a0 1) g1, bCursorG K (a0 2) g2, bWorldG K (a0 3) ((a0 4) 0) ((a0 5) 0) ((a0 6) 0) g3, bFairG K (a0 4) g4, bFairG K (a0 5) g5, bNotesG K (a0 6) g6, bPastG K (a0 7) (fun j => some (f7_fairs j 0)) g7, bTrialsG K (a0 8) ((a0 9) 0) ((a0 10) 0) ((a0 11) 0) g8, bFairG K (a0 9) g9, bOrderG K (a0 10) g10, bOrderG K (a0 11) g11] ++ (fam 20 (fun j => bFairG K (f7_fairs j) (p7_fairs0 j)) ++ []))) (List.flatten ([bNextStallG K (a0 0) f0_rules f0_images ((a0 1) 0) ((a0 2) 0) ((a0 3) 0) ((a0 7) 0) ((a0 8) 0) g0, bTapeG K (a0 1) g1, bCursorG K (a0 2) g2, bWorldG K (a0 3) ((a0 4) 0) ((a0 5) 0) ((a0 6) 0) g3, bFairG K (a0 4) g4, bFairG K (a0 5) q.2.1, bNotesG K (a0 6) g6, bPastG K (a0 7) (fun j => some (f7_fairs j 0)) q.2.2.1, bTrialsG K (a0 8) ((a0 9) 0) ((a0 10) 0) ((a0 11) 0) g8, bFairG K (a0 9) g9, bOrderG K (a0 10) g10, bOrderG K (a0 11) g11] ++ (fam 20 (fun j => bFairG K (f7_fairs j) (q.2.2.2 j)) ++ []))) (some (.int q.1)) := by
  refine rMet.of (by decide) rfl (Nat.le_of_ble_eq_true rfl) ?_
  refine r_sub (lv' := [(0, .ref ((a0 0) 0)), (1, .int x1), (2, .int x2)]) [0, 1, 2] rfl ?_
  unfold mNextStall_price at h
  refine r_aload_n 0 dX11_price_0 rfl ?_
  refine r_iload_n 1 dX11_price_1 rfl ?_
  obtain ⟨q1, h1, h⟩ := bd_some h
  refine b_callV (isC := [0, 1, 2, 3, 4, 5, 6, 7, 8, 9, 10, 11]) (ci := 9)  (st := []) (bs1 := ([bNextStallG K (a0 0) f0_rules f0_images ((a0 1) 0) ((a0 2) 0) ((a0 3) 0) ((a0 7) 0) ((a0 8) 0) g0, bTapeG K (a0 1) g1, bCursorG K (a0 2) g2, bWorldG K (a0 3) ((a0 4) 0) ((a0 5) 0) ((a0 6) 0) g3, bFairG K (a0 4) g4, bFairG K (a0 5) g5, bNotesG K (a0 6) g6, bPastG K (a0 7) (fun j => some (f7_fairs j 0)) g7, bTrialsG K (a0 8) ((a0 9) 0) ((a0 10) 0) ((a0 11) 0) g8, bFairG K (a0 9) g9, bOrderG K (a0 10) g10, bOrderG K (a0 11) g11] ++ (fam 20 (fun j => bFairG K (f7_fairs j) (p7_fairs0 j)) ++ []))) (cNextStall_isStall (a0 := a0) (g0 := g0) (g1 := g1) (g2 := g2) (g3 := g3) (g4 := g4) (g5 := g5) (g6 := g6) (g7 := g7) (g8 := g8) (g9 := g9) (g10 := g10) (g11 := g11) h1) rfl rfl (Nat.le_of_ble_eq_true rfl) kNextStall_isStall (tb_in (i := 13) (j := 31) rfl rfl) (by decide) (by decide) rfl rfl rfl rfl rfl rfl rfl dX11_price_2 ?_
  refine r_if_eq 34 dX11_price_5 (by decide) (fun c2 => ?_) (fun c2 => ?_)
  · replace h := it_pos c2 h
    refine r_iconst (x := (-1 : Int32)) dX11_price_34 (by decide) ?_
    have hq := Option.some.inj h
    subst hq
    exact r_iret rfl dX11_price_35
  · replace h := it_neg c2 h
    refine r_iload_n 2 dX11_price_8 rfl ?_
    refine r_iconst (x := (1 : Int32)) dX11_price_9 (by decide) ?_
    refine r_bipush (x := (40 : Int32)) dX11_price_10 (by decide) ?_
    obtain ⟨q3, h3, h⟩ := bd_some h
    refine b_callS (isC := []) (st := []) (bs1 := ([bNextStallG K (a0 0) f0_rules f0_images ((a0 1) 0) ((a0 2) 0) ((a0 3) 0) ((a0 7) 0) ((a0 8) 0) g0, bTapeG K (a0 1) g1, bCursorG K (a0 2) g2, bWorldG K (a0 3) ((a0 4) 0) ((a0 5) 0) ((a0 6) 0) g3, bFairG K (a0 4) g4, bFairG K (a0 5) g5, bNotesG K (a0 6) g6, bPastG K (a0 7) (fun j => some (f7_fairs j 0)) g7, bTrialsG K (a0 8) ((a0 9) 0) ((a0 10) 0) ((a0 11) 0) g8, bFairG K (a0 9) g9, bOrderG K (a0 10) g10, bOrderG K (a0 11) g11] ++ (fam 20 (fun j => bFairG K (f7_fairs j) (p7_fairs0 j)) ++ []))) (cNextStall_within   h3) rfl rfl (Nat.le_of_ble_eq_true rfl) kNextStall_within (tb_in (i := 13) (j := 17) rfl rfl) (by decide) (by decide) rfl rfl rfl dX11_price_12 ?_
    refine r_if_eq 34 dX11_price_15 (by decide) (fun c4 => ?_) (fun c4 => ?_)
    · replace h := it_pos c4 h
      refine r_iconst (x := (-1 : Int32)) dX11_price_34 (by decide) ?_
      have hq := Option.some.inj h
      subst hq
      exact r_iret rfl dX11_price_35
    · replace h := it_neg c4 h
      refine r_iload_n 2 dX11_price_18 rfl ?_
      refine r_aload_n 0 dX11_price_19 rfl ?_
      refine gNextStall_world 0 rfl (tb_in (i := 12) (j := 26) rfl rfl) dX11_price_20 ?_
      refine gWorld_nowN 3 rfl (List.mem_of_getElem? (i := 55) rfl) dX11_price_23 ?_
      refine gFair_priceN 5 rfl (List.mem_of_getElem? (i := 28) rfl) dX11_price_26 ?_
      refine r_iload_n 1 dX11_price_29 rfl ?_
      obtain ⟨h5, h⟩ := rq_some h
      refine lFair_price 5 rfl (inb_in h5) dX11_price_30 ?_
      refine r_icmp_ne 36 dX11_price_31 (by decide) (fun c6 => ?_) (fun c6 => ?_)
      · replace h := it_neg c6 h
        refine r_aload_n 0 dX11_price_36 rfl ?_
        refine gNextStall_past 0 rfl (tb_in (i := 12) (j := 30) rfl rfl) dX11_price_37 ?_
        refine r_aload_n 0 dX11_price_40 rfl ?_
        refine gNextStall_world 0 rfl (tb_in (i := 12) (j := 26) rfl rfl) dX11_price_41 ?_
        refine gWorld_nowN 3 rfl (List.mem_of_getElem? (i := 55) rfl) dX11_price_44 ?_
        obtain ⟨q7, h7, h⟩ := bd_some h
        refine b_callVN (isC := ([7, 5] ++ (List.range' 12 20 ++ []))) (ci := 4)  (st := []) (bs1 := ([bNextStallG K (a0 0) f0_rules f0_images ((a0 1) 0) ((a0 2) 0) ((a0 3) 0) ((a0 7) 0) ((a0 8) 0) g0, bTapeG K (a0 1) g1, bCursorG K (a0 2) g2, bWorldG K (a0 3) ((a0 4) 0) ((a0 5) 0) ((a0 6) 0) g3, bFairG K (a0 4) g4, bFairG K (a0 5) g5, bNotesG K (a0 6) g6, bPastG K (a0 7) (fun j => some (f7_fairs j 0)) q7.1, bTrialsG K (a0 8) ((a0 9) 0) ((a0 10) 0) ((a0 11) 0) g8, bFairG K (a0 9) g9, bOrderG K (a0 10) g10, bOrderG K (a0 11) g11] ++ (fam 20 (fun j => bFairG K (f7_fairs j) (q7.2 j)) ++ []))) (cPast_keep (a0 := (a0 7)) (a1 := (a0 5)) (f0_fairs := f7_fairs) (g0 := g7) (g1 := g5) (p0_fairs0 := p7_fairs0) h7) rfl rfl (Nat.le_of_ble_eq_true rfl) kPast_keep (List.mem_of_getElem? (i := 44) rfl) (by decide) (by decide +kernel) (map_app rfl (map_app (map_f0 (n := 20) (l := [bNextStallG K (a0 0) f0_rules f0_images ((a0 1) 0) ((a0 2) 0) ((a0 3) 0) ((a0 7) 0) ((a0 8) 0) g0, bTapeG K (a0 1) g1, bCursorG K (a0 2) g2, bWorldG K (a0 3) ((a0 4) 0) ((a0 5) 0) ((a0 6) 0) g3, bFairG K (a0 4) g4, bFairG K (a0 5) g5, bNotesG K (a0 6) g6, bPastG K (a0 7) (fun j => some (f7_fairs j 0)) g7, bTrialsG K (a0 8) ((a0 9) 0) ((a0 10) 0) ((a0 11) 0) g8, bFairG K (a0 9) g9, bOrderG K (a0 10) g10, bOrderG K (a0 11) g11]) rfl) rfl)) (by simp only [List.length_append, fam_len, List.length_range', List.length_cons, List.length_nil]) (stm_a (bs1 := ([bNextStallG K (a0 0) f0_rules f0_images ((a0 1) 0) ((a0 2) 0) ((a0 3) 0) ((a0 7) 0) ((a0 8) 0) g0, bTapeG K (a0 1) g1, bCursorG K (a0 2) g2, bWorldG K (a0 3) ((a0 4) 0) ((a0 5) 0) ((a0 6) 0) g3, bFairG K (a0 4) g4, bFairG K (a0 5) g5, bNotesG K (a0 6) g6, bPastG K (a0 7) (fun j => some (f7_fairs j 0)) q7.1, bTrialsG K (a0 8) ((a0 9) 0) ((a0 10) 0) ((a0 11) 0) g8, bFairG K (a0 9) g9, bOrderG K (a0 10) g10, bOrderG K (a0 11) g11] ++ (fam 20 (fun j => bFairG K (f7_fairs j) (p7_fairs0 j)) ++ []))) rfl rfl (stm_a (bs1 := ([bNextStallG K (a0 0) f0_rules f0_images ((a0 1) 0) ((a0 2) 0) ((a0 3) 0) ((a0 7) 0) ((a0 8) 0) g0, bTapeG K (a0 1) g1, bCursorG K (a0 2) g2, bWorldG K (a0 3) ((a0 4) 0) ((a0 5) 0) ((a0 6) 0) g3, bFairG K (a0 4) g4, bFairG K (a0 5) g5, bNotesG K (a0 6) g6, bPastG K (a0 7) (fun j => some (f7_fairs j 0)) q7.1, bTrialsG K (a0 8) ((a0 9) 0) ((a0 10) 0) ((a0 11) 0) g8, bFairG K (a0 9) g9, bOrderG K (a0 10) g10, bOrderG K (a0 11) g11] ++ (fam 20 (fun j => bFairG K (f7_fairs j) (q7.2 j)) ++ []))) (by rw [List.length_range', fam_len]) (stm_f0 (n := 20) (l := [bNextStallG K (a0 0) f0_rules f0_images ((a0 1) 0) ((a0 2) 0) ((a0 3) 0) ((a0 7) 0) ((a0 8) 0) g0, bTapeG K (a0 1) g1, bCursorG K (a0 2) g2, bWorldG K (a0 3) ((a0 4) 0) ((a0 5) 0) ((a0 6) 0) g3, bFairG K (a0 4) g4, bFairG K (a0 5) g5, bNotesG K (a0 6) g6, bPastG K (a0 7) (fun j => some (f7_fairs j 0)) q7.1, bTrialsG K (a0 8) ((a0 9) 0) ((a0 10) 0) ((a0 11) 0) g8, bFairG K (a0 9) g9, bOrderG K (a0 10) g10, bOrderG K (a0 11) g11]) rfl) rfl)) rfl rfl rfl rfl dX11_price_47 ?_
        refine r_aload_n 0 dX11_price_50 rfl ?_
        refine gNextStall_world 0 rfl (tb_in (i := 12) (j := 26) rfl rfl) dX11_price_51 ?_
        refine gWorld_nowN 3 rfl (List.mem_of_getElem? (i := 55) rfl) dX11_price_54 ?_
        refine gFair_priceN 5 rfl (List.mem_of_getElem? (i := 28) rfl) dX11_price_57 ?_
        refine r_iload_n 1 dX11_price_60 rfl ?_
        obtain ⟨h8, h⟩ := rq_some h
        refine lFair_price 5 rfl (inb_in h8) dX11_price_61 ?_
        obtain ⟨y9, e9, h⟩ := lt_some h
        refine r_top e9 ?_
        refine r_istore_n (lv' := [(3, .int y9), (0, .ref ((a0 0) 0)), (1, .int x1), (2, .int x2)]) dX11_price_62 (Nat.le_of_ble_eq_true rfl) rfl ?_
        refine r_aload_n 1 dX11_price_63 rfl ?_
        refine gNextStall_world 0 rfl (tb_in (i := 12) (j := 26) rfl rfl) dX11_price_64 ?_
        refine gWorld_nowN 3 rfl (List.mem_of_getElem? (i := 55) rfl) dX11_price_67 ?_
        refine gFair_priceN 5 rfl (List.mem_of_getElem? (i := 28) rfl) dX11_price_70 ?_
        refine r_iload_n 2 dX11_price_73 rfl ?_
        refine r_iload_n 3 dX11_price_74 rfl ?_
        obtain ⟨h10, h⟩ := rq_some h
        obtain ⟨u10, e10, h⟩ := lt_some h
        refine sFair_price (bs1 := ([bNextStallG K (a0 0) f0_rules f0_images ((a0 1) 0) ((a0 2) 0) ((a0 3) 0) ((a0 7) 0) ((a0 8) 0) g0, bTapeG K (a0 1) g1, bCursorG K (a0 2) g2, bWorldG K (a0 3) ((a0 4) 0) ((a0 5) 0) ((a0 6) 0) g3, bFairG K (a0 4) g4, bFair K (a0 5) g5.1 g5.2.1 g5.2.2.1 g5.2.2.2.1 g5.2.2.2.2.1 g5.2.2.2.2.2.1 u10 g5.2.2.2.2.2.2.2.1 g5.2.2.2.2.2.2.2.2.1 g5.2.2.2.2.2.2.2.2.2.1 g5.2.2.2.2.2.2.2.2.2.2.1 g5.2.2.2.2.2.2.2.2.2.2.2.1 g5.2.2.2.2.2.2.2.2.2.2.2.2.1 g5.2.2.2.2.2.2.2.2.2.2.2.2.2.1 g5.2.2.2.2.2.2.2.2.2.2.2.2.2.2.1 g5.2.2.2.2.2.2.2.2.2.2.2.2.2.2.2.1 g5.2.2.2.2.2.2.2.2.2.2.2.2.2.2.2.2.1 g5.2.2.2.2.2.2.2.2.2.2.2.2.2.2.2.2.2.1 g5.2.2.2.2.2.2.2.2.2.2.2.2.2.2.2.2.2.2, bNotesG K (a0 6) g6, bPastG K (a0 7) (fun j => some (f7_fairs j 0)) q7.1, bTrialsG K (a0 8) ((a0 9) 0) ((a0 10) 0) ((a0 11) 0) g8, bFairG K (a0 9) g9, bOrderG K (a0 10) g10, bOrderG K (a0 11) g11] ++ (fam 20 (fun j => bFairG K (f7_fairs j) (q7.2 j)) ++ []))) 5 e10 rfl (inb_in h10) rfl dX11_price_75 ?_
        refine r_iload_n 0 dX11_price_76 rfl ?_
        have hq := Option.some.inj h
        subst hq
        exact r_iret rfl dX11_price_77
      · replace h := it_pos c6 h
        refine r_iconst (x := (-1 : Int32)) dX11_price_34 (by decide) ?_
        have hq := Option.some.inj h
        subst hq
        exact r_iret rfl dX11_price_35
end
theorem dX11_grudge_0 : decode cX11_grudge 0 = .ok (.aload_n 0, 1) := by decide +kernel
theorem dX11_grudge_1 : decode cX11_grudge 1 = .ok (.iload_n 1, 1) := by decide +kernel
theorem dX11_grudge_2 : decode cX11_grudge 2 = .ok (.iload_n 2, 1) := by decide +kernel
theorem dX11_grudge_3 : decode cX11_grudge 3 = .ok (.invokevirtual 184, 3) := by decide +kernel
theorem dX11_grudge_6 : decode cX11_grudge 6 = .ok (.ifCond .ne 5, 3) := by decide +kernel
theorem dX11_grudge_9 : decode cX11_grudge 9 = .ok (.iconst (-1), 1) := by decide +kernel
theorem dX11_grudge_10 : decode cX11_grudge 10 = .ok (.ireturn, 1) := by decide +kernel
theorem dX11_grudge_11 : decode cX11_grudge 11 = .ok (.aload_n 0, 1) := by decide +kernel
theorem dX11_grudge_12 : decode cX11_grudge 12 = .ok (.getfield 43, 3) := by decide +kernel
theorem dX11_grudge_15 : decode cX11_grudge 15 = .ok (.aload_n 0, 1) := by decide +kernel
theorem dX11_grudge_16 : decode cX11_grudge 16 = .ok (.getfield 36, 3) := by decide +kernel
theorem dX11_grudge_19 : decode cX11_grudge 19 = .ok (.getfield 119, 3) := by decide +kernel
theorem dX11_grudge_22 : decode cX11_grudge 22 = .ok (.invokevirtual 173, 3) := by decide +kernel
theorem dX11_grudge_25 : decode cX11_grudge 25 = .ok (.aload_n 0, 1) := by decide +kernel
theorem dX11_grudge_26 : decode cX11_grudge 26 = .ok (.getfield 36, 3) := by decide +kernel
theorem dX11_grudge_29 : decode cX11_grudge 29 = .ok (.getfield 119, 3) := by decide +kernel
theorem dX11_grudge_32 : decode cX11_grudge 32 = .ok (.iload_n 1, 1) := by decide +kernel
theorem dX11_grudge_33 : decode cX11_grudge 33 = .ok (.iload_n 2, 1) := by decide +kernel
theorem dX11_grudge_34 : decode cX11_grudge 34 = .ok (.invokevirtual 192, 3) := by decide +kernel
theorem dX11_grudge_37 : decode cX11_grudge 37 = .ok (.aload_n 0, 1) := by decide +kernel
theorem dX11_grudge_38 : decode cX11_grudge 38 = .ok (.getfield 36, 3) := by decide +kernel
theorem dX11_grudge_41 : decode cX11_grudge 41 = .ok (.getfield 119, 3) := by decide +kernel
theorem dX11_grudge_44 : decode cX11_grudge 44 = .ok (.iload_n 1, 1) := by decide +kernel
theorem dX11_grudge_45 : decode cX11_grudge 45 = .ok (.iload_n 2, 1) := by decide +kernel
theorem dX11_grudge_46 : decode cX11_grudge 46 = .ok (.invokevirtual 195, 3) := by decide +kernel
theorem dX11_grudge_49 : decode cX11_grudge 49 = .ok (.ifCond .eq 7, 3) := by decide +kernel
theorem dX11_grudge_52 : decode cX11_grudge 52 = .ok (.iconst 1, 1) := by decide +kernel
theorem dX11_grudge_53 : decode cX11_grudge 53 = .ok (.goto 4, 3) := by decide +kernel
theorem dX11_grudge_56 : decode cX11_grudge 56 = .ok (.iconst 0, 1) := by decide +kernel
theorem dX11_grudge_57 : decode cX11_grudge 57 = .ok (.ireturn, 1) := by decide +kernel
abbrev MNextStall_grudge : rx_M := (RX11, yX11_grudge, cX11_grudge, 3, (some .int), 6)
theorem kNextStall_grudge : rKv MNextStall_grudge 2 := ⟨tb_in (i := 32) (j := 19) rfl rfl, tb_in (i := 32) (j := 20) rfl rfl, tb_in (i := 2) (j := 22) rfl rfl, tb_in (i := 14) (j := 21) rfl rfl, ⟨by decide, by decide, by decide +kernel⟩, by decide⟩
section
variable {a0 : Nat → Nat → Nat} {g0 : tyNextStall} {g1 : tyTape} {g2 : tyCursor} {g3 : tyWorld} {g4 : tyFair} {g5 : tyFair} {g6 : tyNotes} {g7 : tyPast} {g8 : tyTrials} {g9 : tyFair} {g10 : tyOrder} {g11 : tyOrder} {f0_rules : Nat → Option Nat} {f0_images : Nat → Option Nat} {f7_fairs : Nat → Nat → Nat} {p7_fairs0 : Nat → tyFair}
def mNextStall_grudge (x1 : Int32) (x2 : Int32) (g5 : tyFair) (g7 : tyPast) (p7_fairs0 : Nat → tyFair) : Option (Int32 × tyFair × tyPast × (Nat → tyFair)) := (mNextStall_areTwoStalls x1 x2 g5).bind (fun q1 => (if q1 = 0 then some ((-1 : Int32), g5, g7, p7_fairs0) else (mPast_keep g7 g5 p7_fairs0).bind (fun q3 => (mFair_flipGrudge x1 x2 g5.2.2.1 g5.2.2.2.2.2.2.2.1 g5.2.2.2.2.2.2.2.2.2.2.2.1 g5.2.2.2.2.2.2.2.2.2.2.2.2.1 g5.2.2.2.2.2.2.2.2.2.2.2.2.2.2.2.2.1 g5.2.2.2.2.2.2.2.2.2.2.2.2.2.2.2.2.2.1 g5.2.2.2.2.2.2.2.2.2.2.2.2.2.2.2.2.2.2).bind (fun q4 => (mFair_bears x1 x2 q4.1).bind (fun q5 => (if q5 = 0 then some ((0 : Int32), (g5.1, g5.2.1, g5.2.2.1, g5.2.2.2.1, g5.2.2.2.2.1, g5.2.2.2.2.2.1, g5.2.2.2.2.2.2.1, g5.2.2.2.2.2.2.2.1, g5.2.2.2.2.2.2.2.2.1, g5.2.2.2.2.2.2.2.2.2.1, g5.2.2.2.2.2.2.2.2.2.2.1, g5.2.2.2.2.2.2.2.2.2.2.2.1, q4.1, g5.2.2.2.2.2.2.2.2.2.2.2.2.2.1, g5.2.2.2.2.2.2.2.2.2.2.2.2.2.2.1, g5.2.2.2.2.2.2.2.2.2.2.2.2.2.2.2.1, q4.2.1, q4.2.2.1, q4.2.2.2), q3.1, q3.2) else some ((1 : Int32), (g5.1, g5.2.1, g5.2.2.1, g5.2.2.2.1, g5.2.2.2.2.1, g5.2.2.2.2.2.1, g5.2.2.2.2.2.2.1, g5.2.2.2.2.2.2.2.1, g5.2.2.2.2.2.2.2.2.1, g5.2.2.2.2.2.2.2.2.2.1, g5.2.2.2.2.2.2.2.2.2.2.1, g5.2.2.2.2.2.2.2.2.2.2.2.1, q4.1, g5.2.2.2.2.2.2.2.2.2.2.2.2.2.1, g5.2.2.2.2.2.2.2.2.2.2.2.2.2.2.1, g5.2.2.2.2.2.2.2.2.2.2.2.2.2.2.2.1, q4.2.1, q4.2.2.1, q4.2.2.2), q3.1, q3.2)))))))
set_option maxHeartbeats 4000000 in
set_option maxRecDepth 20000 in
theorem cNextStall_grudge {q : Int32 × tyFair × tyPast × (Nat → tyFair)} {x1 : Int32} {x2 : Int32} (h : mNextStall_grudge x1 x2 g5 g7 p7_fairs0 = some q) : rMet l D Z (ty7 K) MNextStall_grudge [.ref ((a0 0) 0), .int x1, .int x2] (List.flatten ([bNextStallG K (a0 0) f0_rules f0_images ((a0 1) 0) ((a0 2) 0) ((a0 3) 0) ((a0 7) 0) ((a0 8) 0) g0, bTapeG K (a0 1) g1, bCursorG K (a0 2) g2, bWorldG K (a0 3) ((a0 4) 0) ((a0 5) 0) ((a0 6) 0) g3, bFairG K (a0 4) g4, bFairG K (a0 5) g5, bNotesG K (a0 6) g6, bPastG K (a0 7) (fun j => some (f7_fairs j 0)) g7, bTrialsG K (a0 8) ((a0 9) 0) ((a0 10) 0) ((a0 11) 0) g8, bFairG K (a0 9) g9, bOrderG K (a0 10) g10, bOrderG K (a0 11) g11] ++ (fam 20 (fun j => bFairG K (f7_fairs j) (p7_fairs0 j)) ++ []))) (List.flatten ([bNextStallG K (a0 0) f0_rules f0_images ((a0 1) 0) ((a0 2) 0) ((a0 3) 0) ((a0 7) 0) ((a0 8) 0) g0, bTapeG K (a0 1) g1, bCursorG K (a0 2) g2, bWorldG K (a0 3) ((a0 4) 0) ((a0 5) 0) ((a0 6) 0) g3, bFairG K (a0 4) g4, bFairG K (a0 5) q.2.1, bNotesG K (a0 6) g6, bPastG K (a0 7) (fun j => some (f7_fairs j 0)) q.2.2.1, bTrialsG K (a0 8) ((a0 9) 0) ((a0 10) 0) ((a0 11) 0) g8, bFairG K (a0 9) g9, bOrderG K (a0 10) g10, bOrderG K (a0 11) g11] ++ (fam 20 (fun j => bFairG K (f7_fairs j) (q.2.2.2 j)) ++ []))) (some (.int q.1)) := by
  refine rMet.of (by decide) rfl (Nat.le_of_ble_eq_true rfl) ?_
  refine r_sub (lv' := [(0, .ref ((a0 0) 0)), (1, .int x1), (2, .int x2)]) [0, 1, 2] rfl ?_
  unfold mNextStall_grudge at h
  refine r_aload_n 0 dX11_grudge_0 rfl ?_
  refine r_iload_n 1 dX11_grudge_1 rfl ?_
  refine r_iload_n 2 dX11_grudge_2 rfl ?_
  obtain ⟨q1, h1, h⟩ := bd_some h
  refine b_callV (isC := [0, 1, 2, 3, 4, 5, 6, 7, 8, 9, 10, 11]) (ci := 9)  (st := []) (bs1 := ([bNextStallG K (a0 0) f0_rules f0_images ((a0 1) 0) ((a0 2) 0) ((a0 3) 0) ((a0 7) 0) ((a0 8) 0) g0, bTapeG K (a0 1) g1, bCursorG K (a0 2) g2, bWorldG K (a0 3) ((a0 4) 0) ((a0 5) 0) ((a0 6) 0) g3, bFairG K (a0 4) g4, bFairG K (a0 5) g5, bNotesG K (a0 6) g6, bPastG K (a0 7) (fun j => some (f7_fairs j 0)) g7, bTrialsG K (a0 8) ((a0 9) 0) ((a0 10) 0) ((a0 11) 0) g8, bFairG K (a0 9) g9, bOrderG K (a0 10) g10, bOrderG K (a0 11) g11] ++ (fam 20 (fun j => bFairG K (f7_fairs j) (p7_fairs0 j)) ++ []))) (cNextStall_areTwoStalls (a0 := a0) (g0 := g0) (g1 := g1) (g2 := g2) (g3 := g3) (g4 := g4) (g5 := g5) (g6 := g6) (g7 := g7) (g8 := g8) (g9 := g9) (g10 := g10) (g11 := g11) h1) rfl rfl (Nat.le_of_ble_eq_true rfl) kNextStall_areTwoStalls (tb_in (i := 14) (j := 16) rfl rfl) (by decide) (by decide) rfl rfl rfl rfl rfl rfl rfl dX11_grudge_3 ?_
  refine r_if_ne 11 dX11_grudge_6 (by decide) (fun c2 => ?_) (fun c2 => ?_)
  · replace h := it_neg c2 h
    refine r_aload_n 0 dX11_grudge_11 rfl ?_
    refine gNextStall_past 0 rfl (tb_in (i := 12) (j := 30) rfl rfl) dX11_grudge_12 ?_
    refine r_aload_n 0 dX11_grudge_15 rfl ?_
    refine gNextStall_world 0 rfl (tb_in (i := 12) (j := 26) rfl rfl) dX11_grudge_16 ?_
    refine gWorld_nowN 3 rfl (List.mem_of_getElem? (i := 55) rfl) dX11_grudge_19 ?_
    obtain ⟨q3, h3, h⟩ := bd_some h
    refine b_callVN (isC := ([7, 5] ++ (List.range' 12 20 ++ []))) (ci := 4)  (st := []) (bs1 := ([bNextStallG K (a0 0) f0_rules f0_images ((a0 1) 0) ((a0 2) 0) ((a0 3) 0) ((a0 7) 0) ((a0 8) 0) g0, bTapeG K (a0 1) g1, bCursorG K (a0 2) g2, bWorldG K (a0 3) ((a0 4) 0) ((a0 5) 0) ((a0 6) 0) g3, bFairG K (a0 4) g4, bFairG K (a0 5) g5, bNotesG K (a0 6) g6, bPastG K (a0 7) (fun j => some (f7_fairs j 0)) q3.1, bTrialsG K (a0 8) ((a0 9) 0) ((a0 10) 0) ((a0 11) 0) g8, bFairG K (a0 9) g9, bOrderG K (a0 10) g10, bOrderG K (a0 11) g11] ++ (fam 20 (fun j => bFairG K (f7_fairs j) (q3.2 j)) ++ []))) (cPast_keep (a0 := (a0 7)) (a1 := (a0 5)) (f0_fairs := f7_fairs) (g0 := g7) (g1 := g5) (p0_fairs0 := p7_fairs0) h3) rfl rfl (Nat.le_of_ble_eq_true rfl) kPast_keep (List.mem_of_getElem? (i := 44) rfl) (by decide) (by decide +kernel) (map_app rfl (map_app (map_f0 (n := 20) (l := [bNextStallG K (a0 0) f0_rules f0_images ((a0 1) 0) ((a0 2) 0) ((a0 3) 0) ((a0 7) 0) ((a0 8) 0) g0, bTapeG K (a0 1) g1, bCursorG K (a0 2) g2, bWorldG K (a0 3) ((a0 4) 0) ((a0 5) 0) ((a0 6) 0) g3, bFairG K (a0 4) g4, bFairG K (a0 5) g5, bNotesG K (a0 6) g6, bPastG K (a0 7) (fun j => some (f7_fairs j 0)) g7, bTrialsG K (a0 8) ((a0 9) 0) ((a0 10) 0) ((a0 11) 0) g8, bFairG K (a0 9) g9, bOrderG K (a0 10) g10, bOrderG K (a0 11) g11]) rfl) rfl)) (by simp only [List.length_append, fam_len, List.length_range', List.length_cons, List.length_nil]) (stm_a (bs1 := ([bNextStallG K (a0 0) f0_rules f0_images ((a0 1) 0) ((a0 2) 0) ((a0 3) 0) ((a0 7) 0) ((a0 8) 0) g0, bTapeG K (a0 1) g1, bCursorG K (a0 2) g2, bWorldG K (a0 3) ((a0 4) 0) ((a0 5) 0) ((a0 6) 0) g3, bFairG K (a0 4) g4, bFairG K (a0 5) g5, bNotesG K (a0 6) g6, bPastG K (a0 7) (fun j => some (f7_fairs j 0)) q3.1, bTrialsG K (a0 8) ((a0 9) 0) ((a0 10) 0) ((a0 11) 0) g8, bFairG K (a0 9) g9, bOrderG K (a0 10) g10, bOrderG K (a0 11) g11] ++ (fam 20 (fun j => bFairG K (f7_fairs j) (p7_fairs0 j)) ++ []))) rfl rfl (stm_a (bs1 := ([bNextStallG K (a0 0) f0_rules f0_images ((a0 1) 0) ((a0 2) 0) ((a0 3) 0) ((a0 7) 0) ((a0 8) 0) g0, bTapeG K (a0 1) g1, bCursorG K (a0 2) g2, bWorldG K (a0 3) ((a0 4) 0) ((a0 5) 0) ((a0 6) 0) g3, bFairG K (a0 4) g4, bFairG K (a0 5) g5, bNotesG K (a0 6) g6, bPastG K (a0 7) (fun j => some (f7_fairs j 0)) q3.1, bTrialsG K (a0 8) ((a0 9) 0) ((a0 10) 0) ((a0 11) 0) g8, bFairG K (a0 9) g9, bOrderG K (a0 10) g10, bOrderG K (a0 11) g11] ++ (fam 20 (fun j => bFairG K (f7_fairs j) (q3.2 j)) ++ []))) (by rw [List.length_range', fam_len]) (stm_f0 (n := 20) (l := [bNextStallG K (a0 0) f0_rules f0_images ((a0 1) 0) ((a0 2) 0) ((a0 3) 0) ((a0 7) 0) ((a0 8) 0) g0, bTapeG K (a0 1) g1, bCursorG K (a0 2) g2, bWorldG K (a0 3) ((a0 4) 0) ((a0 5) 0) ((a0 6) 0) g3, bFairG K (a0 4) g4, bFairG K (a0 5) g5, bNotesG K (a0 6) g6, bPastG K (a0 7) (fun j => some (f7_fairs j 0)) q3.1, bTrialsG K (a0 8) ((a0 9) 0) ((a0 10) 0) ((a0 11) 0) g8, bFairG K (a0 9) g9, bOrderG K (a0 10) g10, bOrderG K (a0 11) g11]) rfl) rfl)) rfl rfl rfl rfl dX11_grudge_22 ?_
    refine r_aload_n 0 dX11_grudge_25 rfl ?_
    refine gNextStall_world 0 rfl (tb_in (i := 12) (j := 26) rfl rfl) dX11_grudge_26 ?_
    refine gWorld_nowN 3 rfl (List.mem_of_getElem? (i := 55) rfl) dX11_grudge_29 ?_
    refine r_iload_n 1 dX11_grudge_32 rfl ?_
    refine r_iload_n 2 dX11_grudge_33 rfl ?_
    obtain ⟨q4, h4, h⟩ := bd_some h
    refine b_callVN (isC := [5]) (ci := 1)  (st := []) (bs1 := ([bNextStallG K (a0 0) f0_rules f0_images ((a0 1) 0) ((a0 2) 0) ((a0 3) 0) ((a0 7) 0) ((a0 8) 0) g0, bTapeG K (a0 1) g1, bCursorG K (a0 2) g2, bWorldG K (a0 3) ((a0 4) 0) ((a0 5) 0) ((a0 6) 0) g3, bFairG K (a0 4) g4, bFair K (a0 5) g5.1 g5.2.1 g5.2.2.1 g5.2.2.2.1 g5.2.2.2.2.1 g5.2.2.2.2.2.1 g5.2.2.2.2.2.2.1 g5.2.2.2.2.2.2.2.1 g5.2.2.2.2.2.2.2.2.1 g5.2.2.2.2.2.2.2.2.2.1 g5.2.2.2.2.2.2.2.2.2.2.1 g5.2.2.2.2.2.2.2.2.2.2.2.1 q4.1 g5.2.2.2.2.2.2.2.2.2.2.2.2.2.1 g5.2.2.2.2.2.2.2.2.2.2.2.2.2.2.1 g5.2.2.2.2.2.2.2.2.2.2.2.2.2.2.2.1 q4.2.1 q4.2.2.1 q4.2.2.2, bNotesG K (a0 6) g6, bPastG K (a0 7) (fun j => some (f7_fairs j 0)) q3.1, bTrialsG K (a0 8) ((a0 9) 0) ((a0 10) 0) ((a0 11) 0) g8, bFairG K (a0 9) g9, bOrderG K (a0 10) g10, bOrderG K (a0 11) g11] ++ (fam 20 (fun j => bFairG K (f7_fairs j) (q3.2 j)) ++ []))) (cFair_flipGrudge (a0 := (a0 5)) (z0_lasts := g5.1) (z0_keeps := g5.2.1) (z0_stalls := g5.2.2.1) (z0_buyers := g5.2.2.2.1) (z0_minute := g5.2.2.2.2.1) (z0_goods := g5.2.2.2.2.2.1) (z0_price := g5.2.2.2.2.2.2.1) (z0_tongue := g5.2.2.2.2.2.2.2.1) (z0_till := g5.2.2.2.2.2.2.2.2.1) (z0_wealth := g5.2.2.2.2.2.2.2.2.2.1) (z0_sold := g5.2.2.2.2.2.2.2.2.2.2.1) (z0_ring := g5.2.2.2.2.2.2.2.2.2.2.2.1) (z0_grudges := g5.2.2.2.2.2.2.2.2.2.2.2.2.1) (z0_purse := g5.2.2.2.2.2.2.2.2.2.2.2.2.2.1) (z0_came := g5.2.2.2.2.2.2.2.2.2.2.2.2.2.2.1) (z0_had := g5.2.2.2.2.2.2.2.2.2.2.2.2.2.2.2.1) (z0_seller := g5.2.2.2.2.2.2.2.2.2.2.2.2.2.2.2.2.1) (z0_praise := g5.2.2.2.2.2.2.2.2.2.2.2.2.2.2.2.2.2.1) (z0_borne := g5.2.2.2.2.2.2.2.2.2.2.2.2.2.2.2.2.2.2) h4) rfl rfl (Nat.le_of_ble_eq_true rfl) kFair_flipGrudge (List.mem_of_getElem? (i := 49) rfl) (by decide) (by decide) rfl rfl rfl rfl rfl rfl rfl dX11_grudge_34 ?_
    refine r_aload_n 0 dX11_grudge_37 rfl ?_
    refine gNextStall_world 0 rfl (tb_in (i := 12) (j := 26) rfl rfl) dX11_grudge_38 ?_
    refine gWorld_nowN 3 rfl (List.mem_of_getElem? (i := 55) rfl) dX11_grudge_41 ?_
    refine r_iload_n 1 dX11_grudge_44 rfl ?_
    refine r_iload_n 2 dX11_grudge_45 rfl ?_
    obtain ⟨q5, h5, h⟩ := bd_some h
    refine b_callVN (isC := [5]) (ci := 1)  (st := []) (bs1 := ([bNextStallG K (a0 0) f0_rules f0_images ((a0 1) 0) ((a0 2) 0) ((a0 3) 0) ((a0 7) 0) ((a0 8) 0) g0, bTapeG K (a0 1) g1, bCursorG K (a0 2) g2, bWorldG K (a0 3) ((a0 4) 0) ((a0 5) 0) ((a0 6) 0) g3, bFairG K (a0 4) g4, bFair K (a0 5) g5.1 g5.2.1 g5.2.2.1 g5.2.2.2.1 g5.2.2.2.2.1 g5.2.2.2.2.2.1 g5.2.2.2.2.2.2.1 g5.2.2.2.2.2.2.2.1 g5.2.2.2.2.2.2.2.2.1 g5.2.2.2.2.2.2.2.2.2.1 g5.2.2.2.2.2.2.2.2.2.2.1 g5.2.2.2.2.2.2.2.2.2.2.2.1 q4.1 g5.2.2.2.2.2.2.2.2.2.2.2.2.2.1 g5.2.2.2.2.2.2.2.2.2.2.2.2.2.2.1 g5.2.2.2.2.2.2.2.2.2.2.2.2.2.2.2.1 q4.2.1 q4.2.2.1 q4.2.2.2, bNotesG K (a0 6) g6, bPastG K (a0 7) (fun j => some (f7_fairs j 0)) q3.1, bTrialsG K (a0 8) ((a0 9) 0) ((a0 10) 0) ((a0 11) 0) g8, bFairG K (a0 9) g9, bOrderG K (a0 10) g10, bOrderG K (a0 11) g11] ++ (fam 20 (fun j => bFairG K (f7_fairs j) (q3.2 j)) ++ []))) (cFair_bears (a0 := (a0 5)) (z0_lasts := g5.1) (z0_keeps := g5.2.1) (z0_stalls := g5.2.2.1) (z0_buyers := g5.2.2.2.1) (z0_minute := g5.2.2.2.2.1) (z0_goods := g5.2.2.2.2.2.1) (z0_price := g5.2.2.2.2.2.2.1) (z0_tongue := g5.2.2.2.2.2.2.2.1) (z0_till := g5.2.2.2.2.2.2.2.2.1) (z0_wealth := g5.2.2.2.2.2.2.2.2.2.1) (z0_sold := g5.2.2.2.2.2.2.2.2.2.2.1) (z0_ring := g5.2.2.2.2.2.2.2.2.2.2.2.1) (z0_grudges := q4.1) (z0_purse := g5.2.2.2.2.2.2.2.2.2.2.2.2.2.1) (z0_came := g5.2.2.2.2.2.2.2.2.2.2.2.2.2.2.1) (z0_had := g5.2.2.2.2.2.2.2.2.2.2.2.2.2.2.2.1) (z0_seller := q4.2.1) (z0_praise := q4.2.2.1) (z0_borne := q4.2.2.2) h5) rfl rfl (Nat.le_of_ble_eq_true rfl) kFair_bears (List.mem_of_getElem? (i := 50) rfl) (by decide) (by decide) rfl rfl rfl rfl rfl rfl rfl dX11_grudge_46 ?_
    refine r_if_eq 56 dX11_grudge_49 (by decide) (fun c6 => ?_) (fun c6 => ?_)
    · replace h := it_pos c6 h
      refine r_iconst (x := (0 : Int32)) dX11_grudge_56 (by decide) ?_
      have hq := Option.some.inj h
      subst hq
      exact r_iret rfl dX11_grudge_57
    · replace h := it_neg c6 h
      refine r_iconst (x := (1 : Int32)) dX11_grudge_52 (by decide) ?_
      refine r_goto 57 dX11_grudge_53 (by decide) ?_
      have hq := Option.some.inj h
      subst hq
      exact r_iret rfl dX11_grudge_57
  · replace h := it_pos c2 h
    refine r_iconst (x := (-1 : Int32)) dX11_grudge_9 (by decide) ?_
    have hq := Option.some.inj h
    subst hq
    exact r_iret rfl dX11_grudge_10
end
theorem dX11_earn_0 : decode cX11_earn 0 = .ok (.aload_n 0, 1) := by decide +kernel
theorem dX11_earn_1 : decode cX11_earn 1 = .ok (.iload_n 1, 1) := by decide +kernel
theorem dX11_earn_2 : decode cX11_earn 2 = .ok (.invokevirtual 151, 3) := by decide +kernel
theorem dX11_earn_5 : decode cX11_earn 5 = .ok (.ifCond .eq 13, 3) := by decide +kernel
theorem dX11_earn_8 : decode cX11_earn 8 = .ok (.iload_n 2, 1) := by decide +kernel
theorem dX11_earn_9 : decode cX11_earn 9 = .ok (.iconst 1, 1) := by decide +kernel
theorem dX11_earn_10 : decode cX11_earn 10 = .ok (.bipush 99, 2) := by decide +kernel
theorem dX11_earn_12 : decode cX11_earn 12 = .ok (.invokestatic 70, 3) := by decide +kernel
theorem dX11_earn_15 : decode cX11_earn 15 = .ok (.ifCond .ne 5, 3) := by decide +kernel
theorem dX11_earn_18 : decode cX11_earn 18 = .ok (.iconst (-1), 1) := by decide +kernel
theorem dX11_earn_19 : decode cX11_earn 19 = .ok (.ireturn, 1) := by decide +kernel
theorem dX11_earn_20 : decode cX11_earn 20 = .ok (.aload_n 0, 1) := by decide +kernel
theorem dX11_earn_21 : decode cX11_earn 21 = .ok (.getfield 43, 3) := by decide +kernel
theorem dX11_earn_24 : decode cX11_earn 24 = .ok (.aload_n 0, 1) := by decide +kernel
theorem dX11_earn_25 : decode cX11_earn 25 = .ok (.getfield 36, 3) := by decide +kernel
theorem dX11_earn_28 : decode cX11_earn 28 = .ok (.getfield 119, 3) := by decide +kernel
theorem dX11_earn_31 : decode cX11_earn 31 = .ok (.invokevirtual 173, 3) := by decide +kernel
theorem dX11_earn_34 : decode cX11_earn 34 = .ok (.aload_n 0, 1) := by decide +kernel
theorem dX11_earn_35 : decode cX11_earn 35 = .ok (.getfield 36, 3) := by decide +kernel
theorem dX11_earn_38 : decode cX11_earn 38 = .ok (.getfield 119, 3) := by decide +kernel
theorem dX11_earn_41 : decode cX11_earn 41 = .ok (.getfield 154, 3) := by decide +kernel
theorem dX11_earn_44 : decode cX11_earn 44 = .ok (.astore_n 3, 1) := by decide +kernel
theorem dX11_earn_45 : decode cX11_earn 45 = .ok (.aload_n 3, 1) := by decide +kernel
theorem dX11_earn_46 : decode cX11_earn 46 = .ok (.iload_n 1, 1) := by decide +kernel
theorem dX11_earn_47 : decode cX11_earn 47 = .ok (.sipush 999, 3) := by decide +kernel
theorem dX11_earn_50 : decode cX11_earn 50 = .ok (.aload_n 3, 1) := by decide +kernel
theorem dX11_earn_51 : decode cX11_earn 51 = .ok (.iload_n 1, 1) := by decide +kernel
theorem dX11_earn_52 : decode cX11_earn 52 = .ok (.iaload, 1) := by decide +kernel
theorem dX11_earn_53 : decode cX11_earn 53 = .ok (.iload_n 2, 1) := by decide +kernel
theorem dX11_earn_54 : decode cX11_earn 54 = .ok (.iadd, 1) := by decide +kernel
theorem dX11_earn_55 : decode cX11_earn 55 = .ok (.invokestatic 198, 3) := by decide +kernel
theorem dX11_earn_58 : decode cX11_earn 58 = .ok (.iastore, 1) := by decide +kernel
theorem dX11_earn_59 : decode cX11_earn 59 = .ok (.aload_n 3, 1) := by decide +kernel
theorem dX11_earn_60 : decode cX11_earn 60 = .ok (.iload_n 1, 1) := by decide +kernel
theorem dX11_earn_61 : decode cX11_earn 61 = .ok (.iaload, 1) := by decide +kernel
theorem dX11_earn_62 : decode cX11_earn 62 = .ok (.ireturn, 1) := by decide +kernel
abbrev MNextStall_earn : rx_M := (RX11, yX11_earn, cX11_earn, 4, (some .int), 6)
theorem kNextStall_earn : rKv MNextStall_earn 2 := ⟨tb_in (i := 32) (j := 25) rfl rfl, tb_in (i := 32) (j := 26) rfl rfl, tb_in (i := 2) (j := 22) rfl rfl, tb_in (i := 14) (j := 23) rfl rfl, ⟨by decide, by decide, by decide +kernel⟩, by decide⟩
section
variable {a0 : Nat → Nat → Nat} {g0 : tyNextStall} {g1 : tyTape} {g2 : tyCursor} {g3 : tyWorld} {g4 : tyFair} {g5 : tyFair} {g6 : tyNotes} {g7 : tyPast} {g8 : tyTrials} {g9 : tyFair} {g10 : tyOrder} {g11 : tyOrder} {f0_rules : Nat → Option Nat} {f0_images : Nat → Option Nat} {f7_fairs : Nat → Nat → Nat} {p7_fairs0 : Nat → tyFair}
def mNextStall_earn (x1 : Int32) (x2 : Int32) (g5 : tyFair) (g7 : tyPast) (p7_fairs0 : Nat → tyFair) : Option (Int32 × tyFair × tyPast × (Nat → tyFair)) := (mNextStall_isBuyer x1 g5).bind (fun q1 => (if q1 = 0 then some ((-1 : Int32), g5, g7, p7_fairs0) else (mNextStall_within x2 (1 : Int32) (99 : Int32)).bind (fun q3 => (if q3 = 0 then some ((-1 : Int32), g5, g7, p7_fairs0) else (mPast_keep g7 g5 p7_fairs0).bind (fun q5 => rq (inb x1 6) (rq (inb x1 6) (lt (upd g5.2.2.2.2.2.2.2.2.2.2.2.2.2.1 x1.toNatClampNeg (if ((g5.2.2.2.2.2.2.2.2.2.2.2.2.2.1 x1.toNatClampNeg) + x2) < (999 : Int32) then ((g5.2.2.2.2.2.2.2.2.2.2.2.2.2.1 x1.toNatClampNeg) + x2) else (999 : Int32))) (fun u7 => rq (inb x1 6) (some ((u7 x1.toNatClampNeg), (g5.1, g5.2.1, g5.2.2.1, g5.2.2.2.1, g5.2.2.2.2.1, g5.2.2.2.2.2.1, g5.2.2.2.2.2.2.1, g5.2.2.2.2.2.2.2.1, g5.2.2.2.2.2.2.2.2.1, g5.2.2.2.2.2.2.2.2.2.1, g5.2.2.2.2.2.2.2.2.2.2.1, g5.2.2.2.2.2.2.2.2.2.2.2.1, g5.2.2.2.2.2.2.2.2.2.2.2.2.1, u7, g5.2.2.2.2.2.2.2.2.2.2.2.2.2.2.1, g5.2.2.2.2.2.2.2.2.2.2.2.2.2.2.2.1, g5.2.2.2.2.2.2.2.2.2.2.2.2.2.2.2.2.1, g5.2.2.2.2.2.2.2.2.2.2.2.2.2.2.2.2.2.1, g5.2.2.2.2.2.2.2.2.2.2.2.2.2.2.2.2.2.2), q5.1, q5.2))))))))))
set_option maxHeartbeats 4000000 in
set_option maxRecDepth 20000 in
theorem cNextStall_earn {q : Int32 × tyFair × tyPast × (Nat → tyFair)} {x1 : Int32} {x2 : Int32} (h : mNextStall_earn x1 x2 g5 g7 p7_fairs0 = some q) : rMet l D Z (ty7 K) MNextStall_earn [.ref ((a0 0) 0), .int x1, .int x2] (List.flatten ([bNextStallG K (a0 0) f0_rules f0_images ((a0 1) 0) ((a0 2) 0) ((a0 3) 0) ((a0 7) 0) ((a0 8) 0) g0, bTapeG K (a0 1) g1, bCursorG K (a0 2) g2, bWorldG K (a0 3) ((a0 4) 0) ((a0 5) 0) ((a0 6) 0) g3, bFairG K (a0 4) g4, bFairG K (a0 5) g5, bNotesG K (a0 6) g6, bPastG K (a0 7) (fun j => some (f7_fairs j 0)) g7, bTrialsG K (a0 8) ((a0 9) 0) ((a0 10) 0) ((a0 11) 0) g8, bFairG K (a0 9) g9, bOrderG K (a0 10) g10, bOrderG K (a0 11) g11] ++ (fam 20 (fun j => bFairG K (f7_fairs j) (p7_fairs0 j)) ++ []))) (List.flatten ([bNextStallG K (a0 0) f0_rules f0_images ((a0 1) 0) ((a0 2) 0) ((a0 3) 0) ((a0 7) 0) ((a0 8) 0) g0, bTapeG K (a0 1) g1, bCursorG K (a0 2) g2, bWorldG K (a0 3) ((a0 4) 0) ((a0 5) 0) ((a0 6) 0) g3, bFairG K (a0 4) g4, bFairG K (a0 5) q.2.1, bNotesG K (a0 6) g6, bPastG K (a0 7) (fun j => some (f7_fairs j 0)) q.2.2.1, bTrialsG K (a0 8) ((a0 9) 0) ((a0 10) 0) ((a0 11) 0) g8, bFairG K (a0 9) g9, bOrderG K (a0 10) g10, bOrderG K (a0 11) g11] ++ (fam 20 (fun j => bFairG K (f7_fairs j) (q.2.2.2 j)) ++ []))) (some (.int q.1)) := by
  refine rMet.of (by decide) rfl (Nat.le_of_ble_eq_true rfl) ?_
  refine r_sub (lv' := [(0, .ref ((a0 0) 0)), (1, .int x1), (2, .int x2)]) [0, 1, 2] rfl ?_
  unfold mNextStall_earn at h
  refine r_aload_n 0 dX11_earn_0 rfl ?_
  refine r_iload_n 1 dX11_earn_1 rfl ?_
  obtain ⟨q1, h1, h⟩ := bd_some h
  refine b_callV (isC := [0, 1, 2, 3, 4, 5, 6, 7, 8, 9, 10, 11]) (ci := 9)  (st := []) (bs1 := ([bNextStallG K (a0 0) f0_rules f0_images ((a0 1) 0) ((a0 2) 0) ((a0 3) 0) ((a0 7) 0) ((a0 8) 0) g0, bTapeG K (a0 1) g1, bCursorG K (a0 2) g2, bWorldG K (a0 3) ((a0 4) 0) ((a0 5) 0) ((a0 6) 0) g3, bFairG K (a0 4) g4, bFairG K (a0 5) g5, bNotesG K (a0 6) g6, bPastG K (a0 7) (fun j => some (f7_fairs j 0)) g7, bTrialsG K (a0 8) ((a0 9) 0) ((a0 10) 0) ((a0 11) 0) g8, bFairG K (a0 9) g9, bOrderG K (a0 10) g10, bOrderG K (a0 11) g11] ++ (fam 20 (fun j => bFairG K (f7_fairs j) (p7_fairs0 j)) ++ []))) (cNextStall_isBuyer (a0 := a0) (g0 := g0) (g1 := g1) (g2 := g2) (g3 := g3) (g4 := g4) (g5 := g5) (g6 := g6) (g7 := g7) (g8 := g8) (g9 := g9) (g10 := g10) (g11 := g11) h1) rfl rfl (Nat.le_of_ble_eq_true rfl) kNextStall_isBuyer (tb_in (i := 14) (j := 4) rfl rfl) (by decide) (by decide) rfl rfl rfl rfl rfl rfl rfl dX11_earn_2 ?_
  refine r_if_eq 18 dX11_earn_5 (by decide) (fun c2 => ?_) (fun c2 => ?_)
  · replace h := it_pos c2 h
    refine r_iconst (x := (-1 : Int32)) dX11_earn_18 (by decide) ?_
    have hq := Option.some.inj h
    subst hq
    exact r_iret rfl dX11_earn_19
  · replace h := it_neg c2 h
    refine r_iload_n 2 dX11_earn_8 rfl ?_
    refine r_iconst (x := (1 : Int32)) dX11_earn_9 (by decide) ?_
    refine r_bipush (x := (99 : Int32)) dX11_earn_10 (by decide) ?_
    obtain ⟨q3, h3, h⟩ := bd_some h
    refine b_callS (isC := []) (st := []) (bs1 := ([bNextStallG K (a0 0) f0_rules f0_images ((a0 1) 0) ((a0 2) 0) ((a0 3) 0) ((a0 7) 0) ((a0 8) 0) g0, bTapeG K (a0 1) g1, bCursorG K (a0 2) g2, bWorldG K (a0 3) ((a0 4) 0) ((a0 5) 0) ((a0 6) 0) g3, bFairG K (a0 4) g4, bFairG K (a0 5) g5, bNotesG K (a0 6) g6, bPastG K (a0 7) (fun j => some (f7_fairs j 0)) g7, bTrialsG K (a0 8) ((a0 9) 0) ((a0 10) 0) ((a0 11) 0) g8, bFairG K (a0 9) g9, bOrderG K (a0 10) g10, bOrderG K (a0 11) g11] ++ (fam 20 (fun j => bFairG K (f7_fairs j) (p7_fairs0 j)) ++ []))) (cNextStall_within   h3) rfl rfl (Nat.le_of_ble_eq_true rfl) kNextStall_within (tb_in (i := 13) (j := 17) rfl rfl) (by decide) (by decide) rfl rfl rfl dX11_earn_12 ?_
    refine r_if_ne 20 dX11_earn_15 (by decide) (fun c4 => ?_) (fun c4 => ?_)
    · replace h := it_neg c4 h
      refine r_aload_n 0 dX11_earn_20 rfl ?_
      refine gNextStall_past 0 rfl (tb_in (i := 12) (j := 30) rfl rfl) dX11_earn_21 ?_
      refine r_aload_n 0 dX11_earn_24 rfl ?_
      refine gNextStall_world 0 rfl (tb_in (i := 12) (j := 26) rfl rfl) dX11_earn_25 ?_
      refine gWorld_nowN 3 rfl (List.mem_of_getElem? (i := 55) rfl) dX11_earn_28 ?_
      obtain ⟨q5, h5, h⟩ := bd_some h
      refine b_callVN (isC := ([7, 5] ++ (List.range' 12 20 ++ []))) (ci := 4)  (st := []) (bs1 := ([bNextStallG K (a0 0) f0_rules f0_images ((a0 1) 0) ((a0 2) 0) ((a0 3) 0) ((a0 7) 0) ((a0 8) 0) g0, bTapeG K (a0 1) g1, bCursorG K (a0 2) g2, bWorldG K (a0 3) ((a0 4) 0) ((a0 5) 0) ((a0 6) 0) g3, bFairG K (a0 4) g4, bFairG K (a0 5) g5, bNotesG K (a0 6) g6, bPastG K (a0 7) (fun j => some (f7_fairs j 0)) q5.1, bTrialsG K (a0 8) ((a0 9) 0) ((a0 10) 0) ((a0 11) 0) g8, bFairG K (a0 9) g9, bOrderG K (a0 10) g10, bOrderG K (a0 11) g11] ++ (fam 20 (fun j => bFairG K (f7_fairs j) (q5.2 j)) ++ []))) (cPast_keep (a0 := (a0 7)) (a1 := (a0 5)) (f0_fairs := f7_fairs) (g0 := g7) (g1 := g5) (p0_fairs0 := p7_fairs0) h5) rfl rfl (Nat.le_of_ble_eq_true rfl) kPast_keep (List.mem_of_getElem? (i := 44) rfl) (by decide) (by decide +kernel) (map_app rfl (map_app (map_f0 (n := 20) (l := [bNextStallG K (a0 0) f0_rules f0_images ((a0 1) 0) ((a0 2) 0) ((a0 3) 0) ((a0 7) 0) ((a0 8) 0) g0, bTapeG K (a0 1) g1, bCursorG K (a0 2) g2, bWorldG K (a0 3) ((a0 4) 0) ((a0 5) 0) ((a0 6) 0) g3, bFairG K (a0 4) g4, bFairG K (a0 5) g5, bNotesG K (a0 6) g6, bPastG K (a0 7) (fun j => some (f7_fairs j 0)) g7, bTrialsG K (a0 8) ((a0 9) 0) ((a0 10) 0) ((a0 11) 0) g8, bFairG K (a0 9) g9, bOrderG K (a0 10) g10, bOrderG K (a0 11) g11]) rfl) rfl)) (by simp only [List.length_append, fam_len, List.length_range', List.length_cons, List.length_nil]) (stm_a (bs1 := ([bNextStallG K (a0 0) f0_rules f0_images ((a0 1) 0) ((a0 2) 0) ((a0 3) 0) ((a0 7) 0) ((a0 8) 0) g0, bTapeG K (a0 1) g1, bCursorG K (a0 2) g2, bWorldG K (a0 3) ((a0 4) 0) ((a0 5) 0) ((a0 6) 0) g3, bFairG K (a0 4) g4, bFairG K (a0 5) g5, bNotesG K (a0 6) g6, bPastG K (a0 7) (fun j => some (f7_fairs j 0)) q5.1, bTrialsG K (a0 8) ((a0 9) 0) ((a0 10) 0) ((a0 11) 0) g8, bFairG K (a0 9) g9, bOrderG K (a0 10) g10, bOrderG K (a0 11) g11] ++ (fam 20 (fun j => bFairG K (f7_fairs j) (p7_fairs0 j)) ++ []))) rfl rfl (stm_a (bs1 := ([bNextStallG K (a0 0) f0_rules f0_images ((a0 1) 0) ((a0 2) 0) ((a0 3) 0) ((a0 7) 0) ((a0 8) 0) g0, bTapeG K (a0 1) g1, bCursorG K (a0 2) g2, bWorldG K (a0 3) ((a0 4) 0) ((a0 5) 0) ((a0 6) 0) g3, bFairG K (a0 4) g4, bFairG K (a0 5) g5, bNotesG K (a0 6) g6, bPastG K (a0 7) (fun j => some (f7_fairs j 0)) q5.1, bTrialsG K (a0 8) ((a0 9) 0) ((a0 10) 0) ((a0 11) 0) g8, bFairG K (a0 9) g9, bOrderG K (a0 10) g10, bOrderG K (a0 11) g11] ++ (fam 20 (fun j => bFairG K (f7_fairs j) (q5.2 j)) ++ []))) (by rw [List.length_range', fam_len]) (stm_f0 (n := 20) (l := [bNextStallG K (a0 0) f0_rules f0_images ((a0 1) 0) ((a0 2) 0) ((a0 3) 0) ((a0 7) 0) ((a0 8) 0) g0, bTapeG K (a0 1) g1, bCursorG K (a0 2) g2, bWorldG K (a0 3) ((a0 4) 0) ((a0 5) 0) ((a0 6) 0) g3, bFairG K (a0 4) g4, bFairG K (a0 5) g5, bNotesG K (a0 6) g6, bPastG K (a0 7) (fun j => some (f7_fairs j 0)) q5.1, bTrialsG K (a0 8) ((a0 9) 0) ((a0 10) 0) ((a0 11) 0) g8, bFairG K (a0 9) g9, bOrderG K (a0 10) g10, bOrderG K (a0 11) g11]) rfl) rfl)) rfl rfl rfl rfl dX11_earn_31 ?_
      refine r_aload_n 0 dX11_earn_34 rfl ?_
      refine gNextStall_world 0 rfl (tb_in (i := 12) (j := 26) rfl rfl) dX11_earn_35 ?_
      refine gWorld_nowN 3 rfl (List.mem_of_getElem? (i := 55) rfl) dX11_earn_38 ?_
      refine gFair_purseN 5 rfl (List.mem_of_getElem? (i := 38) rfl) dX11_earn_41 ?_
      refine r_astore_n (lv' := [(3, .ref ((a0 5) 9)), (0, .ref ((a0 0) 0)), (1, .int x1), (2, .int x2)]) dX11_earn_44 (Nat.le_of_ble_eq_true rfl) rfl ?_
      refine r_aload_n 0 dX11_earn_45 rfl ?_
      refine r_iload_n 2 dX11_earn_46 rfl ?_
      refine r_sipush (x := (999 : Int32)) dX11_earn_47 (by decide) ?_
      refine r_aload_n 0 dX11_earn_50 rfl ?_
      refine r_iload_n 2 dX11_earn_51 rfl ?_
      obtain ⟨h6, h⟩ := rq_some h
      refine lFair_purse 5 rfl (inb_in h6) dX11_earn_52 ?_
      refine r_iload_n 3 dX11_earn_53 rfl ?_
      refine r_iadd dX11_earn_54 ?_
      refine r_mmin (tb_in (i := 14) (j := 22) rfl rfl) (tb_in (i := 3) (j := 20) rfl rfl) (tb_in (i := 3) (j := 21) rfl rfl) (tb_in (i := 3) (j := 22) rfl rfl) (by decide) (Nat.le_of_ble_eq_true rfl) dX11_earn_55 ?_
      obtain ⟨h7, h⟩ := rq_some h
      obtain ⟨u7, e7, h⟩ := lt_some h
      refine sFair_purse (bs1 := ([bNextStallG K (a0 0) f0_rules f0_images ((a0 1) 0) ((a0 2) 0) ((a0 3) 0) ((a0 7) 0) ((a0 8) 0) g0, bTapeG K (a0 1) g1, bCursorG K (a0 2) g2, bWorldG K (a0 3) ((a0 4) 0) ((a0 5) 0) ((a0 6) 0) g3, bFairG K (a0 4) g4, bFair K (a0 5) g5.1 g5.2.1 g5.2.2.1 g5.2.2.2.1 g5.2.2.2.2.1 g5.2.2.2.2.2.1 g5.2.2.2.2.2.2.1 g5.2.2.2.2.2.2.2.1 g5.2.2.2.2.2.2.2.2.1 g5.2.2.2.2.2.2.2.2.2.1 g5.2.2.2.2.2.2.2.2.2.2.1 g5.2.2.2.2.2.2.2.2.2.2.2.1 g5.2.2.2.2.2.2.2.2.2.2.2.2.1 u7 g5.2.2.2.2.2.2.2.2.2.2.2.2.2.2.1 g5.2.2.2.2.2.2.2.2.2.2.2.2.2.2.2.1 g5.2.2.2.2.2.2.2.2.2.2.2.2.2.2.2.2.1 g5.2.2.2.2.2.2.2.2.2.2.2.2.2.2.2.2.2.1 g5.2.2.2.2.2.2.2.2.2.2.2.2.2.2.2.2.2.2, bNotesG K (a0 6) g6, bPastG K (a0 7) (fun j => some (f7_fairs j 0)) q5.1, bTrialsG K (a0 8) ((a0 9) 0) ((a0 10) 0) ((a0 11) 0) g8, bFairG K (a0 9) g9, bOrderG K (a0 10) g10, bOrderG K (a0 11) g11] ++ (fam 20 (fun j => bFairG K (f7_fairs j) (q5.2 j)) ++ []))) 5 e7 rfl (inb_in h7) rfl dX11_earn_58 ?_
      refine r_aload_n 0 dX11_earn_59 rfl ?_
      refine r_iload_n 2 dX11_earn_60 rfl ?_
      obtain ⟨h8, h⟩ := rq_some h
      refine lFair_purse 5 rfl (inb_in h8) dX11_earn_61 ?_
      have hq := Option.some.inj h
      subst hq
      exact r_iret rfl dX11_earn_62
    · replace h := it_pos c4 h
      refine r_iconst (x := (-1 : Int32)) dX11_earn_18 (by decide) ?_
      have hq := Option.some.inj h
      subst hq
      exact r_iret rfl dX11_earn_19
end
theorem dX11_undo_0 : decode cX11_undo 0 = .ok (.aload_n 0, 1) := by decide +kernel
theorem dX11_undo_1 : decode cX11_undo 1 = .ok (.getfield 43, 3) := by decide +kernel
theorem dX11_undo_4 : decode cX11_undo 4 = .ok (.getfield 204, 3) := by decide +kernel
theorem dX11_undo_7 : decode cX11_undo 7 = .ok (.ifCond .gt 5, 3) := by decide +kernel
theorem dX11_undo_10 : decode cX11_undo 10 = .ok (.iconst (-1), 1) := by decide +kernel
theorem dX11_undo_11 : decode cX11_undo 11 = .ok (.ireturn, 1) := by decide +kernel
theorem dX11_undo_12 : decode cX11_undo 12 = .ok (.aload_n 0, 1) := by decide +kernel
theorem dX11_undo_13 : decode cX11_undo 13 = .ok (.getfield 43, 3) := by decide +kernel
theorem dX11_undo_16 : decode cX11_undo 16 = .ok (.aload_n 0, 1) := by decide +kernel
theorem dX11_undo_17 : decode cX11_undo 17 = .ok (.getfield 36, 3) := by decide +kernel
theorem dX11_undo_20 : decode cX11_undo 20 = .ok (.getfield 119, 3) := by decide +kernel
theorem dX11_undo_23 : decode cX11_undo 23 = .ok (.invokevirtual 205, 3) := by decide +kernel
theorem dX11_undo_26 : decode cX11_undo 26 = .ok (.aload_n 0, 1) := by decide +kernel
theorem dX11_undo_27 : decode cX11_undo 27 = .ok (.getfield 43, 3) := by decide +kernel
theorem dX11_undo_30 : decode cX11_undo 30 = .ok (.getfield 204, 3) := by decide +kernel
theorem dX11_undo_33 : decode cX11_undo 33 = .ok (.ireturn, 1) := by decide +kernel
abbrev MNextStall_undo : rx_M := (RX11, yX11_undo, cX11_undo, 1, (some .int), 6)
theorem kNextStall_undo : rKv MNextStall_undo 0 := ⟨tb_in (i := 32) (j := 31) rfl rfl, tb_in (i := 33) (j := 0) rfl rfl, tb_in (i := 2) (j := 22) rfl rfl, tb_in (i := 14) (j := 26) rfl rfl, ⟨by decide, by decide, by decide +kernel⟩, by decide⟩
section
variable {a0 : Nat → Nat → Nat} {g0 : tyNextStall} {g1 : tyTape} {g2 : tyCursor} {g3 : tyWorld} {g4 : tyFair} {g5 : tyFair} {g6 : tyNotes} {g7 : tyPast} {g8 : tyTrials} {g9 : tyFair} {g10 : tyOrder} {g11 : tyOrder} {f0_rules : Nat → Option Nat} {f0_images : Nat → Option Nat} {f7_fairs : Nat → Nat → Nat} {p7_fairs0 : Nat → tyFair}
def mNextStall_undo (g5 : tyFair) (g7 : tyPast) (p7_fairs0 : Nat → tyFair) : Option (Int32 × tyFair × tyPast) := (if 0 < g7.2 then (mPast_takeBack g7 g5 p7_fairs0).bind (fun q2 => some (q2.1.2, q2.2, q2.1)) else some ((-1 : Int32), g5, g7))
set_option maxHeartbeats 4000000 in
set_option maxRecDepth 20000 in
theorem cNextStall_undo {q : Int32 × tyFair × tyPast}  (h : mNextStall_undo g5 g7 p7_fairs0 = some q) : rMet l D Z (ty7 K) MNextStall_undo [.ref ((a0 0) 0)] (List.flatten ([bNextStallG K (a0 0) f0_rules f0_images ((a0 1) 0) ((a0 2) 0) ((a0 3) 0) ((a0 7) 0) ((a0 8) 0) g0, bTapeG K (a0 1) g1, bCursorG K (a0 2) g2, bWorldG K (a0 3) ((a0 4) 0) ((a0 5) 0) ((a0 6) 0) g3, bFairG K (a0 4) g4, bFairG K (a0 5) g5, bNotesG K (a0 6) g6, bPastG K (a0 7) (fun j => some (f7_fairs j 0)) g7, bTrialsG K (a0 8) ((a0 9) 0) ((a0 10) 0) ((a0 11) 0) g8, bFairG K (a0 9) g9, bOrderG K (a0 10) g10, bOrderG K (a0 11) g11] ++ (fam 20 (fun j => bFairG K (f7_fairs j) (p7_fairs0 j)) ++ []))) (List.flatten ([bNextStallG K (a0 0) f0_rules f0_images ((a0 1) 0) ((a0 2) 0) ((a0 3) 0) ((a0 7) 0) ((a0 8) 0) g0, bTapeG K (a0 1) g1, bCursorG K (a0 2) g2, bWorldG K (a0 3) ((a0 4) 0) ((a0 5) 0) ((a0 6) 0) g3, bFairG K (a0 4) g4, bFairG K (a0 5) q.2.1, bNotesG K (a0 6) g6, bPastG K (a0 7) (fun j => some (f7_fairs j 0)) q.2.2, bTrialsG K (a0 8) ((a0 9) 0) ((a0 10) 0) ((a0 11) 0) g8, bFairG K (a0 9) g9, bOrderG K (a0 10) g10, bOrderG K (a0 11) g11] ++ (fam 20 (fun j => bFairG K (f7_fairs j) (p7_fairs0 j)) ++ []))) (some (.int q.1)) := by
  refine rMet.of (by decide) rfl (Nat.le_of_ble_eq_true rfl) ?_
  refine r_sub (lv' := [(0, .ref ((a0 0) 0))]) [0] rfl ?_
  unfold mNextStall_undo at h
  refine r_aload_n 0 dX11_undo_0 rfl ?_
  refine gNextStall_past 0 rfl (tb_in (i := 12) (j := 30) rfl rfl) dX11_undo_1 ?_
  refine gPast_sizeN 7 rfl (List.mem_of_getElem? (i := 59) rfl) dX11_undo_4 ?_
  refine r_if_gt 12 dX11_undo_7 (by decide) (fun c1 => ?_) (fun c1 => ?_)
  · replace h := it_pos c1 h
    refine r_aload_n 0 dX11_undo_12 rfl ?_
    refine gNextStall_past 0 rfl (tb_in (i := 12) (j := 30) rfl rfl) dX11_undo_13 ?_
    refine r_aload_n 0 dX11_undo_16 rfl ?_
    refine gNextStall_world 0 rfl (tb_in (i := 12) (j := 26) rfl rfl) dX11_undo_17 ?_
    refine gWorld_nowN 3 rfl (List.mem_of_getElem? (i := 55) rfl) dX11_undo_20 ?_
    obtain ⟨q2, h2, h⟩ := bd_some h
    refine b_callVN (isC := ([7, 5] ++ (List.range' 12 20 ++ []))) (ci := 4)  (st := []) (bs1 := ([bNextStallG K (a0 0) f0_rules f0_images ((a0 1) 0) ((a0 2) 0) ((a0 3) 0) ((a0 7) 0) ((a0 8) 0) g0, bTapeG K (a0 1) g1, bCursorG K (a0 2) g2, bWorldG K (a0 3) ((a0 4) 0) ((a0 5) 0) ((a0 6) 0) g3, bFairG K (a0 4) g4, bFairG K (a0 5) q2.2, bNotesG K (a0 6) g6, bPastG K (a0 7) (fun j => some (f7_fairs j 0)) q2.1, bTrialsG K (a0 8) ((a0 9) 0) ((a0 10) 0) ((a0 11) 0) g8, bFairG K (a0 9) g9, bOrderG K (a0 10) g10, bOrderG K (a0 11) g11] ++ (fam 20 (fun j => bFairG K (f7_fairs j) (p7_fairs0 j)) ++ []))) (cPast_takeBack (a0 := (a0 7)) (a1 := (a0 5)) (f0_fairs := f7_fairs) (g0 := g7) (g1 := g5) (p0_fairs0 := p7_fairs0) h2) rfl rfl (Nat.le_of_ble_eq_true rfl) kPast_takeBack (List.mem_of_getElem? (i := 51) rfl) (by decide) (by decide +kernel) (map_app rfl (map_app (map_f0 (n := 20) (l := [bNextStallG K (a0 0) f0_rules f0_images ((a0 1) 0) ((a0 2) 0) ((a0 3) 0) ((a0 7) 0) ((a0 8) 0) g0, bTapeG K (a0 1) g1, bCursorG K (a0 2) g2, bWorldG K (a0 3) ((a0 4) 0) ((a0 5) 0) ((a0 6) 0) g3, bFairG K (a0 4) g4, bFairG K (a0 5) g5, bNotesG K (a0 6) g6, bPastG K (a0 7) (fun j => some (f7_fairs j 0)) g7, bTrialsG K (a0 8) ((a0 9) 0) ((a0 10) 0) ((a0 11) 0) g8, bFairG K (a0 9) g9, bOrderG K (a0 10) g10, bOrderG K (a0 11) g11]) rfl) rfl)) (by simp only [List.length_append, fam_len, List.length_range', List.length_cons, List.length_nil]) (stm_a (bs1 := ([bNextStallG K (a0 0) f0_rules f0_images ((a0 1) 0) ((a0 2) 0) ((a0 3) 0) ((a0 7) 0) ((a0 8) 0) g0, bTapeG K (a0 1) g1, bCursorG K (a0 2) g2, bWorldG K (a0 3) ((a0 4) 0) ((a0 5) 0) ((a0 6) 0) g3, bFairG K (a0 4) g4, bFairG K (a0 5) q2.2, bNotesG K (a0 6) g6, bPastG K (a0 7) (fun j => some (f7_fairs j 0)) q2.1, bTrialsG K (a0 8) ((a0 9) 0) ((a0 10) 0) ((a0 11) 0) g8, bFairG K (a0 9) g9, bOrderG K (a0 10) g10, bOrderG K (a0 11) g11] ++ (fam 20 (fun j => bFairG K (f7_fairs j) (p7_fairs0 j)) ++ []))) rfl rfl (stm_a (bs1 := ([bNextStallG K (a0 0) f0_rules f0_images ((a0 1) 0) ((a0 2) 0) ((a0 3) 0) ((a0 7) 0) ((a0 8) 0) g0, bTapeG K (a0 1) g1, bCursorG K (a0 2) g2, bWorldG K (a0 3) ((a0 4) 0) ((a0 5) 0) ((a0 6) 0) g3, bFairG K (a0 4) g4, bFairG K (a0 5) q2.2, bNotesG K (a0 6) g6, bPastG K (a0 7) (fun j => some (f7_fairs j 0)) q2.1, bTrialsG K (a0 8) ((a0 9) 0) ((a0 10) 0) ((a0 11) 0) g8, bFairG K (a0 9) g9, bOrderG K (a0 10) g10, bOrderG K (a0 11) g11] ++ (fam 20 (fun j => bFairG K (f7_fairs j) (p7_fairs0 j)) ++ []))) (by rw [List.length_range', fam_len]) (stm_f0 (n := 20) (l := [bNextStallG K (a0 0) f0_rules f0_images ((a0 1) 0) ((a0 2) 0) ((a0 3) 0) ((a0 7) 0) ((a0 8) 0) g0, bTapeG K (a0 1) g1, bCursorG K (a0 2) g2, bWorldG K (a0 3) ((a0 4) 0) ((a0 5) 0) ((a0 6) 0) g3, bFairG K (a0 4) g4, bFairG K (a0 5) q2.2, bNotesG K (a0 6) g6, bPastG K (a0 7) (fun j => some (f7_fairs j 0)) q2.1, bTrialsG K (a0 8) ((a0 9) 0) ((a0 10) 0) ((a0 11) 0) g8, bFairG K (a0 9) g9, bOrderG K (a0 10) g10, bOrderG K (a0 11) g11]) rfl) rfl)) rfl rfl rfl rfl dX11_undo_23 ?_
    refine r_aload_n 0 dX11_undo_26 rfl ?_
    refine gNextStall_past 0 rfl (tb_in (i := 12) (j := 30) rfl rfl) dX11_undo_27 ?_
    refine gPast_sizeN 7 rfl (List.mem_of_getElem? (i := 59) rfl) dX11_undo_30 ?_
    have hq := Option.some.inj h
    subst hq
    exact r_iret rfl dX11_undo_33
  · replace h := it_neg c1 h
    refine r_iconst (x := (-1 : Int32)) dX11_undo_10 (by decide) ?_
    have hq := Option.some.inj h
    subst hq
    exact r_iret rfl dX11_undo_11
end
theorem dX11_ahead_0 : decode cX11_ahead 0 = .ok (.aload_n 0, 1) := by decide +kernel
theorem dX11_ahead_1 : decode cX11_ahead 1 = .ok (.iload_n 1, 1) := by decide +kernel
theorem dX11_ahead_2 : decode cX11_ahead 2 = .ok (.invokevirtual 115, 3) := by decide +kernel
theorem dX11_ahead_5 : decode cX11_ahead 5 = .ok (.ifCond .eq 22, 3) := by decide +kernel
theorem dX11_ahead_8 : decode cX11_ahead 8 = .ok (.iload_n 2, 1) := by decide +kernel
theorem dX11_ahead_9 : decode cX11_ahead 9 = .ok (.iconst 0, 1) := by decide +kernel
theorem dX11_ahead_10 : decode cX11_ahead 10 = .ok (.bipush 100, 2) := by decide +kernel
theorem dX11_ahead_12 : decode cX11_ahead 12 = .ok (.invokestatic 70, 3) := by decide +kernel
theorem dX11_ahead_15 : decode cX11_ahead 15 = .ok (.ifCond .eq 12, 3) := by decide +kernel
theorem dX11_ahead_18 : decode cX11_ahead 18 = .ok (.iload_n 3, 1) := by decide +kernel
theorem dX11_ahead_19 : decode cX11_ahead 19 = .ok (.iconst 0, 1) := by decide +kernel
theorem dX11_ahead_20 : decode cX11_ahead 20 = .ok (.iconst 2, 1) := by decide +kernel
theorem dX11_ahead_21 : decode cX11_ahead 21 = .ok (.invokestatic 70, 3) := by decide +kernel
theorem dX11_ahead_24 : decode cX11_ahead 24 = .ok (.ifCond .ne 5, 3) := by decide +kernel
theorem dX11_ahead_27 : decode cX11_ahead 27 = .ok (.iconst (-1), 1) := by decide +kernel
theorem dX11_ahead_28 : decode cX11_ahead 28 = .ok (.ireturn, 1) := by decide +kernel
theorem dX11_ahead_29 : decode cX11_ahead 29 = .ok (.aload_n 0, 1) := by decide +kernel
theorem dX11_ahead_30 : decode cX11_ahead 30 = .ok (.getfield 58, 3) := by decide +kernel
theorem dX11_ahead_33 : decode cX11_ahead 33 = .ok (.aload_n 0, 1) := by decide +kernel
theorem dX11_ahead_34 : decode cX11_ahead 34 = .ok (.getfield 36, 3) := by decide +kernel
theorem dX11_ahead_37 : decode cX11_ahead 37 = .ok (.getfield 119, 3) := by decide +kernel
theorem dX11_ahead_40 : decode cX11_ahead 40 = .ok (.invokevirtual 208, 3) := by decide +kernel
theorem dX11_ahead_43 : decode cX11_ahead 43 = .ok (.astore 4, 2) := by decide +kernel
theorem dX11_ahead_45 : decode cX11_ahead 45 = .ok (.aload 4, 2) := by decide +kernel
theorem dX11_ahead_47 : decode cX11_ahead 47 = .ok (.aload_n 0, 1) := by decide +kernel
theorem dX11_ahead_48 : decode cX11_ahead 48 = .ok (.invokevirtual 176, 3) := by decide +kernel
theorem dX11_ahead_51 : decode cX11_ahead 51 = .ok (.iload_n 2, 1) := by decide +kernel
theorem dX11_ahead_52 : decode cX11_ahead 52 = .ok (.iconst (-1), 1) := by decide +kernel
theorem dX11_ahead_53 : decode cX11_ahead 53 = .ok (.invokevirtual 180, 3) := by decide +kernel
theorem dX11_ahead_56 : decode cX11_ahead 56 = .ok (.pop, 1) := by decide +kernel
theorem dX11_ahead_57 : decode cX11_ahead 57 = .ok (.iload_n 3, 1) := by decide +kernel
theorem dX11_ahead_58 : decode cX11_ahead 58 = .ok (.ifCond .ne 11, 3) := by decide +kernel
theorem dX11_ahead_61 : decode cX11_ahead 61 = .ok (.aload 4, 2) := by decide +kernel
theorem dX11_ahead_63 : decode cX11_ahead 63 = .ok (.getfield 122, 3) := by decide +kernel
theorem dX11_ahead_66 : decode cX11_ahead 66 = .ok (.iload_n 1, 1) := by decide +kernel
theorem dX11_ahead_67 : decode cX11_ahead 67 = .ok (.iaload, 1) := by decide +kernel
theorem dX11_ahead_68 : decode cX11_ahead 68 = .ok (.ireturn, 1) := by decide +kernel
theorem dX11_ahead_69 : decode cX11_ahead 69 = .ok (.iload_n 3, 1) := by decide +kernel
theorem dX11_ahead_70 : decode cX11_ahead 70 = .ok (.iconst 1, 1) := by decide +kernel
theorem dX11_ahead_71 : decode cX11_ahead 71 = .ok (.if_icmp .ne 13, 3) := by decide +kernel
theorem dX11_ahead_74 : decode cX11_ahead 74 = .ok (.aload 4, 2) := by decide +kernel
theorem dX11_ahead_76 : decode cX11_ahead 76 = .ok (.getfield 129, 3) := by decide +kernel
theorem dX11_ahead_79 : decode cX11_ahead 79 = .ok (.iload_n 1, 1) := by decide +kernel
theorem dX11_ahead_80 : decode cX11_ahead 80 = .ok (.iaload, 1) := by decide +kernel
theorem dX11_ahead_81 : decode cX11_ahead 81 = .ok (.goto 10, 3) := by decide +kernel
theorem dX11_ahead_84 : decode cX11_ahead 84 = .ok (.aload 4, 2) := by decide +kernel
theorem dX11_ahead_86 : decode cX11_ahead 86 = .ok (.getfield 132, 3) := by decide +kernel
theorem dX11_ahead_89 : decode cX11_ahead 89 = .ok (.iload_n 1, 1) := by decide +kernel
theorem dX11_ahead_90 : decode cX11_ahead 90 = .ok (.iaload, 1) := by decide +kernel
theorem dX11_ahead_91 : decode cX11_ahead 91 = .ok (.ireturn, 1) := by decide +kernel
abbrev MNextStall_ahead : rx_M := (RX11, yX11_ahead, cX11_ahead, 5, (some .int), 6)
theorem kNextStall_ahead : rKv MNextStall_ahead 3 := ⟨tb_in (i := 33) (j := 5) rfl rfl, tb_in (i := 33) (j := 6) rfl rfl, tb_in (i := 2) (j := 22) rfl rfl, tb_in (i := 14) (j := 27) rfl rfl, ⟨by decide, by decide, by decide +kernel⟩, by decide⟩
section
variable {a0 : Nat → Nat → Nat} {g0 : tyNextStall} {g1 : tyTape} {g2 : tyCursor} {g3 : tyWorld} {g4 : tyFair} {g5 : tyFair} {g6 : tyNotes} {g7 : tyPast} {g8 : tyTrials} {g9 : tyFair} {g10 : tyOrder} {g11 : tyOrder} {f0_rules : Nat → Nat → Nat} {f0_images : Nat → Option Nat} {f7_fairs : Nat → Option Nat} {p0_rules0 : Nat → tyRule}
def mNextStall_ahead (x1 : Int32) (x2 : Int32) (x3 : Int32) (g0 : tyNextStall) (g3 : tyWorld) (g5 : tyFair) (g9 : tyFair) (p0_rules0 : Nat → tyRule) : Option (Int32 × tyFair × (Nat → tyRule)) := (mNextStall_isStall x1 g5).bind (fun q1 => (if q1 = 0 then some ((-1 : Int32), g9, p0_rules0) else (mNextStall_within x2 (0 : Int32) (100 : Int32)).bind (fun q3 => (if q3 = 0 then some ((-1 : Int32), g9, p0_rules0) else (mNextStall_within x3 (0 : Int32) (2 : Int32)).bind (fun q5 => (if q5 = 0 then some ((-1 : Int32), g9, p0_rules0) else (mTrials_from g9 g5).bind (fun q7 => (mNextStall_ruleInForce g0 g3).bind (fun q8 => mt q8 ((mFair_gon x2 (-1 : Int32) q7.1 q7.2.1 q7.2.2.1 q7.2.2.2.1 q7.2.2.2.2.1 q7.2.2.2.2.2.1 q7.2.2.2.2.2.2.1 q7.2.2.2.2.2.2.2.2.1 q7.2.2.2.2.2.2.2.2.2.1 q7.2.2.2.2.2.2.2.2.2.2.1 q7.2.2.2.2.2.2.2.2.2.2.2.2.2.1 q7.2.2.2.2.2.2.2.2.2.2.2.2.2.2.1 q7.2.2.2.2.2.2.2.2.2.2.2.2.2.2.2.1 q7.2.2.2.2.2.2.2.2.2.2.2.2.2.2.2.2.1 q7.2.2.2.2.2.2.2.2.2.2.2.2.2.2.2.2.2.1).bind (fun q9 => (if x3 = 0 then rq (inb x1 6) (some ((q9.2.2.1 x1.toNatClampNeg), (q7.1, q7.2.1, q7.2.2.1, q7.2.2.2.1, q9.2.1, q9.2.2.1, q7.2.2.2.2.2.2.1, q7.2.2.2.2.2.2.2.1, q9.2.2.2.1, q9.2.2.2.2.1, q9.2.2.2.2.2.1, q7.2.2.2.2.2.2.2.2.2.2.2.1, q7.2.2.2.2.2.2.2.2.2.2.2.2.1, q9.2.2.2.2.2.2.1, q7.2.2.2.2.2.2.2.2.2.2.2.2.2.2.1, q9.2.2.2.2.2.2.2, q7.2.2.2.2.2.2.2.2.2.2.2.2.2.2.2.2.1, q7.2.2.2.2.2.2.2.2.2.2.2.2.2.2.2.2.2.1, q7.2.2.2.2.2.2.2.2.2.2.2.2.2.2.2.2.2.2), p0_rules0)) else (if x3 = (1 : Int32) then rq (inb x1 6) (some ((q9.2.2.2.1 x1.toNatClampNeg), (q7.1, q7.2.1, q7.2.2.1, q7.2.2.2.1, q9.2.1, q9.2.2.1, q7.2.2.2.2.2.2.1, q7.2.2.2.2.2.2.2.1, q9.2.2.2.1, q9.2.2.2.2.1, q9.2.2.2.2.2.1, q7.2.2.2.2.2.2.2.2.2.2.2.1, q7.2.2.2.2.2.2.2.2.2.2.2.2.1, q9.2.2.2.2.2.2.1, q7.2.2.2.2.2.2.2.2.2.2.2.2.2.2.1, q9.2.2.2.2.2.2.2, q7.2.2.2.2.2.2.2.2.2.2.2.2.2.2.2.2.1, q7.2.2.2.2.2.2.2.2.2.2.2.2.2.2.2.2.2.1, q7.2.2.2.2.2.2.2.2.2.2.2.2.2.2.2.2.2.2), p0_rules0)) else rq (inb x1 6) (some ((q9.2.2.2.2.1 x1.toNatClampNeg), (q7.1, q7.2.1, q7.2.2.1, q7.2.2.2.1, q9.2.1, q9.2.2.1, q7.2.2.2.2.2.2.1, q7.2.2.2.2.2.2.2.1, q9.2.2.2.1, q9.2.2.2.2.1, q9.2.2.2.2.2.1, q7.2.2.2.2.2.2.2.2.2.2.2.1, q7.2.2.2.2.2.2.2.2.2.2.2.2.1, q9.2.2.2.2.2.2.1, q7.2.2.2.2.2.2.2.2.2.2.2.2.2.2.1, q9.2.2.2.2.2.2.2, q7.2.2.2.2.2.2.2.2.2.2.2.2.2.2.2.2.1, q7.2.2.2.2.2.2.2.2.2.2.2.2.2.2.2.2.2.1, q7.2.2.2.2.2.2.2.2.2.2.2.2.2.2.2.2.2.2), p0_rules0)))))) (fun j8 => rq (decide (j8 < 6)) ((mFair_gor x2 (-1 : Int32) q7.1 q7.2.1 q7.2.2.1 q7.2.2.2.1 q7.2.2.2.2.1 q7.2.2.2.2.2.1 q7.2.2.2.2.2.2.1 q7.2.2.2.2.2.2.2.2.1 q7.2.2.2.2.2.2.2.2.2.1 q7.2.2.2.2.2.2.2.2.2.2.1 q7.2.2.2.2.2.2.2.2.2.2.2.2.2.1 q7.2.2.2.2.2.2.2.2.2.2.2.2.2.2.1 q7.2.2.2.2.2.2.2.2.2.2.2.2.2.2.2.1 q7.2.2.2.2.2.2.2.2.2.2.2.2.2.2.2.2.1 q7.2.2.2.2.2.2.2.2.2.2.2.2.2.2.2.2.2.1 q7.2.2.2.2.2.2.2.2.2.2.2.2.2.2.2.2.2.2 ((p0_rules0 j8).1) ((p0_rules0 j8).2.1) ((p0_rules0 j8).2.2.1) ((p0_rules0 j8).2.2.2.1) ((p0_rules0 j8).2.2.2.2.1) ((p0_rules0 j8).2.2.2.2.2.1) ((p0_rules0 j8).2.2.2.2.2.2.2.1) ((p0_rules0 j8).2.2.2.2.2.2.2.2.1) ((p0_rules0 j8).2.2.2.2.2.2.2.2.2)).bind (fun q15 => (if x3 = 0 then rq (inb x1 6) (some ((q15.2.2.1 x1.toNatClampNeg), (q7.1, q7.2.1, q7.2.2.1, q7.2.2.2.1, q15.2.1, q15.2.2.1, q7.2.2.2.2.2.2.1, q7.2.2.2.2.2.2.2.1, q15.2.2.2.1, q15.2.2.2.2.1, q15.2.2.2.2.2.1, q7.2.2.2.2.2.2.2.2.2.2.2.1, q7.2.2.2.2.2.2.2.2.2.2.2.2.1, q15.2.2.2.2.2.2.1, q7.2.2.2.2.2.2.2.2.2.2.2.2.2.2.1, q15.2.2.2.2.2.2.2.1, q7.2.2.2.2.2.2.2.2.2.2.2.2.2.2.2.2.1, q7.2.2.2.2.2.2.2.2.2.2.2.2.2.2.2.2.2.1, q7.2.2.2.2.2.2.2.2.2.2.2.2.2.2.2.2.2.2), (va_up p0_rules0 j8 ((p0_rules0 j8).1, (p0_rules0 j8).2.1, (p0_rules0 j8).2.2.1, (p0_rules0 j8).2.2.2.1, (p0_rules0 j8).2.2.2.2.1, (p0_rules0 j8).2.2.2.2.2.1, (p0_rules0 j8).2.2.2.2.2.2.1, (p0_rules0 j8).2.2.2.2.2.2.2.1, q15.2.2.2.2.2.2.2.2.1, q15.2.2.2.2.2.2.2.2.2)))) else (if x3 = (1 : Int32) then rq (inb x1 6) (some ((q15.2.2.2.1 x1.toNatClampNeg), (q7.1, q7.2.1, q7.2.2.1, q7.2.2.2.1, q15.2.1, q15.2.2.1, q7.2.2.2.2.2.2.1, q7.2.2.2.2.2.2.2.1, q15.2.2.2.1, q15.2.2.2.2.1, q15.2.2.2.2.2.1, q7.2.2.2.2.2.2.2.2.2.2.2.1, q7.2.2.2.2.2.2.2.2.2.2.2.2.1, q15.2.2.2.2.2.2.1, q7.2.2.2.2.2.2.2.2.2.2.2.2.2.2.1, q15.2.2.2.2.2.2.2.1, q7.2.2.2.2.2.2.2.2.2.2.2.2.2.2.2.2.1, q7.2.2.2.2.2.2.2.2.2.2.2.2.2.2.2.2.2.1, q7.2.2.2.2.2.2.2.2.2.2.2.2.2.2.2.2.2.2), (va_up p0_rules0 j8 ((p0_rules0 j8).1, (p0_rules0 j8).2.1, (p0_rules0 j8).2.2.1, (p0_rules0 j8).2.2.2.1, (p0_rules0 j8).2.2.2.2.1, (p0_rules0 j8).2.2.2.2.2.1, (p0_rules0 j8).2.2.2.2.2.2.1, (p0_rules0 j8).2.2.2.2.2.2.2.1, q15.2.2.2.2.2.2.2.2.1, q15.2.2.2.2.2.2.2.2.2)))) else rq (inb x1 6) (some ((q15.2.2.2.2.1 x1.toNatClampNeg), (q7.1, q7.2.1, q7.2.2.1, q7.2.2.2.1, q15.2.1, q15.2.2.1, q7.2.2.2.2.2.2.1, q7.2.2.2.2.2.2.2.1, q15.2.2.2.1, q15.2.2.2.2.1, q15.2.2.2.2.2.1, q7.2.2.2.2.2.2.2.2.2.2.2.1, q7.2.2.2.2.2.2.2.2.2.2.2.2.1, q15.2.2.2.2.2.2.1, q7.2.2.2.2.2.2.2.2.2.2.2.2.2.2.1, q15.2.2.2.2.2.2.2.1, q7.2.2.2.2.2.2.2.2.2.2.2.2.2.2.2.2.1, q7.2.2.2.2.2.2.2.2.2.2.2.2.2.2.2.2.2.1, q7.2.2.2.2.2.2.2.2.2.2.2.2.2.2.2.2.2.2), (va_up p0_rules0 j8 ((p0_rules0 j8).1, (p0_rules0 j8).2.1, (p0_rules0 j8).2.2.1, (p0_rules0 j8).2.2.2.1, (p0_rules0 j8).2.2.2.2.1, (p0_rules0 j8).2.2.2.2.2.1, (p0_rules0 j8).2.2.2.2.2.2.1, (p0_rules0 j8).2.2.2.2.2.2.2.1, q15.2.2.2.2.2.2.2.2.1, q15.2.2.2.2.2.2.2.2.2)))))))))))))))))
set_option maxHeartbeats 4000000 in
set_option maxRecDepth 20000 in
theorem cNextStall_ahead {q : Int32 × tyFair × (Nat → tyRule)} {x1 : Int32} {x2 : Int32} {x3 : Int32} (h : mNextStall_ahead x1 x2 x3 g0 g3 g5 g9 p0_rules0 = some q) : rMet l D Z (ty7 K) MNextStall_ahead [.ref ((a0 0) 0), .int x1, .int x2, .int x3] (List.flatten ([bNextStallG K (a0 0) (fun j => some (f0_rules j 0)) f0_images ((a0 1) 0) ((a0 2) 0) ((a0 3) 0) ((a0 7) 0) ((a0 8) 0) g0, bTapeG K (a0 1) g1, bCursorG K (a0 2) g2, bWorldG K (a0 3) ((a0 4) 0) ((a0 5) 0) ((a0 6) 0) g3, bFairG K (a0 4) g4, bFairG K (a0 5) g5, bNotesG K (a0 6) g6, bPastG K (a0 7) f7_fairs g7, bTrialsG K (a0 8) ((a0 9) 0) ((a0 10) 0) ((a0 11) 0) g8, bFairG K (a0 9) g9, bOrderG K (a0 10) g10, bOrderG K (a0 11) g11] ++ (fam 6 (fun j => bRuleG K (f0_rules j) (p0_rules0 j)) ++ []))) (List.flatten ([bNextStallG K (a0 0) (fun j => some (f0_rules j 0)) f0_images ((a0 1) 0) ((a0 2) 0) ((a0 3) 0) ((a0 7) 0) ((a0 8) 0) g0, bTapeG K (a0 1) g1, bCursorG K (a0 2) g2, bWorldG K (a0 3) ((a0 4) 0) ((a0 5) 0) ((a0 6) 0) g3, bFairG K (a0 4) g4, bFairG K (a0 5) g5, bNotesG K (a0 6) g6, bPastG K (a0 7) f7_fairs g7, bTrialsG K (a0 8) ((a0 9) 0) ((a0 10) 0) ((a0 11) 0) g8, bFairG K (a0 9) q.2.1, bOrderG K (a0 10) g10, bOrderG K (a0 11) g11] ++ (fam 6 (fun j => bRuleG K (f0_rules j) (q.2.2 j)) ++ []))) (some (.int q.1)) := by
  refine rMet.of (by decide) rfl (Nat.le_of_ble_eq_true rfl) ?_
  refine r_sub (lv' := [(0, .ref ((a0 0) 0)), (1, .int x1), (2, .int x2), (3, .int x3)]) [0, 1, 2, 3] rfl ?_
  unfold mNextStall_ahead at h
  refine r_aload_n 0 dX11_ahead_0 rfl ?_
  refine r_iload_n 1 dX11_ahead_1 rfl ?_
  obtain ⟨q1, h1, h⟩ := bd_some h
  refine b_callV (isC := [0, 1, 2, 3, 4, 5, 6, 7, 8, 9, 10, 11]) (ci := 9)  (st := []) (bs1 := ([bNextStallG K (a0 0) (fun j => some (f0_rules j 0)) f0_images ((a0 1) 0) ((a0 2) 0) ((a0 3) 0) ((a0 7) 0) ((a0 8) 0) g0, bTapeG K (a0 1) g1, bCursorG K (a0 2) g2, bWorldG K (a0 3) ((a0 4) 0) ((a0 5) 0) ((a0 6) 0) g3, bFairG K (a0 4) g4, bFairG K (a0 5) g5, bNotesG K (a0 6) g6, bPastG K (a0 7) f7_fairs g7, bTrialsG K (a0 8) ((a0 9) 0) ((a0 10) 0) ((a0 11) 0) g8, bFairG K (a0 9) g9, bOrderG K (a0 10) g10, bOrderG K (a0 11) g11] ++ (fam 6 (fun j => bRuleG K (f0_rules j) (p0_rules0 j)) ++ []))) (cNextStall_isStall (a0 := a0) (g0 := g0) (g1 := g1) (g2 := g2) (g3 := g3) (g4 := g4) (g5 := g5) (g6 := g6) (g7 := g7) (g8 := g8) (g9 := g9) (g10 := g10) (g11 := g11) h1) rfl rfl (Nat.le_of_ble_eq_true rfl) kNextStall_isStall (tb_in (i := 13) (j := 31) rfl rfl) (by decide) (by decide) rfl rfl rfl rfl rfl rfl rfl dX11_ahead_2 ?_
  refine r_if_eq 27 dX11_ahead_5 (by decide) (fun c2 => ?_) (fun c2 => ?_)
  · replace h := it_pos c2 h
    refine r_iconst (x := (-1 : Int32)) dX11_ahead_27 (by decide) ?_
    have hq := Option.some.inj h
    subst hq
    exact r_iret rfl dX11_ahead_28
  · replace h := it_neg c2 h
    refine r_iload_n 2 dX11_ahead_8 rfl ?_
    refine r_iconst (x := (0 : Int32)) dX11_ahead_9 (by decide) ?_
    refine r_bipush (x := (100 : Int32)) dX11_ahead_10 (by decide) ?_
    obtain ⟨q3, h3, h⟩ := bd_some h
    refine b_callS (isC := []) (st := []) (bs1 := ([bNextStallG K (a0 0) (fun j => some (f0_rules j 0)) f0_images ((a0 1) 0) ((a0 2) 0) ((a0 3) 0) ((a0 7) 0) ((a0 8) 0) g0, bTapeG K (a0 1) g1, bCursorG K (a0 2) g2, bWorldG K (a0 3) ((a0 4) 0) ((a0 5) 0) ((a0 6) 0) g3, bFairG K (a0 4) g4, bFairG K (a0 5) g5, bNotesG K (a0 6) g6, bPastG K (a0 7) f7_fairs g7, bTrialsG K (a0 8) ((a0 9) 0) ((a0 10) 0) ((a0 11) 0) g8, bFairG K (a0 9) g9, bOrderG K (a0 10) g10, bOrderG K (a0 11) g11] ++ (fam 6 (fun j => bRuleG K (f0_rules j) (p0_rules0 j)) ++ []))) (cNextStall_within   h3) rfl rfl (Nat.le_of_ble_eq_true rfl) kNextStall_within (tb_in (i := 13) (j := 17) rfl rfl) (by decide) (by decide) rfl rfl rfl dX11_ahead_12 ?_
    refine r_if_eq 27 dX11_ahead_15 (by decide) (fun c4 => ?_) (fun c4 => ?_)
    · replace h := it_pos c4 h
      refine r_iconst (x := (-1 : Int32)) dX11_ahead_27 (by decide) ?_
      have hq := Option.some.inj h
      subst hq
      exact r_iret rfl dX11_ahead_28
    · replace h := it_neg c4 h
      refine r_iload_n 3 dX11_ahead_18 rfl ?_
      refine r_iconst (x := (0 : Int32)) dX11_ahead_19 (by decide) ?_
      refine r_iconst (x := (2 : Int32)) dX11_ahead_20 (by decide) ?_
      obtain ⟨q5, h5, h⟩ := bd_some h
      refine b_callS (isC := []) (st := []) (bs1 := ([bNextStallG K (a0 0) (fun j => some (f0_rules j 0)) f0_images ((a0 1) 0) ((a0 2) 0) ((a0 3) 0) ((a0 7) 0) ((a0 8) 0) g0, bTapeG K (a0 1) g1, bCursorG K (a0 2) g2, bWorldG K (a0 3) ((a0 4) 0) ((a0 5) 0) ((a0 6) 0) g3, bFairG K (a0 4) g4, bFairG K (a0 5) g5, bNotesG K (a0 6) g6, bPastG K (a0 7) f7_fairs g7, bTrialsG K (a0 8) ((a0 9) 0) ((a0 10) 0) ((a0 11) 0) g8, bFairG K (a0 9) g9, bOrderG K (a0 10) g10, bOrderG K (a0 11) g11] ++ (fam 6 (fun j => bRuleG K (f0_rules j) (p0_rules0 j)) ++ []))) (cNextStall_within   h5) rfl rfl (Nat.le_of_ble_eq_true rfl) kNextStall_within (tb_in (i := 13) (j := 17) rfl rfl) (by decide) (by decide) rfl rfl rfl dX11_ahead_21 ?_
      refine r_if_ne 29 dX11_ahead_24 (by decide) (fun c6 => ?_) (fun c6 => ?_)
      · replace h := it_neg c6 h
        refine r_aload_n 0 dX11_ahead_29 rfl ?_
        refine gNextStall_trials 0 rfl (tb_in (i := 13) (j := 4) rfl rfl) dX11_ahead_30 ?_
        refine r_aload_n 0 dX11_ahead_33 rfl ?_
        refine gNextStall_world 0 rfl (tb_in (i := 12) (j := 26) rfl rfl) dX11_ahead_34 ?_
        refine gWorld_nowN 3 rfl (List.mem_of_getElem? (i := 55) rfl) dX11_ahead_37 ?_
        obtain ⟨q7, h7, h⟩ := bd_some h
        refine b_callVN (isC := [8, 9, 10, 11, 5]) (ci := 7)  (st := []) (bs1 := ([bNextStallG K (a0 0) (fun j => some (f0_rules j 0)) f0_images ((a0 1) 0) ((a0 2) 0) ((a0 3) 0) ((a0 7) 0) ((a0 8) 0) g0, bTapeG K (a0 1) g1, bCursorG K (a0 2) g2, bWorldG K (a0 3) ((a0 4) 0) ((a0 5) 0) ((a0 6) 0) g3, bFairG K (a0 4) g4, bFairG K (a0 5) g5, bNotesG K (a0 6) g6, bPastG K (a0 7) f7_fairs g7, bTrialsG K (a0 8) ((a0 9) 0) ((a0 10) 0) ((a0 11) 0) g8, bFairG K (a0 9) q7, bOrderG K (a0 10) g10, bOrderG K (a0 11) g11] ++ (fam 6 (fun j => bRuleG K (f0_rules j) (p0_rules0 j)) ++ []))) (cTrials_from (a0 := fun b => a0 (8 + b)) (a1 := (a0 5)) (g0 := g8) (g1 := g9) (g2 := g10) (g3 := g11) (g4 := g5) h7) rfl rfl (Nat.le_of_ble_eq_true rfl) kTrials_from (List.mem_of_getElem? (i := 52) rfl) (by decide) (by decide) rfl rfl rfl rfl rfl rfl rfl dX11_ahead_40 ?_
        refine r_astore (lv' := [(4, .ref ((a0 9) 0)), (0, .ref ((a0 0) 0)), (1, .int x1), (2, .int x2), (3, .int x3)]) dX11_ahead_43 (Nat.le_of_ble_eq_true rfl) rfl ?_
        refine r_aload 0 dX11_ahead_45 rfl ?_
        refine r_aload_n 1 dX11_ahead_47 rfl ?_
        obtain ⟨q8, h8, h⟩ := bd_some h
        refine b_callV (isC := ([0, 1, 2, 3, 4, 5, 6, 7, 8, 9, 10, 11] ++ (List.range' 12 6 ++ []))) (ci := 9)  (st := [.ref ((a0 9) 0)]) (bs1 := ([bNextStallG K (a0 0) (fun j => some (f0_rules j 0)) f0_images ((a0 1) 0) ((a0 2) 0) ((a0 3) 0) ((a0 7) 0) ((a0 8) 0) g0, bTapeG K (a0 1) g1, bCursorG K (a0 2) g2, bWorldG K (a0 3) ((a0 4) 0) ((a0 5) 0) ((a0 6) 0) g3, bFairG K (a0 4) g4, bFairG K (a0 5) g5, bNotesG K (a0 6) g6, bPastG K (a0 7) f7_fairs g7, bTrialsG K (a0 8) ((a0 9) 0) ((a0 10) 0) ((a0 11) 0) g8, bFairG K (a0 9) q7, bOrderG K (a0 10) g10, bOrderG K (a0 11) g11] ++ (fam 6 (fun j => bRuleG K (f0_rules j) (p0_rules0 j)) ++ []))) (cNextStall_ruleInForce (a0 := a0) (f0_rules := f0_rules) (g0 := g0) (g1 := g1) (g2 := g2) (g3 := g3) (g4 := g4) (g5 := g5) (g6 := g6) (g7 := g7) (g8 := g8) (g9 := q7) (g10 := g10) (g11 := g11) (p0_rules0 := p0_rules0) h8) rfl rfl (Nat.le_of_ble_eq_true rfl) kNextStall_ruleInForce (tb_in (i := 14) (j := 11) rfl rfl) (by decide) (by decide +kernel) (map_app rfl (map_app (map_f0 (n := 6) (l := [bNextStallG K (a0 0) (fun j => some (f0_rules j 0)) f0_images ((a0 1) 0) ((a0 2) 0) ((a0 3) 0) ((a0 7) 0) ((a0 8) 0) g0, bTapeG K (a0 1) g1, bCursorG K (a0 2) g2, bWorldG K (a0 3) ((a0 4) 0) ((a0 5) 0) ((a0 6) 0) g3, bFairG K (a0 4) g4, bFairG K (a0 5) g5, bNotesG K (a0 6) g6, bPastG K (a0 7) f7_fairs g7, bTrialsG K (a0 8) ((a0 9) 0) ((a0 10) 0) ((a0 11) 0) g8, bFairG K (a0 9) q7, bOrderG K (a0 10) g10, bOrderG K (a0 11) g11]) rfl) rfl)) (by simp only [List.length_append, fam_len, List.length_range', List.length_cons, List.length_nil]) (stm_a (bs1 := ([bNextStallG K (a0 0) (fun j => some (f0_rules j 0)) f0_images ((a0 1) 0) ((a0 2) 0) ((a0 3) 0) ((a0 7) 0) ((a0 8) 0) g0, bTapeG K (a0 1) g1, bCursorG K (a0 2) g2, bWorldG K (a0 3) ((a0 4) 0) ((a0 5) 0) ((a0 6) 0) g3, bFairG K (a0 4) g4, bFairG K (a0 5) g5, bNotesG K (a0 6) g6, bPastG K (a0 7) f7_fairs g7, bTrialsG K (a0 8) ((a0 9) 0) ((a0 10) 0) ((a0 11) 0) g8, bFairG K (a0 9) q7, bOrderG K (a0 10) g10, bOrderG K (a0 11) g11] ++ (fam 6 (fun j => bRuleG K (f0_rules j) (p0_rules0 j)) ++ []))) rfl rfl (stm_a (bs1 := ([bNextStallG K (a0 0) (fun j => some (f0_rules j 0)) f0_images ((a0 1) 0) ((a0 2) 0) ((a0 3) 0) ((a0 7) 0) ((a0 8) 0) g0, bTapeG K (a0 1) g1, bCursorG K (a0 2) g2, bWorldG K (a0 3) ((a0 4) 0) ((a0 5) 0) ((a0 6) 0) g3, bFairG K (a0 4) g4, bFairG K (a0 5) g5, bNotesG K (a0 6) g6, bPastG K (a0 7) f7_fairs g7, bTrialsG K (a0 8) ((a0 9) 0) ((a0 10) 0) ((a0 11) 0) g8, bFairG K (a0 9) q7, bOrderG K (a0 10) g10, bOrderG K (a0 11) g11] ++ (fam 6 (fun j => bRuleG K (f0_rules j) (p0_rules0 j)) ++ []))) (by rw [List.length_range', fam_len]) (stm_f0 (n := 6) (l := [bNextStallG K (a0 0) (fun j => some (f0_rules j 0)) f0_images ((a0 1) 0) ((a0 2) 0) ((a0 3) 0) ((a0 7) 0) ((a0 8) 0) g0, bTapeG K (a0 1) g1, bCursorG K (a0 2) g2, bWorldG K (a0 3) ((a0 4) 0) ((a0 5) 0) ((a0 6) 0) g3, bFairG K (a0 4) g4, bFairG K (a0 5) g5, bNotesG K (a0 6) g6, bPastG K (a0 7) f7_fairs g7, bTrialsG K (a0 8) ((a0 9) 0) ((a0 10) 0) ((a0 11) 0) g8, bFairG K (a0 9) q7, bOrderG K (a0 10) g10, bOrderG K (a0 11) g11]) rfl) rfl)) rfl rfl rfl rfl dX11_ahead_48 ?_
        cases q8 with
        | none =>
          replace h := mt_n h
          refine r_st (st' := [.null, .ref ((a0 9) 0)]) rfl ?_
          refine r_iload_n 3 dX11_ahead_51 rfl ?_
          refine r_iconst (x := (-1 : Int32)) dX11_ahead_52 (by decide) ?_
          obtain ⟨q9, h9, h⟩ := bd_some h
          refine b_callVN (isC := [9]) (ci := 1)  (st := []) (bs1 := ([bNextStallG K (a0 0) (fun j => some (f0_rules j 0)) f0_images ((a0 1) 0) ((a0 2) 0) ((a0 3) 0) ((a0 7) 0) ((a0 8) 0) g0, bTapeG K (a0 1) g1, bCursorG K (a0 2) g2, bWorldG K (a0 3) ((a0 4) 0) ((a0 5) 0) ((a0 6) 0) g3, bFairG K (a0 4) g4, bFairG K (a0 5) g5, bNotesG K (a0 6) g6, bPastG K (a0 7) f7_fairs g7, bTrialsG K (a0 8) ((a0 9) 0) ((a0 10) 0) ((a0 11) 0) g8, bFair K (a0 9) q7.1 q7.2.1 q7.2.2.1 q7.2.2.2.1 q9.2.1 q9.2.2.1 q7.2.2.2.2.2.2.1 q7.2.2.2.2.2.2.2.1 q9.2.2.2.1 q9.2.2.2.2.1 q9.2.2.2.2.2.1 q7.2.2.2.2.2.2.2.2.2.2.2.1 q7.2.2.2.2.2.2.2.2.2.2.2.2.1 q9.2.2.2.2.2.2.1 q7.2.2.2.2.2.2.2.2.2.2.2.2.2.2.1 q9.2.2.2.2.2.2.2 q7.2.2.2.2.2.2.2.2.2.2.2.2.2.2.2.2.1 q7.2.2.2.2.2.2.2.2.2.2.2.2.2.2.2.2.2.1 q7.2.2.2.2.2.2.2.2.2.2.2.2.2.2.2.2.2.2, bOrderG K (a0 10) g10, bOrderG K (a0 11) g11] ++ (fam 6 (fun j => bRuleG K (f0_rules j) (p0_rules0 j)) ++ []))) (cFair_gon (a0 := (a0 9)) (z0_lasts := q7.1) (z0_keeps := q7.2.1) (z0_stalls := q7.2.2.1) (z0_buyers := q7.2.2.2.1) (z0_minute := q7.2.2.2.2.1) (z0_goods := q7.2.2.2.2.2.1) (z0_price := q7.2.2.2.2.2.2.1) (z0_tongue := q7.2.2.2.2.2.2.2.1) (z0_till := q7.2.2.2.2.2.2.2.2.1) (z0_wealth := q7.2.2.2.2.2.2.2.2.2.1) (z0_sold := q7.2.2.2.2.2.2.2.2.2.2.1) (z0_ring := q7.2.2.2.2.2.2.2.2.2.2.2.1) (z0_grudges := q7.2.2.2.2.2.2.2.2.2.2.2.2.1) (z0_purse := q7.2.2.2.2.2.2.2.2.2.2.2.2.2.1) (z0_came := q7.2.2.2.2.2.2.2.2.2.2.2.2.2.2.1) (z0_had := q7.2.2.2.2.2.2.2.2.2.2.2.2.2.2.2.1) (z0_seller := q7.2.2.2.2.2.2.2.2.2.2.2.2.2.2.2.2.1) (z0_praise := q7.2.2.2.2.2.2.2.2.2.2.2.2.2.2.2.2.2.1) (z0_borne := q7.2.2.2.2.2.2.2.2.2.2.2.2.2.2.2.2.2.2) h9) rfl rfl (Nat.le_of_ble_eq_true rfl) kFair_gon (List.mem_of_getElem? (i := 46) rfl) (by decide) (by decide) rfl rfl rfl rfl rfl rfl rfl dX11_ahead_53 ?_
          refine r_pop dX11_ahead_56 rfl ?_
          refine r_iload_n 4 dX11_ahead_57 rfl ?_
          refine r_if_ne 69 dX11_ahead_58 (by decide) (fun c10 => ?_) (fun c10 => ?_)
          · replace h := it_neg c10 h
            refine r_iload_n 4 dX11_ahead_69 rfl ?_
            refine r_iconst (x := (1 : Int32)) dX11_ahead_70 (by decide) ?_
            refine r_icmp_ne 84 dX11_ahead_71 (by decide) (fun c11 => ?_) (fun c11 => ?_)
            · replace h := it_neg c11 h
              refine r_aload 0 dX11_ahead_84 rfl ?_
              refine gFair_wealthN 9 rfl (List.mem_of_getElem? (i := 33) rfl) dX11_ahead_86 ?_
              refine r_iload_n 2 dX11_ahead_89 rfl ?_
              obtain ⟨h12, h⟩ := rq_some h
              refine lFair_wealth 9 rfl (inb_in h12) dX11_ahead_90 ?_
              have hq := Option.some.inj h
              subst hq
              exact r_iret rfl dX11_ahead_91
            · replace h := it_pos c11 h
              refine r_aload 0 dX11_ahead_74 rfl ?_
              refine gFair_tillN 9 rfl (List.mem_of_getElem? (i := 30) rfl) dX11_ahead_76 ?_
              refine r_iload_n 2 dX11_ahead_79 rfl ?_
              obtain ⟨h13, h⟩ := rq_some h
              refine lFair_till 9 rfl (inb_in h13) dX11_ahead_80 ?_
              refine r_goto 91 dX11_ahead_81 (by decide) ?_
              have hq := Option.some.inj h
              subst hq
              exact r_iret rfl dX11_ahead_91
          · replace h := it_pos c10 h
            refine r_aload 0 dX11_ahead_61 rfl ?_
            refine gFair_goodsN 9 rfl (List.mem_of_getElem? (i := 24) rfl) dX11_ahead_63 ?_
            refine r_iload_n 2 dX11_ahead_66 rfl ?_
            obtain ⟨h14, h⟩ := rq_some h
            refine lFair_goods 9 rfl (inb_in h14) dX11_ahead_67 ?_
            have hq := Option.some.inj h
            subst hq
            exact r_iret rfl dX11_ahead_68
        | some j8 =>
          replace h := mt_s h
          obtain ⟨hg8, h⟩ := rq_some h
          have hj8 := of_decide_eq_true hg8
          refine r_st (st' := [.ref (f0_rules j8 0), .ref ((a0 9) 0)]) rfl ?_
          refine r_iload_n 3 dX11_ahead_51 rfl ?_
          refine r_iconst (x := (-1 : Int32)) dX11_ahead_52 (by decide) ?_
          obtain ⟨q15, h15, h⟩ := bd_some h
          refine b_callVN (isC := [9, 12 + j8]) (ci := 1)  (st := []) (bs1 := ([bNextStallG K (a0 0) (fun j => some (f0_rules j 0)) f0_images ((a0 1) 0) ((a0 2) 0) ((a0 3) 0) ((a0 7) 0) ((a0 8) 0) g0, bTapeG K (a0 1) g1, bCursorG K (a0 2) g2, bWorldG K (a0 3) ((a0 4) 0) ((a0 5) 0) ((a0 6) 0) g3, bFairG K (a0 4) g4, bFairG K (a0 5) g5, bNotesG K (a0 6) g6, bPastG K (a0 7) f7_fairs g7, bTrialsG K (a0 8) ((a0 9) 0) ((a0 10) 0) ((a0 11) 0) g8, bFair K (a0 9) q7.1 q7.2.1 q7.2.2.1 q7.2.2.2.1 q15.2.1 q15.2.2.1 q7.2.2.2.2.2.2.1 q7.2.2.2.2.2.2.2.1 q15.2.2.2.1 q15.2.2.2.2.1 q15.2.2.2.2.2.1 q7.2.2.2.2.2.2.2.2.2.2.2.1 q7.2.2.2.2.2.2.2.2.2.2.2.2.1 q15.2.2.2.2.2.2.1 q7.2.2.2.2.2.2.2.2.2.2.2.2.2.2.1 q15.2.2.2.2.2.2.2.1 q7.2.2.2.2.2.2.2.2.2.2.2.2.2.2.2.2.1 q7.2.2.2.2.2.2.2.2.2.2.2.2.2.2.2.2.2.1 q7.2.2.2.2.2.2.2.2.2.2.2.2.2.2.2.2.2.2, bOrderG K (a0 10) g10, bOrderG K (a0 11) g11] ++ (fam 6 (fun j => bRuleG K (f0_rules j) ((va_up p0_rules0 j8 ((p0_rules0 j8).1, (p0_rules0 j8).2.1, (p0_rules0 j8).2.2.1, (p0_rules0 j8).2.2.2.1, (p0_rules0 j8).2.2.2.2.1, (p0_rules0 j8).2.2.2.2.2.1, (p0_rules0 j8).2.2.2.2.2.2.1, (p0_rules0 j8).2.2.2.2.2.2.2.1, q15.2.2.2.2.2.2.2.2.1, q15.2.2.2.2.2.2.2.2.2)) j)) ++ []))) (cFair_gor (a0 := (a0 9)) (a1 := f0_rules j8) (z0_lasts := q7.1) (z0_keeps := q7.2.1) (z0_stalls := q7.2.2.1) (z0_buyers := q7.2.2.2.1) (z0_minute := q7.2.2.2.2.1) (z0_goods := q7.2.2.2.2.2.1) (z0_price := q7.2.2.2.2.2.2.1) (z0_tongue := q7.2.2.2.2.2.2.2.1) (z0_till := q7.2.2.2.2.2.2.2.2.1) (z0_wealth := q7.2.2.2.2.2.2.2.2.2.1) (z0_sold := q7.2.2.2.2.2.2.2.2.2.2.1) (z0_ring := q7.2.2.2.2.2.2.2.2.2.2.2.1) (z0_grudges := q7.2.2.2.2.2.2.2.2.2.2.2.2.1) (z0_purse := q7.2.2.2.2.2.2.2.2.2.2.2.2.2.1) (z0_came := q7.2.2.2.2.2.2.2.2.2.2.2.2.2.2.1) (z0_had := q7.2.2.2.2.2.2.2.2.2.2.2.2.2.2.2.1) (z0_seller := q7.2.2.2.2.2.2.2.2.2.2.2.2.2.2.2.2.1) (z0_praise := q7.2.2.2.2.2.2.2.2.2.2.2.2.2.2.2.2.2.1) (z0_borne := q7.2.2.2.2.2.2.2.2.2.2.2.2.2.2.2.2.2.2) (z1_steps := (p0_rules0 j8).1) (z1_size := (p0_rules0 j8).2.1) (z1_sumFrom := (p0_rules0 j8).2.2.1) (z1_testFrom := (p0_rules0 j8).2.2.2.1) (z1_testTo := (p0_rules0 j8).2.2.2.2.1) (z1_clauses := (p0_rules0 j8).2.2.2.2.2.1) (z1_parts := (p0_rules0 j8).2.2.2.2.2.2.1) (z1_readsTime := (p0_rules0 j8).2.2.2.2.2.2.2.1) (z1_words := (p0_rules0 j8).2.2.2.2.2.2.2.2.1) (z1_stack := (p0_rules0 j8).2.2.2.2.2.2.2.2.2) h15) rfl rfl (Nat.le_of_ble_eq_true rfl) kFair_gor (List.mem_of_getElem? (i := 46) rfl) (by decide) (by simp only [List.nodup_cons, List.mem_cons, List.not_mem_nil, or_false, not_or, List.nodup_nil, not_false_eq_true, and_true]; omega) (map_s (rfl) (map_s (fq0 (B := fun j g => bRuleG K (f0_rules j) g) (l := [bNextStallG K (a0 0) (fun j => some (f0_rules j 0)) f0_images ((a0 1) 0) ((a0 2) 0) ((a0 3) 0) ((a0 7) 0) ((a0 8) 0) g0, bTapeG K (a0 1) g1, bCursorG K (a0 2) g2, bWorldG K (a0 3) ((a0 4) 0) ((a0 5) 0) ((a0 6) 0) g3, bFairG K (a0 4) g4, bFairG K (a0 5) g5, bNotesG K (a0 6) g6, bPastG K (a0 7) f7_fairs g7, bTrialsG K (a0 8) ((a0 9) 0) ((a0 10) 0) ((a0 11) 0) g8, bFairG K (a0 9) q7, bOrderG K (a0 10) g10, bOrderG K (a0 11) g11]) rfl hj8) map_n)) rfl (stm_s (bs1 := ([bNextStallG K (a0 0) (fun j => some (f0_rules j 0)) f0_images ((a0 1) 0) ((a0 2) 0) ((a0 3) 0) ((a0 7) 0) ((a0 8) 0) g0, bTapeG K (a0 1) g1, bCursorG K (a0 2) g2, bWorldG K (a0 3) ((a0 4) 0) ((a0 5) 0) ((a0 6) 0) g3, bFairG K (a0 4) g4, bFairG K (a0 5) g5, bNotesG K (a0 6) g6, bPastG K (a0 7) f7_fairs g7, bTrialsG K (a0 8) ((a0 9) 0) ((a0 10) 0) ((a0 11) 0) g8, bFair K (a0 9) q7.1 q7.2.1 q7.2.2.1 q7.2.2.2.1 q15.2.1 q15.2.2.1 q7.2.2.2.2.2.2.1 q7.2.2.2.2.2.2.2.1 q15.2.2.2.1 q15.2.2.2.2.1 q15.2.2.2.2.2.1 q7.2.2.2.2.2.2.2.2.2.2.2.1 q7.2.2.2.2.2.2.2.2.2.2.2.2.1 q15.2.2.2.2.2.2.1 q7.2.2.2.2.2.2.2.2.2.2.2.2.2.2.1 q15.2.2.2.2.2.2.2.1 q7.2.2.2.2.2.2.2.2.2.2.2.2.2.2.2.2.1 q7.2.2.2.2.2.2.2.2.2.2.2.2.2.2.2.2.2.1 q7.2.2.2.2.2.2.2.2.2.2.2.2.2.2.2.2.2.2, bOrderG K (a0 10) g10, bOrderG K (a0 11) g11] ++ (fam 6 (fun j => bRuleG K (f0_rules j) (p0_rules0 j)) ++ []))) (rfl) (stm_s (bs1 := ([bNextStallG K (a0 0) (fun j => some (f0_rules j 0)) f0_images ((a0 1) 0) ((a0 2) 0) ((a0 3) 0) ((a0 7) 0) ((a0 8) 0) g0, bTapeG K (a0 1) g1, bCursorG K (a0 2) g2, bWorldG K (a0 3) ((a0 4) 0) ((a0 5) 0) ((a0 6) 0) g3, bFairG K (a0 4) g4, bFairG K (a0 5) g5, bNotesG K (a0 6) g6, bPastG K (a0 7) f7_fairs g7, bTrialsG K (a0 8) ((a0 9) 0) ((a0 10) 0) ((a0 11) 0) g8, bFair K (a0 9) q7.1 q7.2.1 q7.2.2.1 q7.2.2.2.1 q15.2.1 q15.2.2.1 q7.2.2.2.2.2.2.1 q7.2.2.2.2.2.2.2.1 q15.2.2.2.1 q15.2.2.2.2.1 q15.2.2.2.2.2.1 q7.2.2.2.2.2.2.2.2.2.2.2.1 q7.2.2.2.2.2.2.2.2.2.2.2.2.1 q15.2.2.2.2.2.2.1 q7.2.2.2.2.2.2.2.2.2.2.2.2.2.2.1 q15.2.2.2.2.2.2.2.1 q7.2.2.2.2.2.2.2.2.2.2.2.2.2.2.2.2.1 q7.2.2.2.2.2.2.2.2.2.2.2.2.2.2.2.2.2.1 q7.2.2.2.2.2.2.2.2.2.2.2.2.2.2.2.2.2.2, bOrderG K (a0 10) g10, bOrderG K (a0 11) g11] ++ (fam 6 (fun j => bRuleG K (f0_rules j) ((va_up p0_rules0 j8 ((p0_rules0 j8).1, (p0_rules0 j8).2.1, (p0_rules0 j8).2.2.1, (p0_rules0 j8).2.2.2.1, (p0_rules0 j8).2.2.2.2.1, (p0_rules0 j8).2.2.2.2.2.1, (p0_rules0 j8).2.2.2.2.2.2.1, (p0_rules0 j8).2.2.2.2.2.2.2.1, q15.2.2.2.2.2.2.2.2.1, q15.2.2.2.2.2.2.2.2.2)) j)) ++ []))) (fs0 (B := fun j g => bRuleG K (f0_rules j) g) (g := ((p0_rules0 j8).1, (p0_rules0 j8).2.1, (p0_rules0 j8).2.2.1, (p0_rules0 j8).2.2.2.1, (p0_rules0 j8).2.2.2.2.1, (p0_rules0 j8).2.2.2.2.2.1, (p0_rules0 j8).2.2.2.2.2.2.1, (p0_rules0 j8).2.2.2.2.2.2.2.1, q15.2.2.2.2.2.2.2.2.1, q15.2.2.2.2.2.2.2.2.2)) (l := [bNextStallG K (a0 0) (fun j => some (f0_rules j 0)) f0_images ((a0 1) 0) ((a0 2) 0) ((a0 3) 0) ((a0 7) 0) ((a0 8) 0) g0, bTapeG K (a0 1) g1, bCursorG K (a0 2) g2, bWorldG K (a0 3) ((a0 4) 0) ((a0 5) 0) ((a0 6) 0) g3, bFairG K (a0 4) g4, bFairG K (a0 5) g5, bNotesG K (a0 6) g6, bPastG K (a0 7) f7_fairs g7, bTrialsG K (a0 8) ((a0 9) 0) ((a0 10) 0) ((a0 11) 0) g8, bFair K (a0 9) q7.1 q7.2.1 q7.2.2.1 q7.2.2.2.1 q15.2.1 q15.2.2.1 q7.2.2.2.2.2.2.1 q7.2.2.2.2.2.2.2.1 q15.2.2.2.1 q15.2.2.2.2.1 q15.2.2.2.2.2.1 q7.2.2.2.2.2.2.2.2.2.2.2.1 q7.2.2.2.2.2.2.2.2.2.2.2.2.1 q15.2.2.2.2.2.2.1 q7.2.2.2.2.2.2.2.2.2.2.2.2.2.2.1 q15.2.2.2.2.2.2.2.1 q7.2.2.2.2.2.2.2.2.2.2.2.2.2.2.2.2.1 q7.2.2.2.2.2.2.2.2.2.2.2.2.2.2.2.2.2.1 q7.2.2.2.2.2.2.2.2.2.2.2.2.2.2.2.2.2.2, bOrderG K (a0 10) g10, bOrderG K (a0 11) g11]) rfl hj8) stm_n)) rfl rfl rfl rfl dX11_ahead_53 ?_
          refine r_pop dX11_ahead_56 rfl ?_
          refine r_iload_n 4 dX11_ahead_57 rfl ?_
          refine r_if_ne 69 dX11_ahead_58 (by decide) (fun c16 => ?_) (fun c16 => ?_)
          · replace h := it_neg c16 h
            refine r_iload_n 4 dX11_ahead_69 rfl ?_
            refine r_iconst (x := (1 : Int32)) dX11_ahead_70 (by decide) ?_
            refine r_icmp_ne 84 dX11_ahead_71 (by decide) (fun c17 => ?_) (fun c17 => ?_)
            · replace h := it_neg c17 h
              refine r_aload 0 dX11_ahead_84 rfl ?_
              refine gFair_wealthN 9 rfl (List.mem_of_getElem? (i := 33) rfl) dX11_ahead_86 ?_
              refine r_iload_n 2 dX11_ahead_89 rfl ?_
              obtain ⟨h18, h⟩ := rq_some h
              refine lFair_wealth 9 rfl (inb_in h18) dX11_ahead_90 ?_
              have hq := Option.some.inj h
              subst hq
              exact r_iret rfl dX11_ahead_91
            · replace h := it_pos c17 h
              refine r_aload 0 dX11_ahead_74 rfl ?_
              refine gFair_tillN 9 rfl (List.mem_of_getElem? (i := 30) rfl) dX11_ahead_76 ?_
              refine r_iload_n 2 dX11_ahead_79 rfl ?_
              obtain ⟨h19, h⟩ := rq_some h
              refine lFair_till 9 rfl (inb_in h19) dX11_ahead_80 ?_
              refine r_goto 91 dX11_ahead_81 (by decide) ?_
              have hq := Option.some.inj h
              subst hq
              exact r_iret rfl dX11_ahead_91
          · replace h := it_pos c16 h
            refine r_aload 0 dX11_ahead_61 rfl ?_
            refine gFair_goodsN 9 rfl (List.mem_of_getElem? (i := 24) rfl) dX11_ahead_63 ?_
            refine r_iload_n 2 dX11_ahead_66 rfl ?_
            obtain ⟨h20, h⟩ := rq_some h
            refine lFair_goods 9 rfl (inb_in h20) dX11_ahead_67 ?_
            have hq := Option.some.inj h
            subst hq
            exact r_iret rfl dX11_ahead_68
      · replace h := it_pos c6 h
        refine r_iconst (x := (-1 : Int32)) dX11_ahead_27 (by decide) ?_
        have hq := Option.some.inj h
        subst hq
        exact r_iret rfl dX11_ahead_28
end
theorem dX11_out_0 : decode cX11_out 0 = .ok (.aload_n 0, 1) := by decide +kernel
theorem dX11_out_1 : decode cX11_out 1 = .ok (.iload_n 1, 1) := by decide +kernel
theorem dX11_out_2 : decode cX11_out 2 = .ok (.invokevirtual 115, 3) := by decide +kernel
theorem dX11_out_5 : decode cX11_out 5 = .ok (.ifCond .ne 5, 3) := by decide +kernel
theorem dX11_out_8 : decode cX11_out 8 = .ok (.iconst (-1), 1) := by decide +kernel
theorem dX11_out_9 : decode cX11_out 9 = .ok (.ireturn, 1) := by decide +kernel
theorem dX11_out_10 : decode cX11_out 10 = .ok (.aload_n 0, 1) := by decide +kernel
theorem dX11_out_11 : decode cX11_out 11 = .ok (.getfield 58, 3) := by decide +kernel
theorem dX11_out_14 : decode cX11_out 14 = .ok (.aload_n 0, 1) := by decide +kernel
theorem dX11_out_15 : decode cX11_out 15 = .ok (.getfield 36, 3) := by decide +kernel
theorem dX11_out_18 : decode cX11_out 18 = .ok (.getfield 119, 3) := by decide +kernel
theorem dX11_out_21 : decode cX11_out 21 = .ok (.invokevirtual 208, 3) := by decide +kernel
theorem dX11_out_24 : decode cX11_out 24 = .ok (.astore_n 2, 1) := by decide +kernel
theorem dX11_out_25 : decode cX11_out 25 = .ok (.iconst 0, 1) := by decide +kernel
theorem dX11_out_26 : decode cX11_out 26 = .ok (.istore_n 3, 1) := by decide +kernel
theorem dX11_out_27 : decode cX11_out 27 = .ok (.iload_n 3, 1) := by decide +kernel
theorem dX11_out_28 : decode cX11_out 28 = .ok (.sipush 200, 3) := by decide +kernel
theorem dX11_out_31 : decode cX11_out 31 = .ok (.if_icmp .ge 34, 3) := by decide +kernel
theorem dX11_out_34 : decode cX11_out 34 = .ok (.aload_n 2, 1) := by decide +kernel
theorem dX11_out_35 : decode cX11_out 35 = .ok (.getfield 122, 3) := by decide +kernel
theorem dX11_out_38 : decode cX11_out 38 = .ok (.iload_n 1, 1) := by decide +kernel
theorem dX11_out_39 : decode cX11_out 39 = .ok (.iaload, 1) := by decide +kernel
theorem dX11_out_40 : decode cX11_out 40 = .ok (.ifCond .ne 8, 3) := by decide +kernel
theorem dX11_out_43 : decode cX11_out 43 = .ok (.aload_n 2, 1) := by decide +kernel
theorem dX11_out_44 : decode cX11_out 44 = .ok (.getfield 170, 3) := by decide +kernel
theorem dX11_out_47 : decode cX11_out 47 = .ok (.ireturn, 1) := by decide +kernel
theorem dX11_out_48 : decode cX11_out 48 = .ok (.aload_n 2, 1) := by decide +kernel
theorem dX11_out_49 : decode cX11_out 49 = .ok (.aload_n 0, 1) := by decide +kernel
theorem dX11_out_50 : decode cX11_out 50 = .ok (.invokevirtual 176, 3) := by decide +kernel
theorem dX11_out_53 : decode cX11_out 53 = .ok (.iconst 1, 1) := by decide +kernel
theorem dX11_out_54 : decode cX11_out 54 = .ok (.iconst (-1), 1) := by decide +kernel
theorem dX11_out_55 : decode cX11_out 55 = .ok (.invokevirtual 180, 3) := by decide +kernel
theorem dX11_out_58 : decode cX11_out 58 = .ok (.pop, 1) := by decide +kernel
theorem dX11_out_59 : decode cX11_out 59 = .ok (.iinc 3 1, 3) := by decide +kernel
theorem dX11_out_62 : decode cX11_out 62 = .ok (.goto (-35), 3) := by decide +kernel
theorem dX11_out_65 : decode cX11_out 65 = .ok (.bipush (-2), 2) := by decide +kernel
theorem dX11_out_67 : decode cX11_out 67 = .ok (.ireturn, 1) := by decide +kernel
abbrev MNextStall_out : rx_M := (RX11, yX11_out, cX11_out, 4, (some .int), 6)
theorem kNextStall_out : rKv MNextStall_out 1 := ⟨tb_in (i := 33) (j := 11) rfl rfl, tb_in (i := 33) (j := 12) rfl rfl, tb_in (i := 2) (j := 22) rfl rfl, tb_in (i := 14) (j := 28) rfl rfl, ⟨by decide, by decide, by decide +kernel⟩, by decide⟩
section
variable {a0 : Nat → Nat → Nat} {g0 : tyNextStall} {g1 : tyTape} {g2 : tyCursor} {g3 : tyWorld} {g4 : tyFair} {g5 : tyFair} {g6 : tyNotes} {g7 : tyPast} {g8 : tyTrials} {g9 : tyFair} {g10 : tyOrder} {g11 : tyOrder} {f0_rules : Nat → Nat → Nat} {f0_images : Nat → Option Nat} {f7_fairs : Nat → Option Nat} {p0_rules0 : Nat → tyRule}
def mNextStall_out_l27 (g0 : tyNextStall) (g3 : tyWorld) (g5 : tyFair) (x1 : Int32) : Nat → Int32 → tyFair → (Nat → tyRule) → Option (Int32 × tyFair × (Nat → tyRule))
  | 0, _, _, _ => none
  | n + 1, x3, g9, p0_rules0 => (if (200 : Int32) ≤ x3 then some ((-2 : Int32), g9, p0_rules0) else rq (inb x1 6) ((if (g9.2.2.2.2.2.1 x1.toNatClampNeg) = 0 then some (g9.2.2.2.2.1, g9, p0_rules0) else (mNextStall_ruleInForce g0 g3).bind (fun q7 => mt q7 ((mFair_gon (1 : Int32) (-1 : Int32) g9.1 g9.2.1 g9.2.2.1 g9.2.2.2.1 g9.2.2.2.2.1 g9.2.2.2.2.2.1 g9.2.2.2.2.2.2.1 g9.2.2.2.2.2.2.2.2.1 g9.2.2.2.2.2.2.2.2.2.1 g9.2.2.2.2.2.2.2.2.2.2.1 g9.2.2.2.2.2.2.2.2.2.2.2.2.2.1 g9.2.2.2.2.2.2.2.2.2.2.2.2.2.2.1 g9.2.2.2.2.2.2.2.2.2.2.2.2.2.2.2.1 g9.2.2.2.2.2.2.2.2.2.2.2.2.2.2.2.2.1 g9.2.2.2.2.2.2.2.2.2.2.2.2.2.2.2.2.2.1).bind (fun q8 => mNextStall_out_l27 g0 g3 g5 x1 n (x3 + (1 : Int32)) (g9.1, g9.2.1, g9.2.2.1, g9.2.2.2.1, q8.2.1, q8.2.2.1, g9.2.2.2.2.2.2.1, g9.2.2.2.2.2.2.2.1, q8.2.2.2.1, q8.2.2.2.2.1, q8.2.2.2.2.2.1, g9.2.2.2.2.2.2.2.2.2.2.2.1, g9.2.2.2.2.2.2.2.2.2.2.2.2.1, q8.2.2.2.2.2.2.1, g9.2.2.2.2.2.2.2.2.2.2.2.2.2.2.1, q8.2.2.2.2.2.2.2, g9.2.2.2.2.2.2.2.2.2.2.2.2.2.2.2.2.1, g9.2.2.2.2.2.2.2.2.2.2.2.2.2.2.2.2.2.1, g9.2.2.2.2.2.2.2.2.2.2.2.2.2.2.2.2.2.2) p0_rules0)) (fun j7 => rq (decide (j7 < 6)) ((mFair_gor (1 : Int32) (-1 : Int32) g9.1 g9.2.1 g9.2.2.1 g9.2.2.2.1 g9.2.2.2.2.1 g9.2.2.2.2.2.1 g9.2.2.2.2.2.2.1 g9.2.2.2.2.2.2.2.2.1 g9.2.2.2.2.2.2.2.2.2.1 g9.2.2.2.2.2.2.2.2.2.2.1 g9.2.2.2.2.2.2.2.2.2.2.2.2.2.1 g9.2.2.2.2.2.2.2.2.2.2.2.2.2.2.1 g9.2.2.2.2.2.2.2.2.2.2.2.2.2.2.2.1 g9.2.2.2.2.2.2.2.2.2.2.2.2.2.2.2.2.1 g9.2.2.2.2.2.2.2.2.2.2.2.2.2.2.2.2.2.1 g9.2.2.2.2.2.2.2.2.2.2.2.2.2.2.2.2.2.2 ((p0_rules0 j7).1) ((p0_rules0 j7).2.1) ((p0_rules0 j7).2.2.1) ((p0_rules0 j7).2.2.2.1) ((p0_rules0 j7).2.2.2.2.1) ((p0_rules0 j7).2.2.2.2.2.1) ((p0_rules0 j7).2.2.2.2.2.2.2.1) ((p0_rules0 j7).2.2.2.2.2.2.2.2.1) ((p0_rules0 j7).2.2.2.2.2.2.2.2.2)).bind (fun q9 => mNextStall_out_l27 g0 g3 g5 x1 n (x3 + (1 : Int32)) (g9.1, g9.2.1, g9.2.2.1, g9.2.2.2.1, q9.2.1, q9.2.2.1, g9.2.2.2.2.2.2.1, g9.2.2.2.2.2.2.2.1, q9.2.2.2.1, q9.2.2.2.2.1, q9.2.2.2.2.2.1, g9.2.2.2.2.2.2.2.2.2.2.2.1, g9.2.2.2.2.2.2.2.2.2.2.2.2.1, q9.2.2.2.2.2.2.1, g9.2.2.2.2.2.2.2.2.2.2.2.2.2.2.1, q9.2.2.2.2.2.2.2.1, g9.2.2.2.2.2.2.2.2.2.2.2.2.2.2.2.2.1, g9.2.2.2.2.2.2.2.2.2.2.2.2.2.2.2.2.2.1, g9.2.2.2.2.2.2.2.2.2.2.2.2.2.2.2.2.2.2) (va_up p0_rules0 j7 ((p0_rules0 j7).1, (p0_rules0 j7).2.1, (p0_rules0 j7).2.2.1, (p0_rules0 j7).2.2.2.1, (p0_rules0 j7).2.2.2.2.1, (p0_rules0 j7).2.2.2.2.2.1, (p0_rules0 j7).2.2.2.2.2.2.1, (p0_rules0 j7).2.2.2.2.2.2.2.1, q9.2.2.2.2.2.2.2.2.1, q9.2.2.2.2.2.2.2.2.2)))))))))
set_option maxHeartbeats 4000000 in
set_option maxRecDepth 20000 in
theorem cNextStall_out_l27 {q : Int32 × tyFair × (Nat → tyRule)} {x1 : Int32}  : ∀ (n : Nat) (x3 : Int32) (g9 : tyFair) (p0_rules0 : Nat → tyRule), mNextStall_out_l27 g0 g3 g5 x1 n x3 g9 p0_rules0 = some q → rW l D Z (ty7 K) MNextStall_out 27 [(0, .ref ((a0 0) 0)), (1, .int x1), (2, .ref ((a0 9) 0)), (3, .int x3)] [] (List.flatten ([bNextStallG K (a0 0) (fun j => some (f0_rules j 0)) f0_images ((a0 1) 0) ((a0 2) 0) ((a0 3) 0) ((a0 7) 0) ((a0 8) 0) g0, bTapeG K (a0 1) g1, bCursorG K (a0 2) g2, bWorldG K (a0 3) ((a0 4) 0) ((a0 5) 0) ((a0 6) 0) g3, bFairG K (a0 4) g4, bFairG K (a0 5) g5, bNotesG K (a0 6) g6, bPastG K (a0 7) f7_fairs g7, bTrialsG K (a0 8) ((a0 9) 0) ((a0 10) 0) ((a0 11) 0) g8, bFairG K (a0 9) g9, bOrderG K (a0 10) g10, bOrderG K (a0 11) g11] ++ (fam 6 (fun j => bRuleG K (f0_rules j) (p0_rules0 j)) ++ []))) (List.flatten ([bNextStallG K (a0 0) (fun j => some (f0_rules j 0)) f0_images ((a0 1) 0) ((a0 2) 0) ((a0 3) 0) ((a0 7) 0) ((a0 8) 0) g0, bTapeG K (a0 1) g1, bCursorG K (a0 2) g2, bWorldG K (a0 3) ((a0 4) 0) ((a0 5) 0) ((a0 6) 0) g3, bFairG K (a0 4) g4, bFairG K (a0 5) g5, bNotesG K (a0 6) g6, bPastG K (a0 7) f7_fairs g7, bTrialsG K (a0 8) ((a0 9) 0) ((a0 10) 0) ((a0 11) 0) g8, bFairG K (a0 9) q.2.1, bOrderG K (a0 10) g10, bOrderG K (a0 11) g11] ++ (fam 6 (fun j => bRuleG K (f0_rules j) (q.2.2 j)) ++ []))) (some (.int q.1)) := by
  intro n
  induction n with
  | zero => intro x3 g9 p0_rules0 h; unfold mNextStall_out_l27 at h; cases h
  | succ n ih =>
    intro x3 g9 p0_rules0 h
    unfold mNextStall_out_l27 at h
    refine r_iload_n 3 dX11_out_27 rfl ?_
    refine r_sipush (x := (200 : Int32)) dX11_out_28 (by decide) ?_
    refine r_icmp_ge 65 dX11_out_31 (by decide) (fun c4 => ?_) (fun c4 => ?_)
    · replace h := it_pos c4 h
      refine r_bipush (x := (-2 : Int32)) dX11_out_65 (by decide) ?_
      have hq := Option.some.inj h
      subst hq
      exact r_iret rfl dX11_out_67
    · replace h := it_neg c4 h
      refine r_aload_n 2 dX11_out_34 rfl ?_
      refine gFair_goodsN 9 rfl (List.mem_of_getElem? (i := 24) rfl) dX11_out_35 ?_
      refine r_iload_n 1 dX11_out_38 rfl ?_
      obtain ⟨h5, h⟩ := rq_some h
      refine lFair_goods 9 rfl (inb_in h5) dX11_out_39 ?_
      refine r_if_ne 48 dX11_out_40 (by decide) (fun c6 => ?_) (fun c6 => ?_)
      · replace h := it_neg c6 h
        refine r_aload_n 2 dX11_out_48 rfl ?_
        refine r_aload_n 0 dX11_out_49 rfl ?_
        obtain ⟨q7, h7, h⟩ := bd_some h
        refine b_callV (isC := ([0, 1, 2, 3, 4, 5, 6, 7, 8, 9, 10, 11] ++ (List.range' 12 6 ++ []))) (ci := 9)  (st := [.ref ((a0 9) 0)]) (bs1 := ([bNextStallG K (a0 0) (fun j => some (f0_rules j 0)) f0_images ((a0 1) 0) ((a0 2) 0) ((a0 3) 0) ((a0 7) 0) ((a0 8) 0) g0, bTapeG K (a0 1) g1, bCursorG K (a0 2) g2, bWorldG K (a0 3) ((a0 4) 0) ((a0 5) 0) ((a0 6) 0) g3, bFairG K (a0 4) g4, bFairG K (a0 5) g5, bNotesG K (a0 6) g6, bPastG K (a0 7) f7_fairs g7, bTrialsG K (a0 8) ((a0 9) 0) ((a0 10) 0) ((a0 11) 0) g8, bFairG K (a0 9) g9, bOrderG K (a0 10) g10, bOrderG K (a0 11) g11] ++ (fam 6 (fun j => bRuleG K (f0_rules j) (p0_rules0 j)) ++ []))) (cNextStall_ruleInForce (a0 := a0) (f0_rules := f0_rules) (g0 := g0) (g1 := g1) (g2 := g2) (g3 := g3) (g4 := g4) (g5 := g5) (g6 := g6) (g7 := g7) (g8 := g8) (g9 := g9) (g10 := g10) (g11 := g11) (p0_rules0 := p0_rules0) h7) rfl rfl (Nat.le_of_ble_eq_true rfl) kNextStall_ruleInForce (tb_in (i := 14) (j := 11) rfl rfl) (by decide) (by decide +kernel) (map_app rfl (map_app (map_f0 (n := 6) (l := [bNextStallG K (a0 0) (fun j => some (f0_rules j 0)) f0_images ((a0 1) 0) ((a0 2) 0) ((a0 3) 0) ((a0 7) 0) ((a0 8) 0) g0, bTapeG K (a0 1) g1, bCursorG K (a0 2) g2, bWorldG K (a0 3) ((a0 4) 0) ((a0 5) 0) ((a0 6) 0) g3, bFairG K (a0 4) g4, bFairG K (a0 5) g5, bNotesG K (a0 6) g6, bPastG K (a0 7) f7_fairs g7, bTrialsG K (a0 8) ((a0 9) 0) ((a0 10) 0) ((a0 11) 0) g8, bFairG K (a0 9) g9, bOrderG K (a0 10) g10, bOrderG K (a0 11) g11]) rfl) rfl)) (by simp only [List.length_append, fam_len, List.length_range', List.length_cons, List.length_nil]) (stm_a (bs1 := ([bNextStallG K (a0 0) (fun j => some (f0_rules j 0)) f0_images ((a0 1) 0) ((a0 2) 0) ((a0 3) 0) ((a0 7) 0) ((a0 8) 0) g0, bTapeG K (a0 1) g1, bCursorG K (a0 2) g2, bWorldG K (a0 3) ((a0 4) 0) ((a0 5) 0) ((a0 6) 0) g3, bFairG K (a0 4) g4, bFairG K (a0 5) g5, bNotesG K (a0 6) g6, bPastG K (a0 7) f7_fairs g7, bTrialsG K (a0 8) ((a0 9) 0) ((a0 10) 0) ((a0 11) 0) g8, bFairG K (a0 9) g9, bOrderG K (a0 10) g10, bOrderG K (a0 11) g11] ++ (fam 6 (fun j => bRuleG K (f0_rules j) (p0_rules0 j)) ++ []))) rfl rfl (stm_a (bs1 := ([bNextStallG K (a0 0) (fun j => some (f0_rules j 0)) f0_images ((a0 1) 0) ((a0 2) 0) ((a0 3) 0) ((a0 7) 0) ((a0 8) 0) g0, bTapeG K (a0 1) g1, bCursorG K (a0 2) g2, bWorldG K (a0 3) ((a0 4) 0) ((a0 5) 0) ((a0 6) 0) g3, bFairG K (a0 4) g4, bFairG K (a0 5) g5, bNotesG K (a0 6) g6, bPastG K (a0 7) f7_fairs g7, bTrialsG K (a0 8) ((a0 9) 0) ((a0 10) 0) ((a0 11) 0) g8, bFairG K (a0 9) g9, bOrderG K (a0 10) g10, bOrderG K (a0 11) g11] ++ (fam 6 (fun j => bRuleG K (f0_rules j) (p0_rules0 j)) ++ []))) (by rw [List.length_range', fam_len]) (stm_f0 (n := 6) (l := [bNextStallG K (a0 0) (fun j => some (f0_rules j 0)) f0_images ((a0 1) 0) ((a0 2) 0) ((a0 3) 0) ((a0 7) 0) ((a0 8) 0) g0, bTapeG K (a0 1) g1, bCursorG K (a0 2) g2, bWorldG K (a0 3) ((a0 4) 0) ((a0 5) 0) ((a0 6) 0) g3, bFairG K (a0 4) g4, bFairG K (a0 5) g5, bNotesG K (a0 6) g6, bPastG K (a0 7) f7_fairs g7, bTrialsG K (a0 8) ((a0 9) 0) ((a0 10) 0) ((a0 11) 0) g8, bFairG K (a0 9) g9, bOrderG K (a0 10) g10, bOrderG K (a0 11) g11]) rfl) rfl)) rfl rfl rfl rfl dX11_out_50 ?_
        cases q7 with
        | none =>
          replace h := mt_n h
          refine r_st (st' := [.null, .ref ((a0 9) 0)]) rfl ?_
          refine r_iconst (x := (1 : Int32)) dX11_out_53 (by decide) ?_
          refine r_iconst (x := (-1 : Int32)) dX11_out_54 (by decide) ?_
          obtain ⟨q8, h8, h⟩ := bd_some h
          refine b_callVN (isC := [9]) (ci := 1)  (st := []) (bs1 := ([bNextStallG K (a0 0) (fun j => some (f0_rules j 0)) f0_images ((a0 1) 0) ((a0 2) 0) ((a0 3) 0) ((a0 7) 0) ((a0 8) 0) g0, bTapeG K (a0 1) g1, bCursorG K (a0 2) g2, bWorldG K (a0 3) ((a0 4) 0) ((a0 5) 0) ((a0 6) 0) g3, bFairG K (a0 4) g4, bFairG K (a0 5) g5, bNotesG K (a0 6) g6, bPastG K (a0 7) f7_fairs g7, bTrialsG K (a0 8) ((a0 9) 0) ((a0 10) 0) ((a0 11) 0) g8, bFair K (a0 9) g9.1 g9.2.1 g9.2.2.1 g9.2.2.2.1 q8.2.1 q8.2.2.1 g9.2.2.2.2.2.2.1 g9.2.2.2.2.2.2.2.1 q8.2.2.2.1 q8.2.2.2.2.1 q8.2.2.2.2.2.1 g9.2.2.2.2.2.2.2.2.2.2.2.1 g9.2.2.2.2.2.2.2.2.2.2.2.2.1 q8.2.2.2.2.2.2.1 g9.2.2.2.2.2.2.2.2.2.2.2.2.2.2.1 q8.2.2.2.2.2.2.2 g9.2.2.2.2.2.2.2.2.2.2.2.2.2.2.2.2.1 g9.2.2.2.2.2.2.2.2.2.2.2.2.2.2.2.2.2.1 g9.2.2.2.2.2.2.2.2.2.2.2.2.2.2.2.2.2.2, bOrderG K (a0 10) g10, bOrderG K (a0 11) g11] ++ (fam 6 (fun j => bRuleG K (f0_rules j) (p0_rules0 j)) ++ []))) (cFair_gon (a0 := (a0 9)) (z0_lasts := g9.1) (z0_keeps := g9.2.1) (z0_stalls := g9.2.2.1) (z0_buyers := g9.2.2.2.1) (z0_minute := g9.2.2.2.2.1) (z0_goods := g9.2.2.2.2.2.1) (z0_price := g9.2.2.2.2.2.2.1) (z0_tongue := g9.2.2.2.2.2.2.2.1) (z0_till := g9.2.2.2.2.2.2.2.2.1) (z0_wealth := g9.2.2.2.2.2.2.2.2.2.1) (z0_sold := g9.2.2.2.2.2.2.2.2.2.2.1) (z0_ring := g9.2.2.2.2.2.2.2.2.2.2.2.1) (z0_grudges := g9.2.2.2.2.2.2.2.2.2.2.2.2.1) (z0_purse := g9.2.2.2.2.2.2.2.2.2.2.2.2.2.1) (z0_came := g9.2.2.2.2.2.2.2.2.2.2.2.2.2.2.1) (z0_had := g9.2.2.2.2.2.2.2.2.2.2.2.2.2.2.2.1) (z0_seller := g9.2.2.2.2.2.2.2.2.2.2.2.2.2.2.2.2.1) (z0_praise := g9.2.2.2.2.2.2.2.2.2.2.2.2.2.2.2.2.2.1) (z0_borne := g9.2.2.2.2.2.2.2.2.2.2.2.2.2.2.2.2.2.2) h8) rfl rfl (Nat.le_of_ble_eq_true rfl) kFair_gon (List.mem_of_getElem? (i := 46) rfl) (by decide) (by decide) rfl rfl rfl rfl rfl rfl rfl dX11_out_55 ?_
          refine r_pop dX11_out_58 rfl ?_
          refine r_iinc (y := (x3 + (1 : Int32))) (lv' := [(3, .int (x3 + (1 : Int32))), (0, .ref ((a0 0) 0)), (1, .int x1), (2, .ref ((a0 9) 0))]) 3 dX11_out_59 rfl rfl (Nat.le_of_ble_eq_true rfl) rfl ?_
          refine r_goto 27 dX11_out_62 (by decide) ?_
          refine r_sub (lv' := [(0, .ref ((a0 0) 0)), (1, .int x1), (2, .ref ((a0 9) 0)), (3, .int (x3 + (1 : Int32)))]) [1, 2, 3, 0] rfl ?_
          exact ih (x3 + (1 : Int32)) (g9.1, g9.2.1, g9.2.2.1, g9.2.2.2.1, q8.2.1, q8.2.2.1, g9.2.2.2.2.2.2.1, g9.2.2.2.2.2.2.2.1, q8.2.2.2.1, q8.2.2.2.2.1, q8.2.2.2.2.2.1, g9.2.2.2.2.2.2.2.2.2.2.2.1, g9.2.2.2.2.2.2.2.2.2.2.2.2.1, q8.2.2.2.2.2.2.1, g9.2.2.2.2.2.2.2.2.2.2.2.2.2.2.1, q8.2.2.2.2.2.2.2, g9.2.2.2.2.2.2.2.2.2.2.2.2.2.2.2.2.1, g9.2.2.2.2.2.2.2.2.2.2.2.2.2.2.2.2.2.1, g9.2.2.2.2.2.2.2.2.2.2.2.2.2.2.2.2.2.2) p0_rules0 h
        | some j7 =>
          replace h := mt_s h
          obtain ⟨hg7, h⟩ := rq_some h
          have hj7 := of_decide_eq_true hg7
          refine r_st (st' := [.ref (f0_rules j7 0), .ref ((a0 9) 0)]) rfl ?_
          refine r_iconst (x := (1 : Int32)) dX11_out_53 (by decide) ?_
          refine r_iconst (x := (-1 : Int32)) dX11_out_54 (by decide) ?_
          obtain ⟨q9, h9, h⟩ := bd_some h
          refine b_callVN (isC := [9, 12 + j7]) (ci := 1)  (st := []) (bs1 := ([bNextStallG K (a0 0) (fun j => some (f0_rules j 0)) f0_images ((a0 1) 0) ((a0 2) 0) ((a0 3) 0) ((a0 7) 0) ((a0 8) 0) g0, bTapeG K (a0 1) g1, bCursorG K (a0 2) g2, bWorldG K (a0 3) ((a0 4) 0) ((a0 5) 0) ((a0 6) 0) g3, bFairG K (a0 4) g4, bFairG K (a0 5) g5, bNotesG K (a0 6) g6, bPastG K (a0 7) f7_fairs g7, bTrialsG K (a0 8) ((a0 9) 0) ((a0 10) 0) ((a0 11) 0) g8, bFair K (a0 9) g9.1 g9.2.1 g9.2.2.1 g9.2.2.2.1 q9.2.1 q9.2.2.1 g9.2.2.2.2.2.2.1 g9.2.2.2.2.2.2.2.1 q9.2.2.2.1 q9.2.2.2.2.1 q9.2.2.2.2.2.1 g9.2.2.2.2.2.2.2.2.2.2.2.1 g9.2.2.2.2.2.2.2.2.2.2.2.2.1 q9.2.2.2.2.2.2.1 g9.2.2.2.2.2.2.2.2.2.2.2.2.2.2.1 q9.2.2.2.2.2.2.2.1 g9.2.2.2.2.2.2.2.2.2.2.2.2.2.2.2.2.1 g9.2.2.2.2.2.2.2.2.2.2.2.2.2.2.2.2.2.1 g9.2.2.2.2.2.2.2.2.2.2.2.2.2.2.2.2.2.2, bOrderG K (a0 10) g10, bOrderG K (a0 11) g11] ++ (fam 6 (fun j => bRuleG K (f0_rules j) ((va_up p0_rules0 j7 ((p0_rules0 j7).1, (p0_rules0 j7).2.1, (p0_rules0 j7).2.2.1, (p0_rules0 j7).2.2.2.1, (p0_rules0 j7).2.2.2.2.1, (p0_rules0 j7).2.2.2.2.2.1, (p0_rules0 j7).2.2.2.2.2.2.1, (p0_rules0 j7).2.2.2.2.2.2.2.1, q9.2.2.2.2.2.2.2.2.1, q9.2.2.2.2.2.2.2.2.2)) j)) ++ []))) (cFair_gor (a0 := (a0 9)) (a1 := f0_rules j7) (z0_lasts := g9.1) (z0_keeps := g9.2.1) (z0_stalls := g9.2.2.1) (z0_buyers := g9.2.2.2.1) (z0_minute := g9.2.2.2.2.1) (z0_goods := g9.2.2.2.2.2.1) (z0_price := g9.2.2.2.2.2.2.1) (z0_tongue := g9.2.2.2.2.2.2.2.1) (z0_till := g9.2.2.2.2.2.2.2.2.1) (z0_wealth := g9.2.2.2.2.2.2.2.2.2.1) (z0_sold := g9.2.2.2.2.2.2.2.2.2.2.1) (z0_ring := g9.2.2.2.2.2.2.2.2.2.2.2.1) (z0_grudges := g9.2.2.2.2.2.2.2.2.2.2.2.2.1) (z0_purse := g9.2.2.2.2.2.2.2.2.2.2.2.2.2.1) (z0_came := g9.2.2.2.2.2.2.2.2.2.2.2.2.2.2.1) (z0_had := g9.2.2.2.2.2.2.2.2.2.2.2.2.2.2.2.1) (z0_seller := g9.2.2.2.2.2.2.2.2.2.2.2.2.2.2.2.2.1) (z0_praise := g9.2.2.2.2.2.2.2.2.2.2.2.2.2.2.2.2.2.1) (z0_borne := g9.2.2.2.2.2.2.2.2.2.2.2.2.2.2.2.2.2.2) (z1_steps := (p0_rules0 j7).1) (z1_size := (p0_rules0 j7).2.1) (z1_sumFrom := (p0_rules0 j7).2.2.1) (z1_testFrom := (p0_rules0 j7).2.2.2.1) (z1_testTo := (p0_rules0 j7).2.2.2.2.1) (z1_clauses := (p0_rules0 j7).2.2.2.2.2.1) (z1_parts := (p0_rules0 j7).2.2.2.2.2.2.1) (z1_readsTime := (p0_rules0 j7).2.2.2.2.2.2.2.1) (z1_words := (p0_rules0 j7).2.2.2.2.2.2.2.2.1) (z1_stack := (p0_rules0 j7).2.2.2.2.2.2.2.2.2) h9) rfl rfl (Nat.le_of_ble_eq_true rfl) kFair_gor (List.mem_of_getElem? (i := 46) rfl) (by decide) (by simp only [List.nodup_cons, List.mem_cons, List.not_mem_nil, or_false, not_or, List.nodup_nil, not_false_eq_true, and_true]; omega) (map_s (rfl) (map_s (fq0 (B := fun j g => bRuleG K (f0_rules j) g) (l := [bNextStallG K (a0 0) (fun j => some (f0_rules j 0)) f0_images ((a0 1) 0) ((a0 2) 0) ((a0 3) 0) ((a0 7) 0) ((a0 8) 0) g0, bTapeG K (a0 1) g1, bCursorG K (a0 2) g2, bWorldG K (a0 3) ((a0 4) 0) ((a0 5) 0) ((a0 6) 0) g3, bFairG K (a0 4) g4, bFairG K (a0 5) g5, bNotesG K (a0 6) g6, bPastG K (a0 7) f7_fairs g7, bTrialsG K (a0 8) ((a0 9) 0) ((a0 10) 0) ((a0 11) 0) g8, bFairG K (a0 9) g9, bOrderG K (a0 10) g10, bOrderG K (a0 11) g11]) rfl hj7) map_n)) rfl (stm_s (bs1 := ([bNextStallG K (a0 0) (fun j => some (f0_rules j 0)) f0_images ((a0 1) 0) ((a0 2) 0) ((a0 3) 0) ((a0 7) 0) ((a0 8) 0) g0, bTapeG K (a0 1) g1, bCursorG K (a0 2) g2, bWorldG K (a0 3) ((a0 4) 0) ((a0 5) 0) ((a0 6) 0) g3, bFairG K (a0 4) g4, bFairG K (a0 5) g5, bNotesG K (a0 6) g6, bPastG K (a0 7) f7_fairs g7, bTrialsG K (a0 8) ((a0 9) 0) ((a0 10) 0) ((a0 11) 0) g8, bFair K (a0 9) g9.1 g9.2.1 g9.2.2.1 g9.2.2.2.1 q9.2.1 q9.2.2.1 g9.2.2.2.2.2.2.1 g9.2.2.2.2.2.2.2.1 q9.2.2.2.1 q9.2.2.2.2.1 q9.2.2.2.2.2.1 g9.2.2.2.2.2.2.2.2.2.2.2.1 g9.2.2.2.2.2.2.2.2.2.2.2.2.1 q9.2.2.2.2.2.2.1 g9.2.2.2.2.2.2.2.2.2.2.2.2.2.2.1 q9.2.2.2.2.2.2.2.1 g9.2.2.2.2.2.2.2.2.2.2.2.2.2.2.2.2.1 g9.2.2.2.2.2.2.2.2.2.2.2.2.2.2.2.2.2.1 g9.2.2.2.2.2.2.2.2.2.2.2.2.2.2.2.2.2.2, bOrderG K (a0 10) g10, bOrderG K (a0 11) g11] ++ (fam 6 (fun j => bRuleG K (f0_rules j) (p0_rules0 j)) ++ []))) (rfl) (stm_s (bs1 := ([bNextStallG K (a0 0) (fun j => some (f0_rules j 0)) f0_images ((a0 1) 0) ((a0 2) 0) ((a0 3) 0) ((a0 7) 0) ((a0 8) 0) g0, bTapeG K (a0 1) g1, bCursorG K (a0 2) g2, bWorldG K (a0 3) ((a0 4) 0) ((a0 5) 0) ((a0 6) 0) g3, bFairG K (a0 4) g4, bFairG K (a0 5) g5, bNotesG K (a0 6) g6, bPastG K (a0 7) f7_fairs g7, bTrialsG K (a0 8) ((a0 9) 0) ((a0 10) 0) ((a0 11) 0) g8, bFair K (a0 9) g9.1 g9.2.1 g9.2.2.1 g9.2.2.2.1 q9.2.1 q9.2.2.1 g9.2.2.2.2.2.2.1 g9.2.2.2.2.2.2.2.1 q9.2.2.2.1 q9.2.2.2.2.1 q9.2.2.2.2.2.1 g9.2.2.2.2.2.2.2.2.2.2.2.1 g9.2.2.2.2.2.2.2.2.2.2.2.2.1 q9.2.2.2.2.2.2.1 g9.2.2.2.2.2.2.2.2.2.2.2.2.2.2.1 q9.2.2.2.2.2.2.2.1 g9.2.2.2.2.2.2.2.2.2.2.2.2.2.2.2.2.1 g9.2.2.2.2.2.2.2.2.2.2.2.2.2.2.2.2.2.1 g9.2.2.2.2.2.2.2.2.2.2.2.2.2.2.2.2.2.2, bOrderG K (a0 10) g10, bOrderG K (a0 11) g11] ++ (fam 6 (fun j => bRuleG K (f0_rules j) ((va_up p0_rules0 j7 ((p0_rules0 j7).1, (p0_rules0 j7).2.1, (p0_rules0 j7).2.2.1, (p0_rules0 j7).2.2.2.1, (p0_rules0 j7).2.2.2.2.1, (p0_rules0 j7).2.2.2.2.2.1, (p0_rules0 j7).2.2.2.2.2.2.1, (p0_rules0 j7).2.2.2.2.2.2.2.1, q9.2.2.2.2.2.2.2.2.1, q9.2.2.2.2.2.2.2.2.2)) j)) ++ []))) (fs0 (B := fun j g => bRuleG K (f0_rules j) g) (g := ((p0_rules0 j7).1, (p0_rules0 j7).2.1, (p0_rules0 j7).2.2.1, (p0_rules0 j7).2.2.2.1, (p0_rules0 j7).2.2.2.2.1, (p0_rules0 j7).2.2.2.2.2.1, (p0_rules0 j7).2.2.2.2.2.2.1, (p0_rules0 j7).2.2.2.2.2.2.2.1, q9.2.2.2.2.2.2.2.2.1, q9.2.2.2.2.2.2.2.2.2)) (l := [bNextStallG K (a0 0) (fun j => some (f0_rules j 0)) f0_images ((a0 1) 0) ((a0 2) 0) ((a0 3) 0) ((a0 7) 0) ((a0 8) 0) g0, bTapeG K (a0 1) g1, bCursorG K (a0 2) g2, bWorldG K (a0 3) ((a0 4) 0) ((a0 5) 0) ((a0 6) 0) g3, bFairG K (a0 4) g4, bFairG K (a0 5) g5, bNotesG K (a0 6) g6, bPastG K (a0 7) f7_fairs g7, bTrialsG K (a0 8) ((a0 9) 0) ((a0 10) 0) ((a0 11) 0) g8, bFair K (a0 9) g9.1 g9.2.1 g9.2.2.1 g9.2.2.2.1 q9.2.1 q9.2.2.1 g9.2.2.2.2.2.2.1 g9.2.2.2.2.2.2.2.1 q9.2.2.2.1 q9.2.2.2.2.1 q9.2.2.2.2.2.1 g9.2.2.2.2.2.2.2.2.2.2.2.1 g9.2.2.2.2.2.2.2.2.2.2.2.2.1 q9.2.2.2.2.2.2.1 g9.2.2.2.2.2.2.2.2.2.2.2.2.2.2.1 q9.2.2.2.2.2.2.2.1 g9.2.2.2.2.2.2.2.2.2.2.2.2.2.2.2.2.1 g9.2.2.2.2.2.2.2.2.2.2.2.2.2.2.2.2.2.1 g9.2.2.2.2.2.2.2.2.2.2.2.2.2.2.2.2.2.2, bOrderG K (a0 10) g10, bOrderG K (a0 11) g11]) rfl hj7) stm_n)) rfl rfl rfl rfl dX11_out_55 ?_
          refine r_pop dX11_out_58 rfl ?_
          refine r_iinc (y := (x3 + (1 : Int32))) (lv' := [(3, .int (x3 + (1 : Int32))), (0, .ref ((a0 0) 0)), (1, .int x1), (2, .ref ((a0 9) 0))]) 3 dX11_out_59 rfl rfl (Nat.le_of_ble_eq_true rfl) rfl ?_
          refine r_goto 27 dX11_out_62 (by decide) ?_
          refine r_sub (lv' := [(0, .ref ((a0 0) 0)), (1, .int x1), (2, .ref ((a0 9) 0)), (3, .int (x3 + (1 : Int32)))]) [1, 2, 3, 0] rfl ?_
          exact ih (x3 + (1 : Int32)) (g9.1, g9.2.1, g9.2.2.1, g9.2.2.2.1, q9.2.1, q9.2.2.1, g9.2.2.2.2.2.2.1, g9.2.2.2.2.2.2.2.1, q9.2.2.2.1, q9.2.2.2.2.1, q9.2.2.2.2.2.1, g9.2.2.2.2.2.2.2.2.2.2.2.1, g9.2.2.2.2.2.2.2.2.2.2.2.2.1, q9.2.2.2.2.2.2.1, g9.2.2.2.2.2.2.2.2.2.2.2.2.2.2.1, q9.2.2.2.2.2.2.2.1, g9.2.2.2.2.2.2.2.2.2.2.2.2.2.2.2.2.1, g9.2.2.2.2.2.2.2.2.2.2.2.2.2.2.2.2.2.1, g9.2.2.2.2.2.2.2.2.2.2.2.2.2.2.2.2.2.2) (va_up p0_rules0 j7 ((p0_rules0 j7).1, (p0_rules0 j7).2.1, (p0_rules0 j7).2.2.1, (p0_rules0 j7).2.2.2.1, (p0_rules0 j7).2.2.2.2.1, (p0_rules0 j7).2.2.2.2.2.1, (p0_rules0 j7).2.2.2.2.2.2.1, (p0_rules0 j7).2.2.2.2.2.2.2.1, q9.2.2.2.2.2.2.2.2.1, q9.2.2.2.2.2.2.2.2.2)) h
      · replace h := it_pos c6 h
        refine r_aload_n 2 dX11_out_43 rfl ?_
        refine gFair_minuteN 9 rfl (List.mem_of_getElem? (i := 22) rfl) dX11_out_44 ?_
        have hq := Option.some.inj h
        subst hq
        exact r_iret rfl dX11_out_47
def mNextStall_out (x1 : Int32) (g0 : tyNextStall) (g3 : tyWorld) (g5 : tyFair) (g9 : tyFair) (p0_rules0 : Nat → tyRule) : Option (Int32 × tyFair × (Nat → tyRule)) := (mNextStall_isStall x1 g5).bind (fun q1 => (if q1 = 0 then some ((-1 : Int32), g9, p0_rules0) else (mTrials_from g9 g5).bind (fun q3 => mNextStall_out_l27 g0 g3 g5 x1 FU (0 : Int32) q3 p0_rules0)))
set_option maxHeartbeats 4000000 in
set_option maxRecDepth 20000 in
theorem cNextStall_out {q : Int32 × tyFair × (Nat → tyRule)} {x1 : Int32} (h : mNextStall_out x1 g0 g3 g5 g9 p0_rules0 = some q) : rMet l D Z (ty7 K) MNextStall_out [.ref ((a0 0) 0), .int x1] (List.flatten ([bNextStallG K (a0 0) (fun j => some (f0_rules j 0)) f0_images ((a0 1) 0) ((a0 2) 0) ((a0 3) 0) ((a0 7) 0) ((a0 8) 0) g0, bTapeG K (a0 1) g1, bCursorG K (a0 2) g2, bWorldG K (a0 3) ((a0 4) 0) ((a0 5) 0) ((a0 6) 0) g3, bFairG K (a0 4) g4, bFairG K (a0 5) g5, bNotesG K (a0 6) g6, bPastG K (a0 7) f7_fairs g7, bTrialsG K (a0 8) ((a0 9) 0) ((a0 10) 0) ((a0 11) 0) g8, bFairG K (a0 9) g9, bOrderG K (a0 10) g10, bOrderG K (a0 11) g11] ++ (fam 6 (fun j => bRuleG K (f0_rules j) (p0_rules0 j)) ++ []))) (List.flatten ([bNextStallG K (a0 0) (fun j => some (f0_rules j 0)) f0_images ((a0 1) 0) ((a0 2) 0) ((a0 3) 0) ((a0 7) 0) ((a0 8) 0) g0, bTapeG K (a0 1) g1, bCursorG K (a0 2) g2, bWorldG K (a0 3) ((a0 4) 0) ((a0 5) 0) ((a0 6) 0) g3, bFairG K (a0 4) g4, bFairG K (a0 5) g5, bNotesG K (a0 6) g6, bPastG K (a0 7) f7_fairs g7, bTrialsG K (a0 8) ((a0 9) 0) ((a0 10) 0) ((a0 11) 0) g8, bFairG K (a0 9) q.2.1, bOrderG K (a0 10) g10, bOrderG K (a0 11) g11] ++ (fam 6 (fun j => bRuleG K (f0_rules j) (q.2.2 j)) ++ []))) (some (.int q.1)) := by
  refine rMet.of (by decide) rfl (Nat.le_of_ble_eq_true rfl) ?_
  refine r_sub (lv' := [(0, .ref ((a0 0) 0)), (1, .int x1)]) [0, 1] rfl ?_
  unfold mNextStall_out at h
  refine r_aload_n 0 dX11_out_0 rfl ?_
  refine r_iload_n 1 dX11_out_1 rfl ?_
  obtain ⟨q1, h1, h⟩ := bd_some h
  refine b_callV (isC := [0, 1, 2, 3, 4, 5, 6, 7, 8, 9, 10, 11]) (ci := 9)  (st := []) (bs1 := ([bNextStallG K (a0 0) (fun j => some (f0_rules j 0)) f0_images ((a0 1) 0) ((a0 2) 0) ((a0 3) 0) ((a0 7) 0) ((a0 8) 0) g0, bTapeG K (a0 1) g1, bCursorG K (a0 2) g2, bWorldG K (a0 3) ((a0 4) 0) ((a0 5) 0) ((a0 6) 0) g3, bFairG K (a0 4) g4, bFairG K (a0 5) g5, bNotesG K (a0 6) g6, bPastG K (a0 7) f7_fairs g7, bTrialsG K (a0 8) ((a0 9) 0) ((a0 10) 0) ((a0 11) 0) g8, bFairG K (a0 9) g9, bOrderG K (a0 10) g10, bOrderG K (a0 11) g11] ++ (fam 6 (fun j => bRuleG K (f0_rules j) (p0_rules0 j)) ++ []))) (cNextStall_isStall (a0 := a0) (g0 := g0) (g1 := g1) (g2 := g2) (g3 := g3) (g4 := g4) (g5 := g5) (g6 := g6) (g7 := g7) (g8 := g8) (g9 := g9) (g10 := g10) (g11 := g11) h1) rfl rfl (Nat.le_of_ble_eq_true rfl) kNextStall_isStall (tb_in (i := 13) (j := 31) rfl rfl) (by decide) (by decide) rfl rfl rfl rfl rfl rfl rfl dX11_out_2 ?_
  refine r_if_ne 10 dX11_out_5 (by decide) (fun c2 => ?_) (fun c2 => ?_)
  · replace h := it_neg c2 h
    refine r_aload_n 0 dX11_out_10 rfl ?_
    refine gNextStall_trials 0 rfl (tb_in (i := 13) (j := 4) rfl rfl) dX11_out_11 ?_
    refine r_aload_n 0 dX11_out_14 rfl ?_
    refine gNextStall_world 0 rfl (tb_in (i := 12) (j := 26) rfl rfl) dX11_out_15 ?_
    refine gWorld_nowN 3 rfl (List.mem_of_getElem? (i := 55) rfl) dX11_out_18 ?_
    obtain ⟨q3, h3, h⟩ := bd_some h
    refine b_callVN (isC := [8, 9, 10, 11, 5]) (ci := 7)  (st := []) (bs1 := ([bNextStallG K (a0 0) (fun j => some (f0_rules j 0)) f0_images ((a0 1) 0) ((a0 2) 0) ((a0 3) 0) ((a0 7) 0) ((a0 8) 0) g0, bTapeG K (a0 1) g1, bCursorG K (a0 2) g2, bWorldG K (a0 3) ((a0 4) 0) ((a0 5) 0) ((a0 6) 0) g3, bFairG K (a0 4) g4, bFairG K (a0 5) g5, bNotesG K (a0 6) g6, bPastG K (a0 7) f7_fairs g7, bTrialsG K (a0 8) ((a0 9) 0) ((a0 10) 0) ((a0 11) 0) g8, bFairG K (a0 9) q3, bOrderG K (a0 10) g10, bOrderG K (a0 11) g11] ++ (fam 6 (fun j => bRuleG K (f0_rules j) (p0_rules0 j)) ++ []))) (cTrials_from (a0 := fun b => a0 (8 + b)) (a1 := (a0 5)) (g0 := g8) (g1 := g9) (g2 := g10) (g3 := g11) (g4 := g5) h3) rfl rfl (Nat.le_of_ble_eq_true rfl) kTrials_from (List.mem_of_getElem? (i := 52) rfl) (by decide) (by decide) rfl rfl rfl rfl rfl rfl rfl dX11_out_21 ?_
    refine r_astore_n (lv' := [(2, .ref ((a0 9) 0)), (0, .ref ((a0 0) 0)), (1, .int x1)]) dX11_out_24 (Nat.le_of_ble_eq_true rfl) rfl ?_
    refine r_iconst (x := (0 : Int32)) dX11_out_25 (by decide) ?_
    refine r_istore_n (lv' := [(3, .int (0 : Int32)), (2, .ref ((a0 9) 0)), (0, .ref ((a0 0) 0)), (1, .int x1)]) dX11_out_26 (Nat.le_of_ble_eq_true rfl) rfl ?_
    refine r_sub (lv' := [(0, .ref ((a0 0) 0)), (1, .int x1), (2, .ref ((a0 9) 0)), (3, .int (0 : Int32))]) [2, 3, 1, 0] rfl ?_
    exact cNextStall_out_l27 (g0 := g0) (g3 := g3) (g5 := g5)  FU (0 : Int32) q3 p0_rules0 h
  · replace h := it_pos c2 h
    refine r_iconst (x := (-1 : Int32)) dX11_out_8 (by decide) ?_
    have hq := Option.some.inj h
    subst hq
    exact r_iret rfl dX11_out_9
end
theorem dX11_taken_0 : decode cX11_taken 0 = .ok (.aload_n 0, 1) := by decide +kernel
theorem dX11_taken_1 : decode cX11_taken 1 = .ok (.getfield 36, 3) := by decide +kernel
theorem dX11_taken_4 : decode cX11_taken 4 = .ok (.getfield 166, 3) := by decide +kernel
theorem dX11_taken_7 : decode cX11_taken 7 = .ok (.ifCond .eq 13, 3) := by decide +kernel
theorem dX11_taken_10 : decode cX11_taken 10 = .ok (.iload_n 1, 1) := by decide +kernel
theorem dX11_taken_11 : decode cX11_taken 11 = .ok (.iconst 0, 1) := by decide +kernel
theorem dX11_taken_12 : decode cX11_taken 12 = .ok (.bipush 100, 2) := by decide +kernel
theorem dX11_taken_14 : decode cX11_taken 14 = .ok (.invokestatic 70, 3) := by decide +kernel
theorem dX11_taken_17 : decode cX11_taken 17 = .ok (.ifCond .ne 5, 3) := by decide +kernel
theorem dX11_taken_20 : decode cX11_taken 20 = .ok (.iconst (-1), 1) := by decide +kernel
theorem dX11_taken_21 : decode cX11_taken 21 = .ok (.ireturn, 1) := by decide +kernel
theorem dX11_taken_22 : decode cX11_taken 22 = .ok (.aload_n 0, 1) := by decide +kernel
theorem dX11_taken_23 : decode cX11_taken 23 = .ok (.getfield 58, 3) := by decide +kernel
theorem dX11_taken_26 : decode cX11_taken 26 = .ok (.aload_n 0, 1) := by decide +kernel
theorem dX11_taken_27 : decode cX11_taken 27 = .ok (.getfield 36, 3) := by decide +kernel
theorem dX11_taken_30 : decode cX11_taken 30 = .ok (.getfield 119, 3) := by decide +kernel
theorem dX11_taken_33 : decode cX11_taken 33 = .ok (.invokevirtual 208, 3) := by decide +kernel
theorem dX11_taken_36 : decode cX11_taken 36 = .ok (.aload_n 0, 1) := by decide +kernel
theorem dX11_taken_37 : decode cX11_taken 37 = .ok (.invokevirtual 176, 3) := by decide +kernel
theorem dX11_taken_40 : decode cX11_taken 40 = .ok (.iload_n 1, 1) := by decide +kernel
theorem dX11_taken_41 : decode cX11_taken 41 = .ok (.iconst (-1), 1) := by decide +kernel
theorem dX11_taken_42 : decode cX11_taken 42 = .ok (.invokevirtual 180, 3) := by decide +kernel
theorem dX11_taken_45 : decode cX11_taken 45 = .ok (.ireturn, 1) := by decide +kernel
abbrev MNextStall_taken : rx_M := (RX11, yX11_taken, cX11_taken, 2, (some .int), 6)
theorem kNextStall_taken : rKv MNextStall_taken 1 := ⟨tb_in (i := 33) (j := 17) rfl rfl, tb_in (i := 33) (j := 18) rfl rfl, tb_in (i := 2) (j := 22) rfl rfl, tb_in (i := 14) (j := 29) rfl rfl, ⟨by decide, by decide, by decide +kernel⟩, by decide⟩
section
variable {a0 : Nat → Nat → Nat} {g0 : tyNextStall} {g1 : tyTape} {g2 : tyCursor} {g3 : tyWorld} {g4 : tyFair} {g5 : tyFair} {g6 : tyNotes} {g7 : tyPast} {g8 : tyTrials} {g9 : tyFair} {g10 : tyOrder} {g11 : tyOrder} {f0_rules : Nat → Nat → Nat} {f0_images : Nat → Option Nat} {f7_fairs : Nat → Option Nat} {p0_rules0 : Nat → tyRule}
def mNextStall_taken (x1 : Int32) (g0 : tyNextStall) (g3 : tyWorld) (g5 : tyFair) (g9 : tyFair) (p0_rules0 : Nat → tyRule) : Option (Int32 × tyFair × (Nat → tyRule)) := (if g3.1 = 0 then some ((-1 : Int32), g9, p0_rules0) else (mNextStall_within x1 (0 : Int32) (100 : Int32)).bind (fun q2 => (if q2 = 0 then some ((-1 : Int32), g9, p0_rules0) else (mTrials_from g9 g5).bind (fun q4 => (mNextStall_ruleInForce g0 g3).bind (fun q5 => mt q5 ((mFair_gon x1 (-1 : Int32) q4.1 q4.2.1 q4.2.2.1 q4.2.2.2.1 q4.2.2.2.2.1 q4.2.2.2.2.2.1 q4.2.2.2.2.2.2.1 q4.2.2.2.2.2.2.2.2.1 q4.2.2.2.2.2.2.2.2.2.1 q4.2.2.2.2.2.2.2.2.2.2.1 q4.2.2.2.2.2.2.2.2.2.2.2.2.2.1 q4.2.2.2.2.2.2.2.2.2.2.2.2.2.2.1 q4.2.2.2.2.2.2.2.2.2.2.2.2.2.2.2.1 q4.2.2.2.2.2.2.2.2.2.2.2.2.2.2.2.2.1 q4.2.2.2.2.2.2.2.2.2.2.2.2.2.2.2.2.2.1).bind (fun q6 => some (q6.1, (q4.1, q4.2.1, q4.2.2.1, q4.2.2.2.1, q6.2.1, q6.2.2.1, q4.2.2.2.2.2.2.1, q4.2.2.2.2.2.2.2.1, q6.2.2.2.1, q6.2.2.2.2.1, q6.2.2.2.2.2.1, q4.2.2.2.2.2.2.2.2.2.2.2.1, q4.2.2.2.2.2.2.2.2.2.2.2.2.1, q6.2.2.2.2.2.2.1, q4.2.2.2.2.2.2.2.2.2.2.2.2.2.2.1, q6.2.2.2.2.2.2.2, q4.2.2.2.2.2.2.2.2.2.2.2.2.2.2.2.2.1, q4.2.2.2.2.2.2.2.2.2.2.2.2.2.2.2.2.2.1, q4.2.2.2.2.2.2.2.2.2.2.2.2.2.2.2.2.2.2), p0_rules0))) (fun j5 => rq (decide (j5 < 6)) ((mFair_gor x1 (-1 : Int32) q4.1 q4.2.1 q4.2.2.1 q4.2.2.2.1 q4.2.2.2.2.1 q4.2.2.2.2.2.1 q4.2.2.2.2.2.2.1 q4.2.2.2.2.2.2.2.2.1 q4.2.2.2.2.2.2.2.2.2.1 q4.2.2.2.2.2.2.2.2.2.2.1 q4.2.2.2.2.2.2.2.2.2.2.2.2.2.1 q4.2.2.2.2.2.2.2.2.2.2.2.2.2.2.1 q4.2.2.2.2.2.2.2.2.2.2.2.2.2.2.2.1 q4.2.2.2.2.2.2.2.2.2.2.2.2.2.2.2.2.1 q4.2.2.2.2.2.2.2.2.2.2.2.2.2.2.2.2.2.1 q4.2.2.2.2.2.2.2.2.2.2.2.2.2.2.2.2.2.2 ((p0_rules0 j5).1) ((p0_rules0 j5).2.1) ((p0_rules0 j5).2.2.1) ((p0_rules0 j5).2.2.2.1) ((p0_rules0 j5).2.2.2.2.1) ((p0_rules0 j5).2.2.2.2.2.1) ((p0_rules0 j5).2.2.2.2.2.2.2.1) ((p0_rules0 j5).2.2.2.2.2.2.2.2.1) ((p0_rules0 j5).2.2.2.2.2.2.2.2.2)).bind (fun q7 => some (q7.1, (q4.1, q4.2.1, q4.2.2.1, q4.2.2.2.1, q7.2.1, q7.2.2.1, q4.2.2.2.2.2.2.1, q4.2.2.2.2.2.2.2.1, q7.2.2.2.1, q7.2.2.2.2.1, q7.2.2.2.2.2.1, q4.2.2.2.2.2.2.2.2.2.2.2.1, q4.2.2.2.2.2.2.2.2.2.2.2.2.1, q7.2.2.2.2.2.2.1, q4.2.2.2.2.2.2.2.2.2.2.2.2.2.2.1, q7.2.2.2.2.2.2.2.1, q4.2.2.2.2.2.2.2.2.2.2.2.2.2.2.2.2.1, q4.2.2.2.2.2.2.2.2.2.2.2.2.2.2.2.2.2.1, q4.2.2.2.2.2.2.2.2.2.2.2.2.2.2.2.2.2.2), (va_up p0_rules0 j5 ((p0_rules0 j5).1, (p0_rules0 j5).2.1, (p0_rules0 j5).2.2.1, (p0_rules0 j5).2.2.2.1, (p0_rules0 j5).2.2.2.2.1, (p0_rules0 j5).2.2.2.2.2.1, (p0_rules0 j5).2.2.2.2.2.2.1, (p0_rules0 j5).2.2.2.2.2.2.2.1, q7.2.2.2.2.2.2.2.2.1, q7.2.2.2.2.2.2.2.2.2)))))))))))
set_option maxHeartbeats 4000000 in
set_option maxRecDepth 20000 in
theorem cNextStall_taken {q : Int32 × tyFair × (Nat → tyRule)} {x1 : Int32} (h : mNextStall_taken x1 g0 g3 g5 g9 p0_rules0 = some q) : rMet l D Z (ty7 K) MNextStall_taken [.ref ((a0 0) 0), .int x1] (List.flatten ([bNextStallG K (a0 0) (fun j => some (f0_rules j 0)) f0_images ((a0 1) 0) ((a0 2) 0) ((a0 3) 0) ((a0 7) 0) ((a0 8) 0) g0, bTapeG K (a0 1) g1, bCursorG K (a0 2) g2, bWorldG K (a0 3) ((a0 4) 0) ((a0 5) 0) ((a0 6) 0) g3, bFairG K (a0 4) g4, bFairG K (a0 5) g5, bNotesG K (a0 6) g6, bPastG K (a0 7) f7_fairs g7, bTrialsG K (a0 8) ((a0 9) 0) ((a0 10) 0) ((a0 11) 0) g8, bFairG K (a0 9) g9, bOrderG K (a0 10) g10, bOrderG K (a0 11) g11] ++ (fam 6 (fun j => bRuleG K (f0_rules j) (p0_rules0 j)) ++ []))) (List.flatten ([bNextStallG K (a0 0) (fun j => some (f0_rules j 0)) f0_images ((a0 1) 0) ((a0 2) 0) ((a0 3) 0) ((a0 7) 0) ((a0 8) 0) g0, bTapeG K (a0 1) g1, bCursorG K (a0 2) g2, bWorldG K (a0 3) ((a0 4) 0) ((a0 5) 0) ((a0 6) 0) g3, bFairG K (a0 4) g4, bFairG K (a0 5) g5, bNotesG K (a0 6) g6, bPastG K (a0 7) f7_fairs g7, bTrialsG K (a0 8) ((a0 9) 0) ((a0 10) 0) ((a0 11) 0) g8, bFairG K (a0 9) q.2.1, bOrderG K (a0 10) g10, bOrderG K (a0 11) g11] ++ (fam 6 (fun j => bRuleG K (f0_rules j) (q.2.2 j)) ++ []))) (some (.int q.1)) := by
  refine rMet.of (by decide) rfl (Nat.le_of_ble_eq_true rfl) ?_
  refine r_sub (lv' := [(0, .ref ((a0 0) 0)), (1, .int x1)]) [0, 1] rfl ?_
  unfold mNextStall_taken at h
  refine r_aload_n 0 dX11_taken_0 rfl ?_
  refine gNextStall_world 0 rfl (tb_in (i := 12) (j := 26) rfl rfl) dX11_taken_1 ?_
  refine gWorld_openN 3 rfl (List.mem_of_getElem? (i := 50) rfl) dX11_taken_4 ?_
  refine r_if_eq 20 dX11_taken_7 (by decide) (fun c1 => ?_) (fun c1 => ?_)
  · replace h := it_pos c1 h
    refine r_iconst (x := (-1 : Int32)) dX11_taken_20 (by decide) ?_
    have hq := Option.some.inj h
    subst hq
    exact r_iret rfl dX11_taken_21
  · replace h := it_neg c1 h
    refine r_iload_n 1 dX11_taken_10 rfl ?_
    refine r_iconst (x := (0 : Int32)) dX11_taken_11 (by decide) ?_
    refine r_bipush (x := (100 : Int32)) dX11_taken_12 (by decide) ?_
    obtain ⟨q2, h2, h⟩ := bd_some h
    refine b_callS (isC := []) (st := []) (bs1 := ([bNextStallG K (a0 0) (fun j => some (f0_rules j 0)) f0_images ((a0 1) 0) ((a0 2) 0) ((a0 3) 0) ((a0 7) 0) ((a0 8) 0) g0, bTapeG K (a0 1) g1, bCursorG K (a0 2) g2, bWorldG K (a0 3) ((a0 4) 0) ((a0 5) 0) ((a0 6) 0) g3, bFairG K (a0 4) g4, bFairG K (a0 5) g5, bNotesG K (a0 6) g6, bPastG K (a0 7) f7_fairs g7, bTrialsG K (a0 8) ((a0 9) 0) ((a0 10) 0) ((a0 11) 0) g8, bFairG K (a0 9) g9, bOrderG K (a0 10) g10, bOrderG K (a0 11) g11] ++ (fam 6 (fun j => bRuleG K (f0_rules j) (p0_rules0 j)) ++ []))) (cNextStall_within   h2) rfl rfl (Nat.le_of_ble_eq_true rfl) kNextStall_within (tb_in (i := 13) (j := 17) rfl rfl) (by decide) (by decide) rfl rfl rfl dX11_taken_14 ?_
    refine r_if_ne 22 dX11_taken_17 (by decide) (fun c3 => ?_) (fun c3 => ?_)
    · replace h := it_neg c3 h
      refine r_aload_n 0 dX11_taken_22 rfl ?_
      refine gNextStall_trials 0 rfl (tb_in (i := 13) (j := 4) rfl rfl) dX11_taken_23 ?_
      refine r_aload_n 0 dX11_taken_26 rfl ?_
      refine gNextStall_world 0 rfl (tb_in (i := 12) (j := 26) rfl rfl) dX11_taken_27 ?_
      refine gWorld_nowN 3 rfl (List.mem_of_getElem? (i := 55) rfl) dX11_taken_30 ?_
      obtain ⟨q4, h4, h⟩ := bd_some h
      refine b_callVN (isC := [8, 9, 10, 11, 5]) (ci := 7)  (st := []) (bs1 := ([bNextStallG K (a0 0) (fun j => some (f0_rules j 0)) f0_images ((a0 1) 0) ((a0 2) 0) ((a0 3) 0) ((a0 7) 0) ((a0 8) 0) g0, bTapeG K (a0 1) g1, bCursorG K (a0 2) g2, bWorldG K (a0 3) ((a0 4) 0) ((a0 5) 0) ((a0 6) 0) g3, bFairG K (a0 4) g4, bFairG K (a0 5) g5, bNotesG K (a0 6) g6, bPastG K (a0 7) f7_fairs g7, bTrialsG K (a0 8) ((a0 9) 0) ((a0 10) 0) ((a0 11) 0) g8, bFairG K (a0 9) q4, bOrderG K (a0 10) g10, bOrderG K (a0 11) g11] ++ (fam 6 (fun j => bRuleG K (f0_rules j) (p0_rules0 j)) ++ []))) (cTrials_from (a0 := fun b => a0 (8 + b)) (a1 := (a0 5)) (g0 := g8) (g1 := g9) (g2 := g10) (g3 := g11) (g4 := g5) h4) rfl rfl (Nat.le_of_ble_eq_true rfl) kTrials_from (List.mem_of_getElem? (i := 52) rfl) (by decide) (by decide) rfl rfl rfl rfl rfl rfl rfl dX11_taken_33 ?_
      refine r_aload_n 0 dX11_taken_36 rfl ?_
      obtain ⟨q5, h5, h⟩ := bd_some h
      refine b_callV (isC := ([0, 1, 2, 3, 4, 5, 6, 7, 8, 9, 10, 11] ++ (List.range' 12 6 ++ []))) (ci := 9)  (st := [.ref ((a0 9) 0)]) (bs1 := ([bNextStallG K (a0 0) (fun j => some (f0_rules j 0)) f0_images ((a0 1) 0) ((a0 2) 0) ((a0 3) 0) ((a0 7) 0) ((a0 8) 0) g0, bTapeG K (a0 1) g1, bCursorG K (a0 2) g2, bWorldG K (a0 3) ((a0 4) 0) ((a0 5) 0) ((a0 6) 0) g3, bFairG K (a0 4) g4, bFairG K (a0 5) g5, bNotesG K (a0 6) g6, bPastG K (a0 7) f7_fairs g7, bTrialsG K (a0 8) ((a0 9) 0) ((a0 10) 0) ((a0 11) 0) g8, bFairG K (a0 9) q4, bOrderG K (a0 10) g10, bOrderG K (a0 11) g11] ++ (fam 6 (fun j => bRuleG K (f0_rules j) (p0_rules0 j)) ++ []))) (cNextStall_ruleInForce (a0 := a0) (f0_rules := f0_rules) (g0 := g0) (g1 := g1) (g2 := g2) (g3 := g3) (g4 := g4) (g5 := g5) (g6 := g6) (g7 := g7) (g8 := g8) (g9 := q4) (g10 := g10) (g11 := g11) (p0_rules0 := p0_rules0) h5) rfl rfl (Nat.le_of_ble_eq_true rfl) kNextStall_ruleInForce (tb_in (i := 14) (j := 11) rfl rfl) (by decide) (by decide +kernel) (map_app rfl (map_app (map_f0 (n := 6) (l := [bNextStallG K (a0 0) (fun j => some (f0_rules j 0)) f0_images ((a0 1) 0) ((a0 2) 0) ((a0 3) 0) ((a0 7) 0) ((a0 8) 0) g0, bTapeG K (a0 1) g1, bCursorG K (a0 2) g2, bWorldG K (a0 3) ((a0 4) 0) ((a0 5) 0) ((a0 6) 0) g3, bFairG K (a0 4) g4, bFairG K (a0 5) g5, bNotesG K (a0 6) g6, bPastG K (a0 7) f7_fairs g7, bTrialsG K (a0 8) ((a0 9) 0) ((a0 10) 0) ((a0 11) 0) g8, bFairG K (a0 9) q4, bOrderG K (a0 10) g10, bOrderG K (a0 11) g11]) rfl) rfl)) (by simp only [List.length_append, fam_len, List.length_range', List.length_cons, List.length_nil]) (stm_a (bs1 := ([bNextStallG K (a0 0) (fun j => some (f0_rules j 0)) f0_images ((a0 1) 0) ((a0 2) 0) ((a0 3) 0) ((a0 7) 0) ((a0 8) 0) g0, bTapeG K (a0 1) g1, bCursorG K (a0 2) g2, bWorldG K (a0 3) ((a0 4) 0) ((a0 5) 0) ((a0 6) 0) g3, bFairG K (a0 4) g4, bFairG K (a0 5) g5, bNotesG K (a0 6) g6, bPastG K (a0 7) f7_fairs g7, bTrialsG K (a0 8) ((a0 9) 0) ((a0 10) 0) ((a0 11) 0) g8, bFairG K (a0 9) q4, bOrderG K (a0 10) g10, bOrderG K (a0 11) g11] ++ (fam 6 (fun j => bRuleG K (f0_rules j) (p0_rules0 j)) ++ []))) rfl rfl (stm_a (bs1 := ([bNextStallG K (a0 0) (fun j => some (f0_rules j 0)) f0_images ((a0 1) 0) ((a0 2) 0) ((a0 3) 0) ((a0 7) 0) ((a0 8) 0) g0, bTapeG K (a0 1) g1, bCursorG K (a0 2) g2, bWorldG K (a0 3) ((a0 4) 0) ((a0 5) 0) ((a0 6) 0) g3, bFairG K (a0 4) g4, bFairG K (a0 5) g5, bNotesG K (a0 6) g6, bPastG K (a0 7) f7_fairs g7, bTrialsG K (a0 8) ((a0 9) 0) ((a0 10) 0) ((a0 11) 0) g8, bFairG K (a0 9) q4, bOrderG K (a0 10) g10, bOrderG K (a0 11) g11] ++ (fam 6 (fun j => bRuleG K (f0_rules j) (p0_rules0 j)) ++ []))) (by rw [List.length_range', fam_len]) (stm_f0 (n := 6) (l := [bNextStallG K (a0 0) (fun j => some (f0_rules j 0)) f0_images ((a0 1) 0) ((a0 2) 0) ((a0 3) 0) ((a0 7) 0) ((a0 8) 0) g0, bTapeG K (a0 1) g1, bCursorG K (a0 2) g2, bWorldG K (a0 3) ((a0 4) 0) ((a0 5) 0) ((a0 6) 0) g3, bFairG K (a0 4) g4, bFairG K (a0 5) g5, bNotesG K (a0 6) g6, bPastG K (a0 7) f7_fairs g7, bTrialsG K (a0 8) ((a0 9) 0) ((a0 10) 0) ((a0 11) 0) g8, bFairG K (a0 9) q4, bOrderG K (a0 10) g10, bOrderG K (a0 11) g11]) rfl) rfl)) rfl rfl rfl rfl dX11_taken_37 ?_
      cases q5 with
      | none =>
        replace h := mt_n h
        refine r_st (st' := [.null, .ref ((a0 9) 0)]) rfl ?_
        refine r_iload_n 1 dX11_taken_40 rfl ?_
        refine r_iconst (x := (-1 : Int32)) dX11_taken_41 (by decide) ?_
        obtain ⟨q6, h6, h⟩ := bd_some h
        refine b_callVN (isC := [9]) (ci := 1)  (st := []) (bs1 := ([bNextStallG K (a0 0) (fun j => some (f0_rules j 0)) f0_images ((a0 1) 0) ((a0 2) 0) ((a0 3) 0) ((a0 7) 0) ((a0 8) 0) g0, bTapeG K (a0 1) g1, bCursorG K (a0 2) g2, bWorldG K (a0 3) ((a0 4) 0) ((a0 5) 0) ((a0 6) 0) g3, bFairG K (a0 4) g4, bFairG K (a0 5) g5, bNotesG K (a0 6) g6, bPastG K (a0 7) f7_fairs g7, bTrialsG K (a0 8) ((a0 9) 0) ((a0 10) 0) ((a0 11) 0) g8, bFair K (a0 9) q4.1 q4.2.1 q4.2.2.1 q4.2.2.2.1 q6.2.1 q6.2.2.1 q4.2.2.2.2.2.2.1 q4.2.2.2.2.2.2.2.1 q6.2.2.2.1 q6.2.2.2.2.1 q6.2.2.2.2.2.1 q4.2.2.2.2.2.2.2.2.2.2.2.1 q4.2.2.2.2.2.2.2.2.2.2.2.2.1 q6.2.2.2.2.2.2.1 q4.2.2.2.2.2.2.2.2.2.2.2.2.2.2.1 q6.2.2.2.2.2.2.2 q4.2.2.2.2.2.2.2.2.2.2.2.2.2.2.2.2.1 q4.2.2.2.2.2.2.2.2.2.2.2.2.2.2.2.2.2.1 q4.2.2.2.2.2.2.2.2.2.2.2.2.2.2.2.2.2.2, bOrderG K (a0 10) g10, bOrderG K (a0 11) g11] ++ (fam 6 (fun j => bRuleG K (f0_rules j) (p0_rules0 j)) ++ []))) (cFair_gon (a0 := (a0 9)) (z0_lasts := q4.1) (z0_keeps := q4.2.1) (z0_stalls := q4.2.2.1) (z0_buyers := q4.2.2.2.1) (z0_minute := q4.2.2.2.2.1) (z0_goods := q4.2.2.2.2.2.1) (z0_price := q4.2.2.2.2.2.2.1) (z0_tongue := q4.2.2.2.2.2.2.2.1) (z0_till := q4.2.2.2.2.2.2.2.2.1) (z0_wealth := q4.2.2.2.2.2.2.2.2.2.1) (z0_sold := q4.2.2.2.2.2.2.2.2.2.2.1) (z0_ring := q4.2.2.2.2.2.2.2.2.2.2.2.1) (z0_grudges := q4.2.2.2.2.2.2.2.2.2.2.2.2.1) (z0_purse := q4.2.2.2.2.2.2.2.2.2.2.2.2.2.1) (z0_came := q4.2.2.2.2.2.2.2.2.2.2.2.2.2.2.1) (z0_had := q4.2.2.2.2.2.2.2.2.2.2.2.2.2.2.2.1) (z0_seller := q4.2.2.2.2.2.2.2.2.2.2.2.2.2.2.2.2.1) (z0_praise := q4.2.2.2.2.2.2.2.2.2.2.2.2.2.2.2.2.2.1) (z0_borne := q4.2.2.2.2.2.2.2.2.2.2.2.2.2.2.2.2.2.2) h6) rfl rfl (Nat.le_of_ble_eq_true rfl) kFair_gon (List.mem_of_getElem? (i := 46) rfl) (by decide) (by decide) rfl rfl rfl rfl rfl rfl rfl dX11_taken_42 ?_
        have hq := Option.some.inj h
        subst hq
        exact r_iret rfl dX11_taken_45
      | some j5 =>
        replace h := mt_s h
        obtain ⟨hg5, h⟩ := rq_some h
        have hj5 := of_decide_eq_true hg5
        refine r_st (st' := [.ref (f0_rules j5 0), .ref ((a0 9) 0)]) rfl ?_
        refine r_iload_n 1 dX11_taken_40 rfl ?_
        refine r_iconst (x := (-1 : Int32)) dX11_taken_41 (by decide) ?_
        obtain ⟨q7, h7, h⟩ := bd_some h
        refine b_callVN (isC := [9, 12 + j5]) (ci := 1)  (st := []) (bs1 := ([bNextStallG K (a0 0) (fun j => some (f0_rules j 0)) f0_images ((a0 1) 0) ((a0 2) 0) ((a0 3) 0) ((a0 7) 0) ((a0 8) 0) g0, bTapeG K (a0 1) g1, bCursorG K (a0 2) g2, bWorldG K (a0 3) ((a0 4) 0) ((a0 5) 0) ((a0 6) 0) g3, bFairG K (a0 4) g4, bFairG K (a0 5) g5, bNotesG K (a0 6) g6, bPastG K (a0 7) f7_fairs g7, bTrialsG K (a0 8) ((a0 9) 0) ((a0 10) 0) ((a0 11) 0) g8, bFair K (a0 9) q4.1 q4.2.1 q4.2.2.1 q4.2.2.2.1 q7.2.1 q7.2.2.1 q4.2.2.2.2.2.2.1 q4.2.2.2.2.2.2.2.1 q7.2.2.2.1 q7.2.2.2.2.1 q7.2.2.2.2.2.1 q4.2.2.2.2.2.2.2.2.2.2.2.1 q4.2.2.2.2.2.2.2.2.2.2.2.2.1 q7.2.2.2.2.2.2.1 q4.2.2.2.2.2.2.2.2.2.2.2.2.2.2.1 q7.2.2.2.2.2.2.2.1 q4.2.2.2.2.2.2.2.2.2.2.2.2.2.2.2.2.1 q4.2.2.2.2.2.2.2.2.2.2.2.2.2.2.2.2.2.1 q4.2.2.2.2.2.2.2.2.2.2.2.2.2.2.2.2.2.2, bOrderG K (a0 10) g10, bOrderG K (a0 11) g11] ++ (fam 6 (fun j => bRuleG K (f0_rules j) ((va_up p0_rules0 j5 ((p0_rules0 j5).1, (p0_rules0 j5).2.1, (p0_rules0 j5).2.2.1, (p0_rules0 j5).2.2.2.1, (p0_rules0 j5).2.2.2.2.1, (p0_rules0 j5).2.2.2.2.2.1, (p0_rules0 j5).2.2.2.2.2.2.1, (p0_rules0 j5).2.2.2.2.2.2.2.1, q7.2.2.2.2.2.2.2.2.1, q7.2.2.2.2.2.2.2.2.2)) j)) ++ []))) (cFair_gor (a0 := (a0 9)) (a1 := f0_rules j5) (z0_lasts := q4.1) (z0_keeps := q4.2.1) (z0_stalls := q4.2.2.1) (z0_buyers := q4.2.2.2.1) (z0_minute := q4.2.2.2.2.1) (z0_goods := q4.2.2.2.2.2.1) (z0_price := q4.2.2.2.2.2.2.1) (z0_tongue := q4.2.2.2.2.2.2.2.1) (z0_till := q4.2.2.2.2.2.2.2.2.1) (z0_wealth := q4.2.2.2.2.2.2.2.2.2.1) (z0_sold := q4.2.2.2.2.2.2.2.2.2.2.1) (z0_ring := q4.2.2.2.2.2.2.2.2.2.2.2.1) (z0_grudges := q4.2.2.2.2.2.2.2.2.2.2.2.2.1) (z0_purse := q4.2.2.2.2.2.2.2.2.2.2.2.2.2.1) (z0_came := q4.2.2.2.2.2.2.2.2.2.2.2.2.2.2.1) (z0_had := q4.2.2.2.2.2.2.2.2.2.2.2.2.2.2.2.1) (z0_seller := q4.2.2.2.2.2.2.2.2.2.2.2.2.2.2.2.2.1) (z0_praise := q4.2.2.2.2.2.2.2.2.2.2.2.2.2.2.2.2.2.1) (z0_borne := q4.2.2.2.2.2.2.2.2.2.2.2.2.2.2.2.2.2.2) (z1_steps := (p0_rules0 j5).1) (z1_size := (p0_rules0 j5).2.1) (z1_sumFrom := (p0_rules0 j5).2.2.1) (z1_testFrom := (p0_rules0 j5).2.2.2.1) (z1_testTo := (p0_rules0 j5).2.2.2.2.1) (z1_clauses := (p0_rules0 j5).2.2.2.2.2.1) (z1_parts := (p0_rules0 j5).2.2.2.2.2.2.1) (z1_readsTime := (p0_rules0 j5).2.2.2.2.2.2.2.1) (z1_words := (p0_rules0 j5).2.2.2.2.2.2.2.2.1) (z1_stack := (p0_rules0 j5).2.2.2.2.2.2.2.2.2) h7) rfl rfl (Nat.le_of_ble_eq_true rfl) kFair_gor (List.mem_of_getElem? (i := 46) rfl) (by decide) (by simp only [List.nodup_cons, List.mem_cons, List.not_mem_nil, or_false, not_or, List.nodup_nil, not_false_eq_true, and_true]; omega) (map_s (rfl) (map_s (fq0 (B := fun j g => bRuleG K (f0_rules j) g) (l := [bNextStallG K (a0 0) (fun j => some (f0_rules j 0)) f0_images ((a0 1) 0) ((a0 2) 0) ((a0 3) 0) ((a0 7) 0) ((a0 8) 0) g0, bTapeG K (a0 1) g1, bCursorG K (a0 2) g2, bWorldG K (a0 3) ((a0 4) 0) ((a0 5) 0) ((a0 6) 0) g3, bFairG K (a0 4) g4, bFairG K (a0 5) g5, bNotesG K (a0 6) g6, bPastG K (a0 7) f7_fairs g7, bTrialsG K (a0 8) ((a0 9) 0) ((a0 10) 0) ((a0 11) 0) g8, bFairG K (a0 9) q4, bOrderG K (a0 10) g10, bOrderG K (a0 11) g11]) rfl hj5) map_n)) rfl (stm_s (bs1 := ([bNextStallG K (a0 0) (fun j => some (f0_rules j 0)) f0_images ((a0 1) 0) ((a0 2) 0) ((a0 3) 0) ((a0 7) 0) ((a0 8) 0) g0, bTapeG K (a0 1) g1, bCursorG K (a0 2) g2, bWorldG K (a0 3) ((a0 4) 0) ((a0 5) 0) ((a0 6) 0) g3, bFairG K (a0 4) g4, bFairG K (a0 5) g5, bNotesG K (a0 6) g6, bPastG K (a0 7) f7_fairs g7, bTrialsG K (a0 8) ((a0 9) 0) ((a0 10) 0) ((a0 11) 0) g8, bFair K (a0 9) q4.1 q4.2.1 q4.2.2.1 q4.2.2.2.1 q7.2.1 q7.2.2.1 q4.2.2.2.2.2.2.1 q4.2.2.2.2.2.2.2.1 q7.2.2.2.1 q7.2.2.2.2.1 q7.2.2.2.2.2.1 q4.2.2.2.2.2.2.2.2.2.2.2.1 q4.2.2.2.2.2.2.2.2.2.2.2.2.1 q7.2.2.2.2.2.2.1 q4.2.2.2.2.2.2.2.2.2.2.2.2.2.2.1 q7.2.2.2.2.2.2.2.1 q4.2.2.2.2.2.2.2.2.2.2.2.2.2.2.2.2.1 q4.2.2.2.2.2.2.2.2.2.2.2.2.2.2.2.2.2.1 q4.2.2.2.2.2.2.2.2.2.2.2.2.2.2.2.2.2.2, bOrderG K (a0 10) g10, bOrderG K (a0 11) g11] ++ (fam 6 (fun j => bRuleG K (f0_rules j) (p0_rules0 j)) ++ []))) (rfl) (stm_s (bs1 := ([bNextStallG K (a0 0) (fun j => some (f0_rules j 0)) f0_images ((a0 1) 0) ((a0 2) 0) ((a0 3) 0) ((a0 7) 0) ((a0 8) 0) g0, bTapeG K (a0 1) g1, bCursorG K (a0 2) g2, bWorldG K (a0 3) ((a0 4) 0) ((a0 5) 0) ((a0 6) 0) g3, bFairG K (a0 4) g4, bFairG K (a0 5) g5, bNotesG K (a0 6) g6, bPastG K (a0 7) f7_fairs g7, bTrialsG K (a0 8) ((a0 9) 0) ((a0 10) 0) ((a0 11) 0) g8, bFair K (a0 9) q4.1 q4.2.1 q4.2.2.1 q4.2.2.2.1 q7.2.1 q7.2.2.1 q4.2.2.2.2.2.2.1 q4.2.2.2.2.2.2.2.1 q7.2.2.2.1 q7.2.2.2.2.1 q7.2.2.2.2.2.1 q4.2.2.2.2.2.2.2.2.2.2.2.1 q4.2.2.2.2.2.2.2.2.2.2.2.2.1 q7.2.2.2.2.2.2.1 q4.2.2.2.2.2.2.2.2.2.2.2.2.2.2.1 q7.2.2.2.2.2.2.2.1 q4.2.2.2.2.2.2.2.2.2.2.2.2.2.2.2.2.1 q4.2.2.2.2.2.2.2.2.2.2.2.2.2.2.2.2.2.1 q4.2.2.2.2.2.2.2.2.2.2.2.2.2.2.2.2.2.2, bOrderG K (a0 10) g10, bOrderG K (a0 11) g11] ++ (fam 6 (fun j => bRuleG K (f0_rules j) ((va_up p0_rules0 j5 ((p0_rules0 j5).1, (p0_rules0 j5).2.1, (p0_rules0 j5).2.2.1, (p0_rules0 j5).2.2.2.1, (p0_rules0 j5).2.2.2.2.1, (p0_rules0 j5).2.2.2.2.2.1, (p0_rules0 j5).2.2.2.2.2.2.1, (p0_rules0 j5).2.2.2.2.2.2.2.1, q7.2.2.2.2.2.2.2.2.1, q7.2.2.2.2.2.2.2.2.2)) j)) ++ []))) (fs0 (B := fun j g => bRuleG K (f0_rules j) g) (g := ((p0_rules0 j5).1, (p0_rules0 j5).2.1, (p0_rules0 j5).2.2.1, (p0_rules0 j5).2.2.2.1, (p0_rules0 j5).2.2.2.2.1, (p0_rules0 j5).2.2.2.2.2.1, (p0_rules0 j5).2.2.2.2.2.2.1, (p0_rules0 j5).2.2.2.2.2.2.2.1, q7.2.2.2.2.2.2.2.2.1, q7.2.2.2.2.2.2.2.2.2)) (l := [bNextStallG K (a0 0) (fun j => some (f0_rules j 0)) f0_images ((a0 1) 0) ((a0 2) 0) ((a0 3) 0) ((a0 7) 0) ((a0 8) 0) g0, bTapeG K (a0 1) g1, bCursorG K (a0 2) g2, bWorldG K (a0 3) ((a0 4) 0) ((a0 5) 0) ((a0 6) 0) g3, bFairG K (a0 4) g4, bFairG K (a0 5) g5, bNotesG K (a0 6) g6, bPastG K (a0 7) f7_fairs g7, bTrialsG K (a0 8) ((a0 9) 0) ((a0 10) 0) ((a0 11) 0) g8, bFair K (a0 9) q4.1 q4.2.1 q4.2.2.1 q4.2.2.2.1 q7.2.1 q7.2.2.1 q4.2.2.2.2.2.2.1 q4.2.2.2.2.2.2.2.1 q7.2.2.2.1 q7.2.2.2.2.1 q7.2.2.2.2.2.1 q4.2.2.2.2.2.2.2.2.2.2.2.1 q4.2.2.2.2.2.2.2.2.2.2.2.2.1 q7.2.2.2.2.2.2.1 q4.2.2.2.2.2.2.2.2.2.2.2.2.2.2.1 q7.2.2.2.2.2.2.2.1 q4.2.2.2.2.2.2.2.2.2.2.2.2.2.2.2.2.1 q4.2.2.2.2.2.2.2.2.2.2.2.2.2.2.2.2.2.1 q4.2.2.2.2.2.2.2.2.2.2.2.2.2.2.2.2.2.2, bOrderG K (a0 10) g10, bOrderG K (a0 11) g11]) rfl hj5) stm_n)) rfl rfl rfl rfl dX11_taken_42 ?_
        have hq := Option.some.inj h
        subst hq
        exact r_iret rfl dX11_taken_45
    · replace h := it_pos c3 h
      refine r_iconst (x := (-1 : Int32)) dX11_taken_20 (by decide) ?_
      have hq := Option.some.inj h
      subst hq
      exact r_iret rfl dX11_taken_21
end
theorem dX11_bestRing_0 : decode cX11_bestRing 0 = .ok (.aload_n 0, 1) := by decide +kernel
theorem dX11_bestRing_1 : decode cX11_bestRing 1 = .ok (.getfield 36, 3) := by decide +kernel
theorem dX11_bestRing_4 : decode cX11_bestRing 4 = .ok (.getfield 166, 3) := by decide +kernel
theorem dX11_bestRing_7 : decode cX11_bestRing 7 = .ok (.ifCond .eq 20, 3) := by decide +kernel
theorem dX11_bestRing_10 : decode cX11_bestRing 10 = .ok (.iload_n 1, 1) := by decide +kernel
theorem dX11_bestRing_11 : decode cX11_bestRing 11 = .ok (.iconst 1, 1) := by decide +kernel
theorem dX11_bestRing_12 : decode cX11_bestRing 12 = .ok (.bipush 40, 2) := by decide +kernel
theorem dX11_bestRing_14 : decode cX11_bestRing 14 = .ok (.invokestatic 70, 3) := by decide +kernel
theorem dX11_bestRing_17 : decode cX11_bestRing 17 = .ok (.ifCond .eq 10, 3) := by decide +kernel
theorem dX11_bestRing_20 : decode cX11_bestRing 20 = .ok (.iload_n 2, 1) := by decide +kernel
theorem dX11_bestRing_21 : decode cX11_bestRing 21 = .ok (.invokestatic 212, 3) := by decide +kernel
theorem dX11_bestRing_24 : decode cX11_bestRing 24 = .ok (.ifCond .ne 6, 3) := by decide +kernel
theorem dX11_bestRing_27 : decode cX11_bestRing 27 = .ok (.bipush (-3), 2) := by decide +kernel
theorem dX11_bestRing_29 : decode cX11_bestRing 29 = .ok (.ireturn, 1) := by decide +kernel
theorem dX11_bestRing_30 : decode cX11_bestRing 30 = .ok (.aload_n 0, 1) := by decide +kernel
theorem dX11_bestRing_31 : decode cX11_bestRing 31 = .ok (.getfield 58, 3) := by decide +kernel
theorem dX11_bestRing_34 : decode cX11_bestRing 34 = .ok (.aload_n 0, 1) := by decide +kernel
theorem dX11_bestRing_35 : decode cX11_bestRing 35 = .ok (.getfield 36, 3) := by decide +kernel
theorem dX11_bestRing_38 : decode cX11_bestRing 38 = .ok (.getfield 119, 3) := by decide +kernel
theorem dX11_bestRing_41 : decode cX11_bestRing 41 = .ok (.aload_n 0, 1) := by decide +kernel
theorem dX11_bestRing_42 : decode cX11_bestRing 42 = .ok (.invokevirtual 176, 3) := by decide +kernel
theorem dX11_bestRing_45 : decode cX11_bestRing 45 = .ok (.iload_n 1, 1) := by decide +kernel
theorem dX11_bestRing_46 : decode cX11_bestRing 46 = .ok (.invokevirtual 215, 3) := by decide +kernel
theorem dX11_bestRing_49 : decode cX11_bestRing 49 = .ok (.istore_n 3, 1) := by decide +kernel
theorem dX11_bestRing_50 : decode cX11_bestRing 50 = .ok (.iload_n 2, 1) := by decide +kernel
theorem dX11_bestRing_51 : decode cX11_bestRing 51 = .ok (.iconst (-1), 1) := by decide +kernel
theorem dX11_bestRing_52 : decode cX11_bestRing 52 = .ok (.if_icmp .ne 7, 3) := by decide +kernel
theorem dX11_bestRing_55 : decode cX11_bestRing 55 = .ok (.iload_n 3, 1) := by decide +kernel
theorem dX11_bestRing_56 : decode cX11_bestRing 56 = .ok (.goto 11, 3) := by decide +kernel
theorem dX11_bestRing_59 : decode cX11_bestRing 59 = .ok (.aload_n 0, 1) := by decide +kernel
theorem dX11_bestRing_60 : decode cX11_bestRing 60 = .ok (.getfield 58, 3) := by decide +kernel
theorem dX11_bestRing_63 : decode cX11_bestRing 63 = .ok (.iload_n 2, 1) := by decide +kernel
theorem dX11_bestRing_64 : decode cX11_bestRing 64 = .ok (.invokevirtual 219, 3) := by decide +kernel
theorem dX11_bestRing_67 : decode cX11_bestRing 67 = .ok (.ireturn, 1) := by decide +kernel
abbrev MNextStall_bestRing : rx_M := (RX11, yX11_bestRing, cX11_bestRing, 4, (some .int), 7)
theorem kNextStall_bestRing : rKv MNextStall_bestRing 2 := ⟨tb_in (i := 33) (j := 23) rfl rfl, tb_in (i := 33) (j := 24) rfl rfl, tb_in (i := 2) (j := 22) rfl rfl, tb_in (i := 15) (j := 5) rfl rfl, ⟨by decide, by decide, by decide +kernel⟩, by decide⟩
section
variable {a0 : Nat → Nat → Nat} {g0 : tyNextStall} {g1 : tyTape} {g2 : tyCursor} {g3 : tyWorld} {g4 : tyFair} {g5 : tyFair} {g6 : tyNotes} {g7 : tyPast} {g8 : tyTrials} {g9 : tyFair} {g10 : tyOrder} {g11 : tyOrder} {f0_rules : Nat → Nat → Nat} {f0_images : Nat → Option Nat} {f7_fairs : Nat → Option Nat} {p0_rules0 : Nat → tyRule}
def mNextStall_bestRing (x1 : Int32) (x2 : Int32) (g0 : tyNextStall) (g3 : tyWorld) (g5 : tyFair) (g9 : tyFair) (g10 : tyOrder) (g11 : tyOrder) (p0_rules0 : Nat → tyRule) : Option (Int32 × tyFair × tyOrder × tyOrder × (Nat → tyRule)) := (if g3.1 = 0 then some ((-3 : Int32), g9, g10, g11, p0_rules0) else (mNextStall_within x1 (1 : Int32) (40 : Int32)).bind (fun q2 => (if q2 = 0 then some ((-3 : Int32), g9, g10, g11, p0_rules0) else (mNextStall_isPlaceOrNone x2).bind (fun q4 => (if q4 = 0 then some ((-3 : Int32), g9, g10, g11, p0_rules0) else (mNextStall_ruleInForce g0 g3).bind (fun q6 => mt q6 ((mTrials_findBestRingrn x1 g9 g10 g11 g5).bind (fun q7 => (if x2 = (-1 : Int32) then some (q7.1, q7.2.1, q7.2.2.1, q7.2.2.2, p0_rules0) else (mTrials_whoStandsAt x2 q7.2.2.2).bind (fun q9 => some (q9, q7.2.1, q7.2.2.1, q7.2.2.2, p0_rules0))))) (fun j6 => rq (decide (j6 < 6)) ((mTrials_findBestRingrr x1 g9 g10 g11 g5 (p0_rules0 j6)).bind (fun q10 => (if x2 = (-1 : Int32) then some (q10.1, q10.2.1, q10.2.2.1, q10.2.2.2.1, (va_up p0_rules0 j6 q10.2.2.2.2)) else (mTrials_whoStandsAt x2 q10.2.2.2.1).bind (fun q12 => some (q12, q10.2.1, q10.2.2.1, q10.2.2.2.1, (va_up p0_rules0 j6 q10.2.2.2.2)))))))))))))
set_option maxHeartbeats 4000000 in
set_option maxRecDepth 20000 in
theorem cNextStall_bestRing {q : Int32 × tyFair × tyOrder × tyOrder × (Nat → tyRule)} {x1 : Int32} {x2 : Int32} (h : mNextStall_bestRing x1 x2 g0 g3 g5 g9 g10 g11 p0_rules0 = some q) : rMet l D Z (ty7 K) MNextStall_bestRing [.ref ((a0 0) 0), .int x1, .int x2] (List.flatten ([bNextStallG K (a0 0) (fun j => some (f0_rules j 0)) f0_images ((a0 1) 0) ((a0 2) 0) ((a0 3) 0) ((a0 7) 0) ((a0 8) 0) g0, bTapeG K (a0 1) g1, bCursorG K (a0 2) g2, bWorldG K (a0 3) ((a0 4) 0) ((a0 5) 0) ((a0 6) 0) g3, bFairG K (a0 4) g4, bFairG K (a0 5) g5, bNotesG K (a0 6) g6, bPastG K (a0 7) f7_fairs g7, bTrialsG K (a0 8) ((a0 9) 0) ((a0 10) 0) ((a0 11) 0) g8, bFairG K (a0 9) g9, bOrderG K (a0 10) g10, bOrderG K (a0 11) g11] ++ (fam 6 (fun j => bRuleG K (f0_rules j) (p0_rules0 j)) ++ []))) (List.flatten ([bNextStallG K (a0 0) (fun j => some (f0_rules j 0)) f0_images ((a0 1) 0) ((a0 2) 0) ((a0 3) 0) ((a0 7) 0) ((a0 8) 0) g0, bTapeG K (a0 1) g1, bCursorG K (a0 2) g2, bWorldG K (a0 3) ((a0 4) 0) ((a0 5) 0) ((a0 6) 0) g3, bFairG K (a0 4) g4, bFairG K (a0 5) g5, bNotesG K (a0 6) g6, bPastG K (a0 7) f7_fairs g7, bTrialsG K (a0 8) ((a0 9) 0) ((a0 10) 0) ((a0 11) 0) g8, bFairG K (a0 9) q.2.1, bOrderG K (a0 10) q.2.2.1, bOrderG K (a0 11) q.2.2.2.1] ++ (fam 6 (fun j => bRuleG K (f0_rules j) (q.2.2.2.2 j)) ++ []))) (some (.int q.1)) := by
  refine rMet.of (by decide) rfl (Nat.le_of_ble_eq_true rfl) ?_
  refine r_sub (lv' := [(0, .ref ((a0 0) 0)), (1, .int x1), (2, .int x2)]) [0, 1, 2] rfl ?_
  unfold mNextStall_bestRing at h
  refine r_aload_n 0 dX11_bestRing_0 rfl ?_
  refine gNextStall_world 0 rfl (tb_in (i := 12) (j := 26) rfl rfl) dX11_bestRing_1 ?_
  refine gWorld_openN 3 rfl (List.mem_of_getElem? (i := 50) rfl) dX11_bestRing_4 ?_
  refine r_if_eq 27 dX11_bestRing_7 (by decide) (fun c1 => ?_) (fun c1 => ?_)
  · replace h := it_pos c1 h
    refine r_bipush (x := (-3 : Int32)) dX11_bestRing_27 (by decide) ?_
    have hq := Option.some.inj h
    subst hq
    exact r_iret rfl dX11_bestRing_29
  · replace h := it_neg c1 h
    refine r_iload_n 1 dX11_bestRing_10 rfl ?_
    refine r_iconst (x := (1 : Int32)) dX11_bestRing_11 (by decide) ?_
    refine r_bipush (x := (40 : Int32)) dX11_bestRing_12 (by decide) ?_
    obtain ⟨q2, h2, h⟩ := bd_some h
    refine b_callS (isC := []) (st := []) (bs1 := ([bNextStallG K (a0 0) (fun j => some (f0_rules j 0)) f0_images ((a0 1) 0) ((a0 2) 0) ((a0 3) 0) ((a0 7) 0) ((a0 8) 0) g0, bTapeG K (a0 1) g1, bCursorG K (a0 2) g2, bWorldG K (a0 3) ((a0 4) 0) ((a0 5) 0) ((a0 6) 0) g3, bFairG K (a0 4) g4, bFairG K (a0 5) g5, bNotesG K (a0 6) g6, bPastG K (a0 7) f7_fairs g7, bTrialsG K (a0 8) ((a0 9) 0) ((a0 10) 0) ((a0 11) 0) g8, bFairG K (a0 9) g9, bOrderG K (a0 10) g10, bOrderG K (a0 11) g11] ++ (fam 6 (fun j => bRuleG K (f0_rules j) (p0_rules0 j)) ++ []))) (cNextStall_within   h2) rfl rfl (Nat.le_of_ble_eq_true rfl) kNextStall_within (tb_in (i := 13) (j := 17) rfl rfl) (by decide) (by decide) rfl rfl rfl dX11_bestRing_14 ?_
    refine r_if_eq 27 dX11_bestRing_17 (by decide) (fun c3 => ?_) (fun c3 => ?_)
    · replace h := it_pos c3 h
      refine r_bipush (x := (-3 : Int32)) dX11_bestRing_27 (by decide) ?_
      have hq := Option.some.inj h
      subst hq
      exact r_iret rfl dX11_bestRing_29
    · replace h := it_neg c3 h
      refine r_iload_n 2 dX11_bestRing_20 rfl ?_
      obtain ⟨q4, h4, h⟩ := bd_some h
      refine b_callS (isC := []) (st := []) (bs1 := ([bNextStallG K (a0 0) (fun j => some (f0_rules j 0)) f0_images ((a0 1) 0) ((a0 2) 0) ((a0 3) 0) ((a0 7) 0) ((a0 8) 0) g0, bTapeG K (a0 1) g1, bCursorG K (a0 2) g2, bWorldG K (a0 3) ((a0 4) 0) ((a0 5) 0) ((a0 6) 0) g3, bFairG K (a0 4) g4, bFairG K (a0 5) g5, bNotesG K (a0 6) g6, bPastG K (a0 7) f7_fairs g7, bTrialsG K (a0 8) ((a0 9) 0) ((a0 10) 0) ((a0 11) 0) g8, bFairG K (a0 9) g9, bOrderG K (a0 10) g10, bOrderG K (a0 11) g11] ++ (fam 6 (fun j => bRuleG K (f0_rules j) (p0_rules0 j)) ++ []))) (cNextStall_isPlaceOrNone   h4) rfl rfl (Nat.le_of_ble_eq_true rfl) kNextStall_isPlaceOrNone (tb_in (i := 14) (j := 31) rfl rfl) (by decide) (by decide) rfl rfl rfl dX11_bestRing_21 ?_
      refine r_if_ne 30 dX11_bestRing_24 (by decide) (fun c5 => ?_) (fun c5 => ?_)
      · replace h := it_neg c5 h
        refine r_aload_n 0 dX11_bestRing_30 rfl ?_
        refine gNextStall_trials 0 rfl (tb_in (i := 13) (j := 4) rfl rfl) dX11_bestRing_31 ?_
        refine r_aload_n 0 dX11_bestRing_34 rfl ?_
        refine gNextStall_world 0 rfl (tb_in (i := 12) (j := 26) rfl rfl) dX11_bestRing_35 ?_
        refine gWorld_nowN 3 rfl (List.mem_of_getElem? (i := 55) rfl) dX11_bestRing_38 ?_
        refine r_aload_n 0 dX11_bestRing_41 rfl ?_
        obtain ⟨q6, h6, h⟩ := bd_some h
        refine b_callV (isC := ([0, 1, 2, 3, 4, 5, 6, 7, 8, 9, 10, 11] ++ (List.range' 12 6 ++ []))) (ci := 9)  (st := [.ref ((a0 5) 0), .ref ((a0 8) 0)]) (bs1 := ([bNextStallG K (a0 0) (fun j => some (f0_rules j 0)) f0_images ((a0 1) 0) ((a0 2) 0) ((a0 3) 0) ((a0 7) 0) ((a0 8) 0) g0, bTapeG K (a0 1) g1, bCursorG K (a0 2) g2, bWorldG K (a0 3) ((a0 4) 0) ((a0 5) 0) ((a0 6) 0) g3, bFairG K (a0 4) g4, bFairG K (a0 5) g5, bNotesG K (a0 6) g6, bPastG K (a0 7) f7_fairs g7, bTrialsG K (a0 8) ((a0 9) 0) ((a0 10) 0) ((a0 11) 0) g8, bFairG K (a0 9) g9, bOrderG K (a0 10) g10, bOrderG K (a0 11) g11] ++ (fam 6 (fun j => bRuleG K (f0_rules j) (p0_rules0 j)) ++ []))) (cNextStall_ruleInForce (a0 := a0) (f0_rules := f0_rules) (g0 := g0) (g1 := g1) (g2 := g2) (g3 := g3) (g4 := g4) (g5 := g5) (g6 := g6) (g7 := g7) (g8 := g8) (g9 := g9) (g10 := g10) (g11 := g11) (p0_rules0 := p0_rules0) h6) rfl rfl (Nat.le_of_ble_eq_true rfl) kNextStall_ruleInForce (tb_in (i := 14) (j := 11) rfl rfl) (by decide) (by decide +kernel) (map_app rfl (map_app (map_f0 (n := 6) (l := [bNextStallG K (a0 0) (fun j => some (f0_rules j 0)) f0_images ((a0 1) 0) ((a0 2) 0) ((a0 3) 0) ((a0 7) 0) ((a0 8) 0) g0, bTapeG K (a0 1) g1, bCursorG K (a0 2) g2, bWorldG K (a0 3) ((a0 4) 0) ((a0 5) 0) ((a0 6) 0) g3, bFairG K (a0 4) g4, bFairG K (a0 5) g5, bNotesG K (a0 6) g6, bPastG K (a0 7) f7_fairs g7, bTrialsG K (a0 8) ((a0 9) 0) ((a0 10) 0) ((a0 11) 0) g8, bFairG K (a0 9) g9, bOrderG K (a0 10) g10, bOrderG K (a0 11) g11]) rfl) rfl)) (by simp only [List.length_append, fam_len, List.length_range', List.length_cons, List.length_nil]) (stm_a (bs1 := ([bNextStallG K (a0 0) (fun j => some (f0_rules j 0)) f0_images ((a0 1) 0) ((a0 2) 0) ((a0 3) 0) ((a0 7) 0) ((a0 8) 0) g0, bTapeG K (a0 1) g1, bCursorG K (a0 2) g2, bWorldG K (a0 3) ((a0 4) 0) ((a0 5) 0) ((a0 6) 0) g3, bFairG K (a0 4) g4, bFairG K (a0 5) g5, bNotesG K (a0 6) g6, bPastG K (a0 7) f7_fairs g7, bTrialsG K (a0 8) ((a0 9) 0) ((a0 10) 0) ((a0 11) 0) g8, bFairG K (a0 9) g9, bOrderG K (a0 10) g10, bOrderG K (a0 11) g11] ++ (fam 6 (fun j => bRuleG K (f0_rules j) (p0_rules0 j)) ++ []))) rfl rfl (stm_a (bs1 := ([bNextStallG K (a0 0) (fun j => some (f0_rules j 0)) f0_images ((a0 1) 0) ((a0 2) 0) ((a0 3) 0) ((a0 7) 0) ((a0 8) 0) g0, bTapeG K (a0 1) g1, bCursorG K (a0 2) g2, bWorldG K (a0 3) ((a0 4) 0) ((a0 5) 0) ((a0 6) 0) g3, bFairG K (a0 4) g4, bFairG K (a0 5) g5, bNotesG K (a0 6) g6, bPastG K (a0 7) f7_fairs g7, bTrialsG K (a0 8) ((a0 9) 0) ((a0 10) 0) ((a0 11) 0) g8, bFairG K (a0 9) g9, bOrderG K (a0 10) g10, bOrderG K (a0 11) g11] ++ (fam 6 (fun j => bRuleG K (f0_rules j) (p0_rules0 j)) ++ []))) (by rw [List.length_range', fam_len]) (stm_f0 (n := 6) (l := [bNextStallG K (a0 0) (fun j => some (f0_rules j 0)) f0_images ((a0 1) 0) ((a0 2) 0) ((a0 3) 0) ((a0 7) 0) ((a0 8) 0) g0, bTapeG K (a0 1) g1, bCursorG K (a0 2) g2, bWorldG K (a0 3) ((a0 4) 0) ((a0 5) 0) ((a0 6) 0) g3, bFairG K (a0 4) g4, bFairG K (a0 5) g5, bNotesG K (a0 6) g6, bPastG K (a0 7) f7_fairs g7, bTrialsG K (a0 8) ((a0 9) 0) ((a0 10) 0) ((a0 11) 0) g8, bFairG K (a0 9) g9, bOrderG K (a0 10) g10, bOrderG K (a0 11) g11]) rfl) rfl)) rfl rfl rfl rfl dX11_bestRing_42 ?_
        cases q6 with
        | none =>
          replace h := mt_n h
          refine r_st (st' := [.null, .ref ((a0 5) 0), .ref ((a0 8) 0)]) rfl ?_
          refine r_iload_n 1 dX11_bestRing_45 rfl ?_
          obtain ⟨q7, h7, h⟩ := bd_some h
          refine b_callVN (isC := [8, 9, 10, 11, 5]) (ci := 7)  (st := []) (bs1 := ([bNextStallG K (a0 0) (fun j => some (f0_rules j 0)) f0_images ((a0 1) 0) ((a0 2) 0) ((a0 3) 0) ((a0 7) 0) ((a0 8) 0) g0, bTapeG K (a0 1) g1, bCursorG K (a0 2) g2, bWorldG K (a0 3) ((a0 4) 0) ((a0 5) 0) ((a0 6) 0) g3, bFairG K (a0 4) g4, bFairG K (a0 5) g5, bNotesG K (a0 6) g6, bPastG K (a0 7) f7_fairs g7, bTrialsG K (a0 8) ((a0 9) 0) ((a0 10) 0) ((a0 11) 0) g8, bFairG K (a0 9) q7.2.1, bOrderG K (a0 10) q7.2.2.1, bOrderG K (a0 11) q7.2.2.2] ++ (fam 6 (fun j => bRuleG K (f0_rules j) (p0_rules0 j)) ++ []))) (cTrials_findBestRingrn (a0 := fun b => a0 (8 + b)) (a1 := (a0 5)) (g0 := g8) (g1 := g9) (g2 := g10) (g3 := g11) (g4 := g5) h7) rfl rfl (Nat.le_of_ble_eq_true rfl) kTrials_findBestRingrn (List.mem_of_getElem? (i := 54) rfl) (by decide) (by decide) rfl rfl rfl rfl rfl rfl rfl dX11_bestRing_46 ?_
          refine r_istore_n (lv' := [(3, .int q7.1), (0, .ref ((a0 0) 0)), (1, .int x1), (2, .int x2)]) dX11_bestRing_49 (Nat.le_of_ble_eq_true rfl) rfl ?_
          refine r_iload_n 3 dX11_bestRing_50 rfl ?_
          refine r_iconst (x := (-1 : Int32)) dX11_bestRing_51 (by decide) ?_
          refine r_icmp_ne 59 dX11_bestRing_52 (by decide) (fun c8 => ?_) (fun c8 => ?_)
          · replace h := it_neg c8 h
            refine r_aload_n 1 dX11_bestRing_59 rfl ?_
            refine gNextStall_trials 0 rfl (tb_in (i := 13) (j := 4) rfl rfl) dX11_bestRing_60 ?_
            refine r_iload_n 3 dX11_bestRing_63 rfl ?_
            obtain ⟨q9, h9, h⟩ := bd_some h
            refine b_callVN (isC := [8, 9, 10, 11]) (ci := 7)  (st := []) (bs1 := ([bNextStallG K (a0 0) (fun j => some (f0_rules j 0)) f0_images ((a0 1) 0) ((a0 2) 0) ((a0 3) 0) ((a0 7) 0) ((a0 8) 0) g0, bTapeG K (a0 1) g1, bCursorG K (a0 2) g2, bWorldG K (a0 3) ((a0 4) 0) ((a0 5) 0) ((a0 6) 0) g3, bFairG K (a0 4) g4, bFairG K (a0 5) g5, bNotesG K (a0 6) g6, bPastG K (a0 7) f7_fairs g7, bTrialsG K (a0 8) ((a0 9) 0) ((a0 10) 0) ((a0 11) 0) g8, bFairG K (a0 9) q7.2.1, bOrderG K (a0 10) q7.2.2.1, bOrderG K (a0 11) q7.2.2.2] ++ (fam 6 (fun j => bRuleG K (f0_rules j) (p0_rules0 j)) ++ []))) (cTrials_whoStandsAt (a0 := fun b => a0 (8 + b)) (g0 := g8) (g1 := q7.2.1) (g2 := q7.2.2.1) (g3 := q7.2.2.2) h9) rfl rfl (Nat.le_of_ble_eq_true rfl) kTrials_whoStandsAt (List.mem_of_getElem? (i := 60) rfl) (by decide) (by decide) rfl rfl rfl rfl rfl rfl rfl dX11_bestRing_64 ?_
            have hq := Option.some.inj h
            subst hq
            exact r_iret rfl dX11_bestRing_67
          · replace h := it_pos c8 h
            refine r_iload_n 0 dX11_bestRing_55 rfl ?_
            refine r_goto 67 dX11_bestRing_56 (by decide) ?_
            have hq := Option.some.inj h
            subst hq
            exact r_iret rfl dX11_bestRing_67
        | some j6 =>
          replace h := mt_s h
          obtain ⟨hg6, h⟩ := rq_some h
          have hj6 := of_decide_eq_true hg6
          refine r_st (st' := [.ref (f0_rules j6 0), .ref ((a0 5) 0), .ref ((a0 8) 0)]) rfl ?_
          refine r_iload_n 1 dX11_bestRing_45 rfl ?_
          obtain ⟨q10, h10, h⟩ := bd_some h
          refine b_callVN (isC := [8, 9, 10, 11, 5, 12 + j6]) (ci := 7)  (st := []) (bs1 := ([bNextStallG K (a0 0) (fun j => some (f0_rules j 0)) f0_images ((a0 1) 0) ((a0 2) 0) ((a0 3) 0) ((a0 7) 0) ((a0 8) 0) g0, bTapeG K (a0 1) g1, bCursorG K (a0 2) g2, bWorldG K (a0 3) ((a0 4) 0) ((a0 5) 0) ((a0 6) 0) g3, bFairG K (a0 4) g4, bFairG K (a0 5) g5, bNotesG K (a0 6) g6, bPastG K (a0 7) f7_fairs g7, bTrialsG K (a0 8) ((a0 9) 0) ((a0 10) 0) ((a0 11) 0) g8, bFairG K (a0 9) q10.2.1, bOrderG K (a0 10) q10.2.2.1, bOrderG K (a0 11) q10.2.2.2.1] ++ (fam 6 (fun j => bRuleG K (f0_rules j) ((va_up p0_rules0 j6 q10.2.2.2.2) j)) ++ []))) (cTrials_findBestRingrr (a0 := fun b => a0 (8 + b)) (a1 := (a0 5)) (a2 := f0_rules j6) (g0 := g8) (g1 := g9) (g2 := g10) (g3 := g11) (g4 := g5) (g5 := (p0_rules0 j6)) h10) rfl rfl (Nat.le_of_ble_eq_true rfl) kTrials_findBestRingrr (List.mem_of_getElem? (i := 54) rfl) (by decide) (by simp only [List.nodup_cons, List.mem_cons, List.not_mem_nil, or_false, not_or, List.nodup_nil, not_false_eq_true, and_true]; omega) (map_s (rfl) (map_s (rfl) (map_s (rfl) (map_s (rfl) (map_s (rfl) (map_s (fq0 (B := fun j g => bRuleG K (f0_rules j) g) (l := [bNextStallG K (a0 0) (fun j => some (f0_rules j 0)) f0_images ((a0 1) 0) ((a0 2) 0) ((a0 3) 0) ((a0 7) 0) ((a0 8) 0) g0, bTapeG K (a0 1) g1, bCursorG K (a0 2) g2, bWorldG K (a0 3) ((a0 4) 0) ((a0 5) 0) ((a0 6) 0) g3, bFairG K (a0 4) g4, bFairG K (a0 5) g5, bNotesG K (a0 6) g6, bPastG K (a0 7) f7_fairs g7, bTrialsG K (a0 8) ((a0 9) 0) ((a0 10) 0) ((a0 11) 0) g8, bFairG K (a0 9) g9, bOrderG K (a0 10) g10, bOrderG K (a0 11) g11]) rfl hj6) map_n)))))) rfl (stm_s (bs1 := ([bNextStallG K (a0 0) (fun j => some (f0_rules j 0)) f0_images ((a0 1) 0) ((a0 2) 0) ((a0 3) 0) ((a0 7) 0) ((a0 8) 0) g0, bTapeG K (a0 1) g1, bCursorG K (a0 2) g2, bWorldG K (a0 3) ((a0 4) 0) ((a0 5) 0) ((a0 6) 0) g3, bFairG K (a0 4) g4, bFairG K (a0 5) g5, bNotesG K (a0 6) g6, bPastG K (a0 7) f7_fairs g7, bTrialsG K (a0 8) ((a0 9) 0) ((a0 10) 0) ((a0 11) 0) g8, bFairG K (a0 9) g9, bOrderG K (a0 10) g10, bOrderG K (a0 11) g11] ++ (fam 6 (fun j => bRuleG K (f0_rules j) (p0_rules0 j)) ++ []))) (rfl) (stm_s (bs1 := ([bNextStallG K (a0 0) (fun j => some (f0_rules j 0)) f0_images ((a0 1) 0) ((a0 2) 0) ((a0 3) 0) ((a0 7) 0) ((a0 8) 0) g0, bTapeG K (a0 1) g1, bCursorG K (a0 2) g2, bWorldG K (a0 3) ((a0 4) 0) ((a0 5) 0) ((a0 6) 0) g3, bFairG K (a0 4) g4, bFairG K (a0 5) g5, bNotesG K (a0 6) g6, bPastG K (a0 7) f7_fairs g7, bTrialsG K (a0 8) ((a0 9) 0) ((a0 10) 0) ((a0 11) 0) g8, bFairG K (a0 9) q10.2.1, bOrderG K (a0 10) g10, bOrderG K (a0 11) g11] ++ (fam 6 (fun j => bRuleG K (f0_rules j) (p0_rules0 j)) ++ []))) (rfl) (stm_s (bs1 := ([bNextStallG K (a0 0) (fun j => some (f0_rules j 0)) f0_images ((a0 1) 0) ((a0 2) 0) ((a0 3) 0) ((a0 7) 0) ((a0 8) 0) g0, bTapeG K (a0 1) g1, bCursorG K (a0 2) g2, bWorldG K (a0 3) ((a0 4) 0) ((a0 5) 0) ((a0 6) 0) g3, bFairG K (a0 4) g4, bFairG K (a0 5) g5, bNotesG K (a0 6) g6, bPastG K (a0 7) f7_fairs g7, bTrialsG K (a0 8) ((a0 9) 0) ((a0 10) 0) ((a0 11) 0) g8, bFairG K (a0 9) q10.2.1, bOrderG K (a0 10) q10.2.2.1, bOrderG K (a0 11) g11] ++ (fam 6 (fun j => bRuleG K (f0_rules j) (p0_rules0 j)) ++ []))) (rfl) (stm_s (bs1 := ([bNextStallG K (a0 0) (fun j => some (f0_rules j 0)) f0_images ((a0 1) 0) ((a0 2) 0) ((a0 3) 0) ((a0 7) 0) ((a0 8) 0) g0, bTapeG K (a0 1) g1, bCursorG K (a0 2) g2, bWorldG K (a0 3) ((a0 4) 0) ((a0 5) 0) ((a0 6) 0) g3, bFairG K (a0 4) g4, bFairG K (a0 5) g5, bNotesG K (a0 6) g6, bPastG K (a0 7) f7_fairs g7, bTrialsG K (a0 8) ((a0 9) 0) ((a0 10) 0) ((a0 11) 0) g8, bFairG K (a0 9) q10.2.1, bOrderG K (a0 10) q10.2.2.1, bOrderG K (a0 11) q10.2.2.2.1] ++ (fam 6 (fun j => bRuleG K (f0_rules j) (p0_rules0 j)) ++ []))) (rfl) (stm_s (bs1 := ([bNextStallG K (a0 0) (fun j => some (f0_rules j 0)) f0_images ((a0 1) 0) ((a0 2) 0) ((a0 3) 0) ((a0 7) 0) ((a0 8) 0) g0, bTapeG K (a0 1) g1, bCursorG K (a0 2) g2, bWorldG K (a0 3) ((a0 4) 0) ((a0 5) 0) ((a0 6) 0) g3, bFairG K (a0 4) g4, bFairG K (a0 5) g5, bNotesG K (a0 6) g6, bPastG K (a0 7) f7_fairs g7, bTrialsG K (a0 8) ((a0 9) 0) ((a0 10) 0) ((a0 11) 0) g8, bFairG K (a0 9) q10.2.1, bOrderG K (a0 10) q10.2.2.1, bOrderG K (a0 11) q10.2.2.2.1] ++ (fam 6 (fun j => bRuleG K (f0_rules j) (p0_rules0 j)) ++ []))) (rfl) (stm_s (bs1 := ([bNextStallG K (a0 0) (fun j => some (f0_rules j 0)) f0_images ((a0 1) 0) ((a0 2) 0) ((a0 3) 0) ((a0 7) 0) ((a0 8) 0) g0, bTapeG K (a0 1) g1, bCursorG K (a0 2) g2, bWorldG K (a0 3) ((a0 4) 0) ((a0 5) 0) ((a0 6) 0) g3, bFairG K (a0 4) g4, bFairG K (a0 5) g5, bNotesG K (a0 6) g6, bPastG K (a0 7) f7_fairs g7, bTrialsG K (a0 8) ((a0 9) 0) ((a0 10) 0) ((a0 11) 0) g8, bFairG K (a0 9) q10.2.1, bOrderG K (a0 10) q10.2.2.1, bOrderG K (a0 11) q10.2.2.2.1] ++ (fam 6 (fun j => bRuleG K (f0_rules j) ((va_up p0_rules0 j6 q10.2.2.2.2) j)) ++ []))) (fs0 (B := fun j g => bRuleG K (f0_rules j) g) (g := q10.2.2.2.2) (l := [bNextStallG K (a0 0) (fun j => some (f0_rules j 0)) f0_images ((a0 1) 0) ((a0 2) 0) ((a0 3) 0) ((a0 7) 0) ((a0 8) 0) g0, bTapeG K (a0 1) g1, bCursorG K (a0 2) g2, bWorldG K (a0 3) ((a0 4) 0) ((a0 5) 0) ((a0 6) 0) g3, bFairG K (a0 4) g4, bFairG K (a0 5) g5, bNotesG K (a0 6) g6, bPastG K (a0 7) f7_fairs g7, bTrialsG K (a0 8) ((a0 9) 0) ((a0 10) 0) ((a0 11) 0) g8, bFairG K (a0 9) q10.2.1, bOrderG K (a0 10) q10.2.2.1, bOrderG K (a0 11) q10.2.2.2.1]) rfl hj6) stm_n)))))) rfl rfl rfl rfl dX11_bestRing_46 ?_
          refine r_istore_n (lv' := [(3, .int q10.1), (0, .ref ((a0 0) 0)), (1, .int x1), (2, .int x2)]) dX11_bestRing_49 (Nat.le_of_ble_eq_true rfl) rfl ?_
          refine r_iload_n 3 dX11_bestRing_50 rfl ?_
          refine r_iconst (x := (-1 : Int32)) dX11_bestRing_51 (by decide) ?_
          refine r_icmp_ne 59 dX11_bestRing_52 (by decide) (fun c11 => ?_) (fun c11 => ?_)
          · replace h := it_neg c11 h
            refine r_aload_n 1 dX11_bestRing_59 rfl ?_
            refine gNextStall_trials 0 rfl (tb_in (i := 13) (j := 4) rfl rfl) dX11_bestRing_60 ?_
            refine r_iload_n 3 dX11_bestRing_63 rfl ?_
            obtain ⟨q12, h12, h⟩ := bd_some h
            refine b_callVN (isC := [8, 9, 10, 11]) (ci := 7)  (st := []) (bs1 := ([bNextStallG K (a0 0) (fun j => some (f0_rules j 0)) f0_images ((a0 1) 0) ((a0 2) 0) ((a0 3) 0) ((a0 7) 0) ((a0 8) 0) g0, bTapeG K (a0 1) g1, bCursorG K (a0 2) g2, bWorldG K (a0 3) ((a0 4) 0) ((a0 5) 0) ((a0 6) 0) g3, bFairG K (a0 4) g4, bFairG K (a0 5) g5, bNotesG K (a0 6) g6, bPastG K (a0 7) f7_fairs g7, bTrialsG K (a0 8) ((a0 9) 0) ((a0 10) 0) ((a0 11) 0) g8, bFairG K (a0 9) q10.2.1, bOrderG K (a0 10) q10.2.2.1, bOrderG K (a0 11) q10.2.2.2.1] ++ (fam 6 (fun j => bRuleG K (f0_rules j) ((va_up p0_rules0 j6 q10.2.2.2.2) j)) ++ []))) (cTrials_whoStandsAt (a0 := fun b => a0 (8 + b)) (g0 := g8) (g1 := q10.2.1) (g2 := q10.2.2.1) (g3 := q10.2.2.2.1) h12) rfl rfl (Nat.le_of_ble_eq_true rfl) kTrials_whoStandsAt (List.mem_of_getElem? (i := 60) rfl) (by decide) (by decide) rfl rfl rfl rfl rfl rfl rfl dX11_bestRing_64 ?_
            have hq := Option.some.inj h
            subst hq
            exact r_iret rfl dX11_bestRing_67
          · replace h := it_pos c11 h
            refine r_iload_n 0 dX11_bestRing_55 rfl ?_
            refine r_goto 67 dX11_bestRing_56 (by decide) ?_
            have hq := Option.some.inj h
            subst hq
            exact r_iret rfl dX11_bestRing_67
      · replace h := it_pos c5 h
        refine r_bipush (x := (-3 : Int32)) dX11_bestRing_27 (by decide) ?_
        have hq := Option.some.inj h
        subst hq
        exact r_iret rfl dX11_bestRing_29
end
end PC8
