section PC10
variable {l : Launch} {D : va_G} {Z : (Nat → Nat) × (Nat → Nat)} {K : Nat → ClassId}
theorem dX11_count_0 : decode cX11_count 0 = .ok (.aload_n 0, 1) := by decide +kernel
theorem dX11_count_1 : decode cX11_count 1 = .ok (.getfield 36, 3) := by decide +kernel
theorem dX11_count_4 : decode cX11_count 4 = .ok (.getfield 119, 3) := by decide +kernel
theorem dX11_count_7 : decode cX11_count 7 = .ok (.astore_n 2, 1) := by decide +kernel
theorem dX11_count_8 : decode cX11_count 8 = .ok (.iload_n 1, 1) := by decide +kernel
theorem dX11_count_9 : decode cX11_count 9 = .ok (.tableswitch 171 0 13 #[71, 76, 81, 86, 91, 96, 104, 109, 118, 127, 136, 147, 155, 163], 71) := by decide +kernel
theorem dX11_count_80 : decode cX11_count 80 = .ok (.aload_n 2, 1) := by decide +kernel
theorem dX11_count_81 : decode cX11_count 81 = .ok (.getfield 282, 3) := by decide +kernel
theorem dX11_count_84 : decode cX11_count 84 = .ok (.ireturn, 1) := by decide +kernel
theorem dX11_count_85 : decode cX11_count 85 = .ok (.aload_n 2, 1) := by decide +kernel
theorem dX11_count_86 : decode cX11_count 86 = .ok (.getfield 285, 3) := by decide +kernel
theorem dX11_count_89 : decode cX11_count 89 = .ok (.ireturn, 1) := by decide +kernel
theorem dX11_count_90 : decode cX11_count 90 = .ok (.aload_n 2, 1) := by decide +kernel
theorem dX11_count_91 : decode cX11_count 91 = .ok (.getfield 102, 3) := by decide +kernel
theorem dX11_count_94 : decode cX11_count 94 = .ok (.ireturn, 1) := by decide +kernel
theorem dX11_count_95 : decode cX11_count 95 = .ok (.aload_n 2, 1) := by decide +kernel
theorem dX11_count_96 : decode cX11_count 96 = .ok (.getfield 288, 3) := by decide +kernel
theorem dX11_count_99 : decode cX11_count 99 = .ok (.ireturn, 1) := by decide +kernel
theorem dX11_count_100 : decode cX11_count 100 = .ok (.aload_n 0, 1) := by decide +kernel
theorem dX11_count_101 : decode cX11_count 101 = .ok (.getfield 29, 3) := by decide +kernel
theorem dX11_count_104 : decode cX11_count 104 = .ok (.ireturn, 1) := by decide +kernel
theorem dX11_count_105 : decode cX11_count 105 = .ok (.aload_n 0, 1) := by decide +kernel
theorem dX11_count_106 : decode cX11_count 106 = .ok (.getfield 36, 3) := by decide +kernel
theorem dX11_count_109 : decode cX11_count 109 = .ok (.getfield 112, 3) := by decide +kernel
theorem dX11_count_112 : decode cX11_count 112 = .ok (.ireturn, 1) := by decide +kernel
theorem dX11_count_113 : decode cX11_count 113 = .ok (.aload_n 2, 1) := by decide +kernel
theorem dX11_count_114 : decode cX11_count 114 = .ok (.getfield 170, 3) := by decide +kernel
theorem dX11_count_117 : decode cX11_count 117 = .ok (.ireturn, 1) := by decide +kernel
theorem dX11_count_118 : decode cX11_count 118 = .ok (.aload_n 2, 1) := by decide +kernel
theorem dX11_count_119 : decode cX11_count 119 = .ok (.aload_n 2, 1) := by decide +kernel
theorem dX11_count_120 : decode cX11_count 120 = .ok (.getfield 122, 3) := by decide +kernel
theorem dX11_count_123 : decode cX11_count 123 = .ok (.invokevirtual 291, 3) := by decide +kernel
theorem dX11_count_126 : decode cX11_count 126 = .ok (.ireturn, 1) := by decide +kernel
theorem dX11_count_127 : decode cX11_count 127 = .ok (.aload_n 2, 1) := by decide +kernel
theorem dX11_count_128 : decode cX11_count 128 = .ok (.aload_n 2, 1) := by decide +kernel
theorem dX11_count_129 : decode cX11_count 129 = .ok (.getfield 132, 3) := by decide +kernel
theorem dX11_count_132 : decode cX11_count 132 = .ok (.invokevirtual 291, 3) := by decide +kernel
theorem dX11_count_135 : decode cX11_count 135 = .ok (.ireturn, 1) := by decide +kernel
theorem dX11_count_136 : decode cX11_count 136 = .ok (.aload_n 2, 1) := by decide +kernel
theorem dX11_count_137 : decode cX11_count 137 = .ok (.aload_n 2, 1) := by decide +kernel
theorem dX11_count_138 : decode cX11_count 138 = .ok (.getfield 129, 3) := by decide +kernel
theorem dX11_count_141 : decode cX11_count 141 = .ok (.invokevirtual 291, 3) := by decide +kernel
theorem dX11_count_144 : decode cX11_count 144 = .ok (.ireturn, 1) := by decide +kernel
theorem dX11_count_145 : decode cX11_count 145 = .ok (.aload_n 0, 1) := by decide +kernel
theorem dX11_count_146 : decode cX11_count 146 = .ok (.getfield 36, 3) := by decide +kernel
theorem dX11_count_149 : decode cX11_count 149 = .ok (.getfield 253, 3) := by decide +kernel
theorem dX11_count_152 : decode cX11_count 152 = .ok (.getfield 257, 3) := by decide +kernel
theorem dX11_count_155 : decode cX11_count 155 = .ok (.ireturn, 1) := by decide +kernel
theorem dX11_count_156 : decode cX11_count 156 = .ok (.aload_n 0, 1) := by decide +kernel
theorem dX11_count_157 : decode cX11_count 157 = .ok (.getfield 43, 3) := by decide +kernel
theorem dX11_count_160 : decode cX11_count 160 = .ok (.getfield 204, 3) := by decide +kernel
theorem dX11_count_163 : decode cX11_count 163 = .ok (.ireturn, 1) := by decide +kernel
theorem dX11_count_164 : decode cX11_count 164 = .ok (.aload_n 0, 1) := by decide +kernel
theorem dX11_count_165 : decode cX11_count 165 = .ok (.getfield 36, 3) := by decide +kernel
theorem dX11_count_168 : decode cX11_count 168 = .ok (.getfield 275, 3) := by decide +kernel
theorem dX11_count_171 : decode cX11_count 171 = .ok (.ireturn, 1) := by decide +kernel
theorem dX11_count_172 : decode cX11_count 172 = .ok (.aload_n 0, 1) := by decide +kernel
theorem dX11_count_173 : decode cX11_count 173 = .ok (.getfield 10, 3) := by decide +kernel
theorem dX11_count_176 : decode cX11_count 176 = .ok (.getfield 63, 3) := by decide +kernel
theorem dX11_count_179 : decode cX11_count 179 = .ok (.ireturn, 1) := by decide +kernel
theorem dX11_count_180 : decode cX11_count 180 = .ok (.iconst (-1), 1) := by decide +kernel
theorem dX11_count_181 : decode cX11_count 181 = .ok (.ireturn, 1) := by decide +kernel
abbrev MNextStall_count : rx_M := (RX11, yX11_count, cX11_count, 3, (some .int), 2)
theorem kNextStall_count : rKv MNextStall_count 1 := ⟨tb_in (i := 36) (j := 17) rfl rfl, tb_in (i := 36) (j := 18) rfl rfl, tb_in (i := 2) (j := 22) rfl rfl, tb_in (i := 16) (j := 14) rfl rfl, ⟨by decide, by decide, by decide +kernel⟩, by decide⟩
section
variable {a0 : Nat → Nat → Nat} {g0 : tyNextStall} {g1 : tyTape} {g2 : tyCursor} {g3 : tyWorld} {g4 : tyFair} {g5 : tyFair} {g6 : tyNotes} {g7 : tyPast} {g8 : tyTrials} {g9 : tyFair} {g10 : tyOrder} {g11 : tyOrder} {f0_rules : Nat → Option Nat} {f0_images : Nat → Option Nat} {f7_fairs : Nat → Option Nat}
def mNextStall_count (x1 : Int32) (g0 : tyNextStall) (g1 : tyTape) (g3 : tyWorld) (g5 : tyFair) (g6 : tyNotes) (g7 : tyPast) : Option (Int32) := (if x1 = (0 : Int32) then some (g5.1) else if x1 = (1 : Int32) then some (g5.2.1) else if x1 = (2 : Int32) then some (g5.2.2.1) else if x1 = (3 : Int32) then some (g5.2.2.2.1) else if x1 = (4 : Int32) then some (g0.1) else if x1 = (5 : Int32) then some (g3.2.1) else if x1 = (6 : Int32) then some (g5.2.2.2.2.1) else if x1 = (7 : Int32) then (mFair_sumOf_goods g5.2.2.1 g5.2.2.2.2.2.1).bind (fun q9 => some (q9)) else if x1 = (8 : Int32) then (mFair_sumOf_wealth g5.2.2.1 g5.2.2.2.2.2.2.2.2.2.1).bind (fun q11 => some (q11)) else if x1 = (9 : Int32) then (mFair_sumOf_till g5.2.2.1 g5.2.2.2.2.2.2.2.2.1).bind (fun q13 => some (q13)) else if x1 = (10 : Int32) then some (g6.2.2.2) else if x1 = (11 : Int32) then some (g7.2) else if x1 = (12 : Int32) then some (g3.2.2) else if x1 = (13 : Int32) then some (g1.2) else some ((-1 : Int32)))
set_option maxHeartbeats 4000000 in
set_option maxRecDepth 20000 in
theorem cNextStall_count {q : Int32} {x1 : Int32} (h : mNextStall_count x1 g0 g1 g3 g5 g6 g7 = some q) : rMet l D Z (ty7 K) MNextStall_count [.ref ((a0 0) 0), .int x1] (List.flatten [bNextStallG K (a0 0) f0_rules f0_images ((a0 1) 0) ((a0 2) 0) ((a0 3) 0) ((a0 7) 0) ((a0 8) 0) g0, bTapeG K (a0 1) g1, bCursorG K (a0 2) g2, bWorldG K (a0 3) ((a0 4) 0) ((a0 5) 0) ((a0 6) 0) g3, bFairG K (a0 4) g4, bFairG K (a0 5) g5, bNotesG K (a0 6) g6, bPastG K (a0 7) f7_fairs g7, bTrialsG K (a0 8) ((a0 9) 0) ((a0 10) 0) ((a0 11) 0) g8, bFairG K (a0 9) g9, bOrderG K (a0 10) g10, bOrderG K (a0 11) g11]) (List.flatten [bNextStallG K (a0 0) f0_rules f0_images ((a0 1) 0) ((a0 2) 0) ((a0 3) 0) ((a0 7) 0) ((a0 8) 0) g0, bTapeG K (a0 1) g1, bCursorG K (a0 2) g2, bWorldG K (a0 3) ((a0 4) 0) ((a0 5) 0) ((a0 6) 0) g3, bFairG K (a0 4) g4, bFairG K (a0 5) g5, bNotesG K (a0 6) g6, bPastG K (a0 7) f7_fairs g7, bTrialsG K (a0 8) ((a0 9) 0) ((a0 10) 0) ((a0 11) 0) g8, bFairG K (a0 9) g9, bOrderG K (a0 10) g10, bOrderG K (a0 11) g11]) (some (.int q)) := by
  refine rMet.of (by decide) rfl (Nat.le_of_ble_eq_true rfl) ?_
  refine r_sub (lv' := [(0, .ref ((a0 0) 0)), (1, .int x1)]) [0, 1] rfl ?_
  unfold mNextStall_count at h
  refine r_aload_n 0 dX11_count_0 rfl ?_
  refine gNextStall_world 0 rfl (tb_in (i := 12) (j := 26) rfl rfl) dX11_count_1 ?_
  refine gWorld_nowN 3 rfl (List.mem_of_getElem? (i := 55) rfl) dX11_count_4 ?_
  refine r_astore_n (lv' := [(2, .ref ((a0 5) 0)), (0, .ref ((a0 0) 0)), (1, .int x1)]) dX11_count_7 (Nat.le_of_ble_eq_true rfl) rfl ?_
  refine r_iload_n 2 dX11_count_8 rfl ?_
  by_cases c1 : x1 = (0 : Int32)
  · replace h := it_pos c1 h
    refine r_tableIn 80 dX11_count_9 (by rw [c1]; decide) (by rw [c1]; decide) (by rw [c1]; rfl) (by decide) ?_
    refine r_aload_n 0 dX11_count_80 rfl ?_
    refine gFair_lastsN 5 rfl (List.mem_of_getElem? (i := 10) rfl) dX11_count_81 ?_
    have hq := Option.some.inj h
    subst hq
    exact r_iret rfl dX11_count_84
  replace h := it_neg c1 h
  by_cases c2 : x1 = (1 : Int32)
  · replace h := it_pos c2 h
    refine r_tableIn 85 dX11_count_9 (by rw [c2]; decide) (by rw [c2]; decide) (by rw [c2]; rfl) (by decide) ?_
    refine r_aload_n 0 dX11_count_85 rfl ?_
    refine gFair_keepsN 5 rfl (List.mem_of_getElem? (i := 13) rfl) dX11_count_86 ?_
    have hq := Option.some.inj h
    subst hq
    exact r_iret rfl dX11_count_89
  replace h := it_neg c2 h
  by_cases c3 : x1 = (2 : Int32)
  · replace h := it_pos c3 h
    refine r_tableIn 90 dX11_count_9 (by rw [c3]; decide) (by rw [c3]; decide) (by rw [c3]; rfl) (by decide) ?_
    refine r_aload_n 0 dX11_count_90 rfl ?_
    refine gFair_stallsN 5 rfl (List.mem_of_getElem? (i := 15) rfl) dX11_count_91 ?_
    have hq := Option.some.inj h
    subst hq
    exact r_iret rfl dX11_count_94
  replace h := it_neg c3 h
  by_cases c4 : x1 = (3 : Int32)
  · replace h := it_pos c4 h
    refine r_tableIn 95 dX11_count_9 (by rw [c4]; decide) (by rw [c4]; decide) (by rw [c4]; rfl) (by decide) ?_
    refine r_aload_n 0 dX11_count_95 rfl ?_
    refine gFair_buyersN 5 rfl (List.mem_of_getElem? (i := 19) rfl) dX11_count_96 ?_
    have hq := Option.some.inj h
    subst hq
    exact r_iret rfl dX11_count_99
  replace h := it_neg c4 h
  by_cases c5 : x1 = (4 : Int32)
  · replace h := it_pos c5 h
    refine r_tableIn 100 dX11_count_9 (by rw [c5]; decide) (by rw [c5]; decide) (by rw [c5]; rfl) (by decide) ?_
    refine r_aload_n 1 dX11_count_100 rfl ?_
    refine gNextStall_ruleCount 0 rfl (tb_in (i := 12) (j := 22) rfl rfl) dX11_count_101 ?_
    have hq := Option.some.inj h
    subst hq
    exact r_iret rfl dX11_count_104
  replace h := it_neg c5 h
  by_cases c6 : x1 = (5 : Int32)
  · replace h := it_pos c6 h
    refine r_tableIn 105 dX11_count_9 (by rw [c6]; decide) (by rw [c6]; decide) (by rw [c6]; rfl) (by decide) ?_
    refine r_aload_n 1 dX11_count_105 rfl ?_
    refine gNextStall_world 0 rfl (tb_in (i := 12) (j := 26) rfl rfl) dX11_count_106 ?_
    refine gWorld_inForceN 3 rfl (List.mem_of_getElem? (i := 51) rfl) dX11_count_109 ?_
    have hq := Option.some.inj h
    subst hq
    exact r_iret rfl dX11_count_112
  replace h := it_neg c6 h
  by_cases c7 : x1 = (6 : Int32)
  · replace h := it_pos c7 h
    refine r_tableIn 113 dX11_count_9 (by rw [c7]; decide) (by rw [c7]; decide) (by rw [c7]; rfl) (by decide) ?_
    refine r_aload_n 0 dX11_count_113 rfl ?_
    refine gFair_minuteN 5 rfl (List.mem_of_getElem? (i := 22) rfl) dX11_count_114 ?_
    have hq := Option.some.inj h
    subst hq
    exact r_iret rfl dX11_count_117
  replace h := it_neg c7 h
  by_cases c8 : x1 = (7 : Int32)
  · replace h := it_pos c8 h
    refine r_tableIn 118 dX11_count_9 (by rw [c8]; decide) (by rw [c8]; decide) (by rw [c8]; rfl) (by decide) ?_
    refine r_aload_n 0 dX11_count_118 rfl ?_
    refine r_aload_n 0 dX11_count_119 rfl ?_
    refine gFair_goodsN 5 rfl (List.mem_of_getElem? (i := 24) rfl) dX11_count_120 ?_
    obtain ⟨q9, h9, h⟩ := bd_some h
    refine b_callVN (isC := [5]) (ci := 1)  (st := []) (bs1 := [bNextStallG K (a0 0) f0_rules f0_images ((a0 1) 0) ((a0 2) 0) ((a0 3) 0) ((a0 7) 0) ((a0 8) 0) g0, bTapeG K (a0 1) g1, bCursorG K (a0 2) g2, bWorldG K (a0 3) ((a0 4) 0) ((a0 5) 0) ((a0 6) 0) g3, bFairG K (a0 4) g4, bFairG K (a0 5) g5, bNotesG K (a0 6) g6, bPastG K (a0 7) f7_fairs g7, bTrialsG K (a0 8) ((a0 9) 0) ((a0 10) 0) ((a0 11) 0) g8, bFairG K (a0 9) g9, bOrderG K (a0 10) g10, bOrderG K (a0 11) g11]) (cFair_sumOf_goods (a0 := (a0 5)) (z0_lasts := g5.1) (z0_keeps := g5.2.1) (z0_stalls := g5.2.2.1) (z0_buyers := g5.2.2.2.1) (z0_minute := g5.2.2.2.2.1) (z0_goods := g5.2.2.2.2.2.1) (z0_price := g5.2.2.2.2.2.2.1) (z0_tongue := g5.2.2.2.2.2.2.2.1) (z0_till := g5.2.2.2.2.2.2.2.2.1) (z0_wealth := g5.2.2.2.2.2.2.2.2.2.1) (z0_sold := g5.2.2.2.2.2.2.2.2.2.2.1) (z0_ring := g5.2.2.2.2.2.2.2.2.2.2.2.1) (z0_grudges := g5.2.2.2.2.2.2.2.2.2.2.2.2.1) (z0_purse := g5.2.2.2.2.2.2.2.2.2.2.2.2.2.1) (z0_came := g5.2.2.2.2.2.2.2.2.2.2.2.2.2.2.1) (z0_had := g5.2.2.2.2.2.2.2.2.2.2.2.2.2.2.2.1) (z0_seller := g5.2.2.2.2.2.2.2.2.2.2.2.2.2.2.2.2.1) (z0_praise := g5.2.2.2.2.2.2.2.2.2.2.2.2.2.2.2.2.2.1) (z0_borne := g5.2.2.2.2.2.2.2.2.2.2.2.2.2.2.2.2.2.2) h9) rfl rfl (Nat.le_of_ble_eq_true rfl) kFair_sumOf_goods (List.mem_of_getElem? (i := 84) rfl) (by decide) (by decide) rfl rfl rfl rfl rfl rfl rfl dX11_count_123 ?_
    have hq := Option.some.inj h
    subst hq
    exact r_iret rfl dX11_count_126
  replace h := it_neg c8 h
  by_cases c10 : x1 = (8 : Int32)
  · replace h := it_pos c10 h
    refine r_tableIn 127 dX11_count_9 (by rw [c10]; decide) (by rw [c10]; decide) (by rw [c10]; rfl) (by decide) ?_
    refine r_aload_n 0 dX11_count_127 rfl ?_
    refine r_aload_n 0 dX11_count_128 rfl ?_
    refine gFair_wealthN 5 rfl (List.mem_of_getElem? (i := 33) rfl) dX11_count_129 ?_
    obtain ⟨q11, h11, h⟩ := bd_some h
    refine b_callVN (isC := [5]) (ci := 1)  (st := []) (bs1 := [bNextStallG K (a0 0) f0_rules f0_images ((a0 1) 0) ((a0 2) 0) ((a0 3) 0) ((a0 7) 0) ((a0 8) 0) g0, bTapeG K (a0 1) g1, bCursorG K (a0 2) g2, bWorldG K (a0 3) ((a0 4) 0) ((a0 5) 0) ((a0 6) 0) g3, bFairG K (a0 4) g4, bFairG K (a0 5) g5, bNotesG K (a0 6) g6, bPastG K (a0 7) f7_fairs g7, bTrialsG K (a0 8) ((a0 9) 0) ((a0 10) 0) ((a0 11) 0) g8, bFairG K (a0 9) g9, bOrderG K (a0 10) g10, bOrderG K (a0 11) g11]) (cFair_sumOf_wealth (a0 := (a0 5)) (z0_lasts := g5.1) (z0_keeps := g5.2.1) (z0_stalls := g5.2.2.1) (z0_buyers := g5.2.2.2.1) (z0_minute := g5.2.2.2.2.1) (z0_goods := g5.2.2.2.2.2.1) (z0_price := g5.2.2.2.2.2.2.1) (z0_tongue := g5.2.2.2.2.2.2.2.1) (z0_till := g5.2.2.2.2.2.2.2.2.1) (z0_wealth := g5.2.2.2.2.2.2.2.2.2.1) (z0_sold := g5.2.2.2.2.2.2.2.2.2.2.1) (z0_ring := g5.2.2.2.2.2.2.2.2.2.2.2.1) (z0_grudges := g5.2.2.2.2.2.2.2.2.2.2.2.2.1) (z0_purse := g5.2.2.2.2.2.2.2.2.2.2.2.2.2.1) (z0_came := g5.2.2.2.2.2.2.2.2.2.2.2.2.2.2.1) (z0_had := g5.2.2.2.2.2.2.2.2.2.2.2.2.2.2.2.1) (z0_seller := g5.2.2.2.2.2.2.2.2.2.2.2.2.2.2.2.2.1) (z0_praise := g5.2.2.2.2.2.2.2.2.2.2.2.2.2.2.2.2.2.1) (z0_borne := g5.2.2.2.2.2.2.2.2.2.2.2.2.2.2.2.2.2.2) h11) rfl rfl (Nat.le_of_ble_eq_true rfl) kFair_sumOf_wealth (List.mem_of_getElem? (i := 84) rfl) (by decide) (by decide) rfl rfl rfl rfl rfl rfl rfl dX11_count_132 ?_
    have hq := Option.some.inj h
    subst hq
    exact r_iret rfl dX11_count_135
  replace h := it_neg c10 h
  by_cases c12 : x1 = (9 : Int32)
  · replace h := it_pos c12 h
    refine r_tableIn 136 dX11_count_9 (by rw [c12]; decide) (by rw [c12]; decide) (by rw [c12]; rfl) (by decide) ?_
    refine r_aload_n 0 dX11_count_136 rfl ?_
    refine r_aload_n 0 dX11_count_137 rfl ?_
    refine gFair_tillN 5 rfl (List.mem_of_getElem? (i := 30) rfl) dX11_count_138 ?_
    obtain ⟨q13, h13, h⟩ := bd_some h
    refine b_callVN (isC := [5]) (ci := 1)  (st := []) (bs1 := [bNextStallG K (a0 0) f0_rules f0_images ((a0 1) 0) ((a0 2) 0) ((a0 3) 0) ((a0 7) 0) ((a0 8) 0) g0, bTapeG K (a0 1) g1, bCursorG K (a0 2) g2, bWorldG K (a0 3) ((a0 4) 0) ((a0 5) 0) ((a0 6) 0) g3, bFairG K (a0 4) g4, bFairG K (a0 5) g5, bNotesG K (a0 6) g6, bPastG K (a0 7) f7_fairs g7, bTrialsG K (a0 8) ((a0 9) 0) ((a0 10) 0) ((a0 11) 0) g8, bFairG K (a0 9) g9, bOrderG K (a0 10) g10, bOrderG K (a0 11) g11]) (cFair_sumOf_till (a0 := (a0 5)) (z0_lasts := g5.1) (z0_keeps := g5.2.1) (z0_stalls := g5.2.2.1) (z0_buyers := g5.2.2.2.1) (z0_minute := g5.2.2.2.2.1) (z0_goods := g5.2.2.2.2.2.1) (z0_price := g5.2.2.2.2.2.2.1) (z0_tongue := g5.2.2.2.2.2.2.2.1) (z0_till := g5.2.2.2.2.2.2.2.2.1) (z0_wealth := g5.2.2.2.2.2.2.2.2.2.1) (z0_sold := g5.2.2.2.2.2.2.2.2.2.2.1) (z0_ring := g5.2.2.2.2.2.2.2.2.2.2.2.1) (z0_grudges := g5.2.2.2.2.2.2.2.2.2.2.2.2.1) (z0_purse := g5.2.2.2.2.2.2.2.2.2.2.2.2.2.1) (z0_came := g5.2.2.2.2.2.2.2.2.2.2.2.2.2.2.1) (z0_had := g5.2.2.2.2.2.2.2.2.2.2.2.2.2.2.2.1) (z0_seller := g5.2.2.2.2.2.2.2.2.2.2.2.2.2.2.2.2.1) (z0_praise := g5.2.2.2.2.2.2.2.2.2.2.2.2.2.2.2.2.2.1) (z0_borne := g5.2.2.2.2.2.2.2.2.2.2.2.2.2.2.2.2.2.2) h13) rfl rfl (Nat.le_of_ble_eq_true rfl) kFair_sumOf_till (List.mem_of_getElem? (i := 84) rfl) (by decide) (by decide) rfl rfl rfl rfl rfl rfl rfl dX11_count_141 ?_
    have hq := Option.some.inj h
    subst hq
    exact r_iret rfl dX11_count_144
  replace h := it_neg c12 h
  by_cases c14 : x1 = (10 : Int32)
  · replace h := it_pos c14 h
    refine r_tableIn 145 dX11_count_9 (by rw [c14]; decide) (by rw [c14]; decide) (by rw [c14]; rfl) (by decide) ?_
    refine r_aload_n 1 dX11_count_145 rfl ?_
    refine gNextStall_world 0 rfl (tb_in (i := 12) (j := 26) rfl rfl) dX11_count_146 ?_
    refine gWorld_notesN 3 rfl (List.mem_of_getElem? (i := 58) rfl) dX11_count_149 ?_
    refine gNotes_sizeN 6 rfl (List.mem_of_getElem? (i := 49) rfl) dX11_count_152 ?_
    have hq := Option.some.inj h
    subst hq
    exact r_iret rfl dX11_count_155
  replace h := it_neg c14 h
  by_cases c15 : x1 = (11 : Int32)
  · replace h := it_pos c15 h
    refine r_tableIn 156 dX11_count_9 (by rw [c15]; decide) (by rw [c15]; decide) (by rw [c15]; rfl) (by decide) ?_
    refine r_aload_n 1 dX11_count_156 rfl ?_
    refine gNextStall_past 0 rfl (tb_in (i := 12) (j := 30) rfl rfl) dX11_count_157 ?_
    refine gPast_sizeN 7 rfl (List.mem_of_getElem? (i := 59) rfl) dX11_count_160 ?_
    have hq := Option.some.inj h
    subst hq
    exact r_iret rfl dX11_count_163
  replace h := it_neg c15 h
  by_cases c16 : x1 = (12 : Int32)
  · replace h := it_pos c16 h
    refine r_tableIn 164 dX11_count_9 (by rw [c16]; decide) (by rw [c16]; decide) (by rw [c16]; rfl) (by decide) ?_
    refine r_aload_n 1 dX11_count_164 rfl ?_
    refine gNextStall_world 0 rfl (tb_in (i := 12) (j := 26) rfl rfl) dX11_count_165 ?_
    refine gWorld_xN 3 rfl (List.mem_of_getElem? (i := 53) rfl) dX11_count_168 ?_
    have hq := Option.some.inj h
    subst hq
    exact r_iret rfl dX11_count_171
  replace h := it_neg c16 h
  by_cases c17 : x1 = (13 : Int32)
  · replace h := it_pos c17 h
    refine r_tableIn 172 dX11_count_9 (by rw [c17]; decide) (by rw [c17]; decide) (by rw [c17]; rfl) (by decide) ?_
    refine r_aload_n 1 dX11_count_172 rfl ?_
    refine gNextStall_tape 0 rfl (tb_in (i := 12) (j := 16) rfl rfl) dX11_count_173 ?_
    refine gTape_sizeN 1 rfl (List.mem_of_getElem? (i := 2) rfl) dX11_count_176 ?_
    have hq := Option.some.inj h
    subst hq
    exact r_iret rfl dX11_count_179
  replace h := it_neg c17 h
  refine r_tableOut 180 dX11_count_9 (tbl_out (by decide) (by decide) (fun k h1 h2 => by
    rcases (show k = 0 ∨ k = 1 ∨ k = 2 ∨ k = 3 ∨ k = 4 ∨ k = 5 ∨ k = 6 ∨ k = 7 ∨ k = 8 ∨ k = 9 ∨ k = 10 ∨ k = 11 ∨ k = 12 ∨ k = 13 by omega) with rfl | rfl | rfl | rfl | rfl | rfl | rfl | rfl | rfl | rfl | rfl | rfl | rfl | rfl
    · exact c1
    · exact c2
    · exact c3
    · exact c4
    · exact c5
    · exact c6
    · exact c7
    · exact c8
    · exact c10
    · exact c12
    · exact c14
    · exact c15
    · exact c16
    · exact c17
    )) (by decide) ?_
  refine r_iconst (x := (-1 : Int32)) dX11_count_180 (by decide) ?_
  have hq := Option.some.inj h
  subst hq
  exact r_iret rfl dX11_count_181
end
theorem dX11_image_0 : decode cX11_image 0 = .ok (.iload_n 1, 1) := by decide +kernel
theorem dX11_image_1 : decode cX11_image 1 = .ok (.iconst 0, 1) := by decide +kernel
theorem dX11_image_2 : decode cX11_image 2 = .ok (.iconst 3, 1) := by decide +kernel
theorem dX11_image_3 : decode cX11_image 3 = .ok (.invokestatic 70, 3) := by decide +kernel
theorem dX11_image_6 : decode cX11_image 6 = .ok (.ifCond .ne 5, 3) := by decide +kernel
theorem dX11_image_9 : decode cX11_image 9 = .ok (.iconst (-1), 1) := by decide +kernel
theorem dX11_image_10 : decode cX11_image 10 = .ok (.ireturn, 1) := by decide +kernel
theorem dX11_image_11 : decode cX11_image 11 = .ok (.aload_n 0, 1) := by decide +kernel
theorem dX11_image_12 : decode cX11_image 12 = .ok (.getfield 47, 3) := by decide +kernel
theorem dX11_image_15 : decode cX11_image 15 = .ok (.iload_n 1, 1) := by decide +kernel
theorem dX11_image_16 : decode cX11_image 16 = .ok (.aaload, 1) := by decide +kernel
theorem dX11_image_17 : decode cX11_image 17 = .ok (.aload_n 0, 1) := by decide +kernel
theorem dX11_image_18 : decode cX11_image 18 = .ok (.getfield 36, 3) := by decide +kernel
theorem dX11_image_21 : decode cX11_image 21 = .ok (.invokevirtual 295, 3) := by decide +kernel
theorem dX11_image_24 : decode cX11_image 24 = .ok (.aload_n 0, 1) := by decide +kernel
theorem dX11_image_25 : decode cX11_image 25 = .ok (.getfield 51, 3) := by decide +kernel
theorem dX11_image_28 : decode cX11_image 28 = .ok (.iload_n 1, 1) := by decide +kernel
theorem dX11_image_29 : decode cX11_image 29 = .ok (.iconst 1, 1) := by decide +kernel
theorem dX11_image_30 : decode cX11_image 30 = .ok (.bastore, 1) := by decide +kernel
theorem dX11_image_31 : decode cX11_image 31 = .ok (.aload_n 0, 1) := by decide +kernel
theorem dX11_image_32 : decode cX11_image 32 = .ok (.getfield 36, 3) := by decide +kernel
theorem dX11_image_35 : decode cX11_image 35 = .ok (.getfield 119, 3) := by decide +kernel
theorem dX11_image_38 : decode cX11_image 38 = .ok (.getfield 170, 3) := by decide +kernel
theorem dX11_image_41 : decode cX11_image 41 = .ok (.ireturn, 1) := by decide +kernel
abbrev MNextStall_image : rx_M := (RX11, yX11_image, cX11_image, 2, (some .int), 6)
theorem kNextStall_image : rKv MNextStall_image 1 := ⟨tb_in (i := 36) (j := 23) rfl rfl, tb_in (i := 36) (j := 24) rfl rfl, tb_in (i := 2) (j := 22) rfl rfl, tb_in (i := 16) (j := 17) rfl rfl, ⟨by decide, by decide, by decide +kernel⟩, by decide⟩
section
variable {a0 : Nat → Nat → Nat} {g0 : tyNextStall} {g1 : tyTape} {g2 : tyCursor} {g3 : tyWorld} {g4 : tyFair} {g5 : tyFair} {g6 : tyNotes} {g7 : tyPast} {g8 : tyTrials} {g9 : tyFair} {g10 : tyOrder} {g11 : tyOrder} {f0_rules : Nat → Option Nat} {f0_images : Nat → Nat → Nat} {f7_fairs : Nat → Option Nat} {p0_images0 : Nat → tyWorld} {p0_images1 : Nat → tyFair} {p0_images2 : Nat → tyFair} {p0_images3 : Nat → tyNotes}
def mNextStall_image (x1 : Int32) (g0 : tyNextStall) (g3 : tyWorld) (g4 : tyFair) (g5 : tyFair) (g6 : tyNotes) (p0_images0 : Nat → tyWorld) (p0_images1 : Nat → tyFair) (p0_images2 : Nat → tyFair) (p0_images3 : Nat → tyNotes) : Option (Int32 × tyNextStall × (Nat → tyWorld) × (Nat → tyFair) × (Nat → tyFair) × (Nat → tyNotes)) := (mNextStall_within x1 (0 : Int32) (3 : Int32)).bind (fun q1 => (if q1 = 0 then some ((-1 : Int32), g0, p0_images0, p0_images1, p0_images2, p0_images3) else rq (inb x1 4) (lt (x1.toNatClampNeg) (fun j3 => (mWorld_copyFrom (p0_images0 j3) (p0_images1 j3) (p0_images2 j3) (p0_images3 j3) g3 g4 g5 g6).bind (fun q4 => rq (inb x1 4) (lt (upd g0.2 x1.toNatClampNeg (vp_nar .boolean (1 : Int32))) (fun u5 => some (g5.2.2.2.2.1, (g0.1, u5), (va_up p0_images0 j3 q4.1), (va_up p0_images1 j3 q4.2.1), (va_up p0_images2 j3 q4.2.2.1), (va_up p0_images3 j3 q4.2.2.2)))))))))
set_option maxHeartbeats 4000000 in
set_option maxRecDepth 20000 in
theorem cNextStall_image {q : Int32 × tyNextStall × (Nat → tyWorld) × (Nat → tyFair) × (Nat → tyFair) × (Nat → tyNotes)} {x1 : Int32} (h : mNextStall_image x1 g0 g3 g4 g5 g6 p0_images0 p0_images1 p0_images2 p0_images3 = some q) : rMet l D Z (ty7 K) MNextStall_image [.ref ((a0 0) 0), .int x1] (List.flatten ([bNextStallG K (a0 0) f0_rules (fun j => some (f0_images (4 * j) 0)) ((a0 1) 0) ((a0 2) 0) ((a0 3) 0) ((a0 7) 0) ((a0 8) 0) g0, bTapeG K (a0 1) g1, bCursorG K (a0 2) g2, bWorldG K (a0 3) ((a0 4) 0) ((a0 5) 0) ((a0 6) 0) g3, bFairG K (a0 4) g4, bFairG K (a0 5) g5, bNotesG K (a0 6) g6, bPastG K (a0 7) f7_fairs g7, bTrialsG K (a0 8) ((a0 9) 0) ((a0 10) 0) ((a0 11) 0) g8, bFairG K (a0 9) g9, bOrderG K (a0 10) g10, bOrderG K (a0 11) g11] ++ (fam 4 (fun j => bWorldG K (f0_images (4 * j)) (f0_images (4 * j + 1) 0) (f0_images (4 * j + 2) 0) (f0_images (4 * j + 3) 0) (p0_images0 j)) ++ (fam 4 (fun j => bFairG K (f0_images (4 * j + 1)) (p0_images1 j)) ++ (fam 4 (fun j => bFairG K (f0_images (4 * j + 2)) (p0_images2 j)) ++ (fam 4 (fun j => bNotesG K (f0_images (4 * j + 3)) (p0_images3 j)) ++ [])))))) (List.flatten ([bNextStallG K (a0 0) f0_rules (fun j => some (f0_images (4 * j) 0)) ((a0 1) 0) ((a0 2) 0) ((a0 3) 0) ((a0 7) 0) ((a0 8) 0) q.2.1, bTapeG K (a0 1) g1, bCursorG K (a0 2) g2, bWorldG K (a0 3) ((a0 4) 0) ((a0 5) 0) ((a0 6) 0) g3, bFairG K (a0 4) g4, bFairG K (a0 5) g5, bNotesG K (a0 6) g6, bPastG K (a0 7) f7_fairs g7, bTrialsG K (a0 8) ((a0 9) 0) ((a0 10) 0) ((a0 11) 0) g8, bFairG K (a0 9) g9, bOrderG K (a0 10) g10, bOrderG K (a0 11) g11] ++ (fam 4 (fun j => bWorldG K (f0_images (4 * j)) (f0_images (4 * j + 1) 0) (f0_images (4 * j + 2) 0) (f0_images (4 * j + 3) 0) (q.2.2.1 j)) ++ (fam 4 (fun j => bFairG K (f0_images (4 * j + 1)) (q.2.2.2.1 j)) ++ (fam 4 (fun j => bFairG K (f0_images (4 * j + 2)) (q.2.2.2.2.1 j)) ++ (fam 4 (fun j => bNotesG K (f0_images (4 * j + 3)) (q.2.2.2.2.2 j)) ++ [])))))) (some (.int q.1)) := by
  refine rMet.of (by decide) rfl (Nat.le_of_ble_eq_true rfl) ?_
  refine r_sub (lv' := [(0, .ref ((a0 0) 0)), (1, .int x1)]) [0, 1] rfl ?_
  unfold mNextStall_image at h
  refine r_iload_n 1 dX11_image_0 rfl ?_
  refine r_iconst (x := (0 : Int32)) dX11_image_1 (by decide) ?_
  refine r_iconst (x := (3 : Int32)) dX11_image_2 (by decide) ?_
  obtain ⟨q1, h1, h⟩ := bd_some h
  refine b_callS (isC := []) (st := []) (bs1 := ([bNextStallG K (a0 0) f0_rules (fun j => some (f0_images (4 * j) 0)) ((a0 1) 0) ((a0 2) 0) ((a0 3) 0) ((a0 7) 0) ((a0 8) 0) g0, bTapeG K (a0 1) g1, bCursorG K (a0 2) g2, bWorldG K (a0 3) ((a0 4) 0) ((a0 5) 0) ((a0 6) 0) g3, bFairG K (a0 4) g4, bFairG K (a0 5) g5, bNotesG K (a0 6) g6, bPastG K (a0 7) f7_fairs g7, bTrialsG K (a0 8) ((a0 9) 0) ((a0 10) 0) ((a0 11) 0) g8, bFairG K (a0 9) g9, bOrderG K (a0 10) g10, bOrderG K (a0 11) g11] ++ (fam 4 (fun j => bWorldG K (f0_images (4 * j)) (f0_images (4 * j + 1) 0) (f0_images (4 * j + 2) 0) (f0_images (4 * j + 3) 0) (p0_images0 j)) ++ (fam 4 (fun j => bFairG K (f0_images (4 * j + 1)) (p0_images1 j)) ++ (fam 4 (fun j => bFairG K (f0_images (4 * j + 2)) (p0_images2 j)) ++ (fam 4 (fun j => bNotesG K (f0_images (4 * j + 3)) (p0_images3 j)) ++ [])))))) (cNextStall_within   h1) rfl rfl (Nat.le_of_ble_eq_true rfl) kNextStall_within (tb_in (i := 13) (j := 17) rfl rfl) (by decide) (by decide) rfl rfl rfl dX11_image_3 ?_
  refine r_if_ne 11 dX11_image_6 (by decide) (fun c2 => ?_) (fun c2 => ?_)
  · replace h := it_neg c2 h
    refine r_aload_n 0 dX11_image_11 rfl ?_
    refine gNextStall_images 0 rfl (tb_in (i := 12) (j := 31) rfl rfl) dX11_image_12 ?_
    refine r_iload_n 1 dX11_image_15 rfl ?_
    obtain ⟨h3, h⟩ := rq_some h
    obtain ⟨j3, e3, h⟩ := lt_some h
    have hj3 : j3 < 4 := by rw [e3]; exact inb_lt h3
    refine b_aald 0 2 6 rfl rfl rfl (inb_in h3) dX11_image_16 ?_
    refine r_st (st' := [.ref (f0_images (4 * j3) 0)]) (by rw [e3]; rfl) ?_
    refine r_aload_n 0 dX11_image_17 rfl ?_
    refine gNextStall_world 0 rfl (tb_in (i := 12) (j := 26) rfl rfl) dX11_image_18 ?_
    obtain ⟨q4, h4, h⟩ := bd_some h
    refine b_callVN (isC := [12 + j3, 16 + j3, 20 + j3, 24 + j3, 3, 4, 5, 6]) (ci := 8)  (st := []) (bs1 := ([bNextStallG K (a0 0) f0_rules (fun j => some (f0_images (4 * j) 0)) ((a0 1) 0) ((a0 2) 0) ((a0 3) 0) ((a0 7) 0) ((a0 8) 0) g0, bTapeG K (a0 1) g1, bCursorG K (a0 2) g2, bWorldG K (a0 3) ((a0 4) 0) ((a0 5) 0) ((a0 6) 0) g3, bFairG K (a0 4) g4, bFairG K (a0 5) g5, bNotesG K (a0 6) g6, bPastG K (a0 7) f7_fairs g7, bTrialsG K (a0 8) ((a0 9) 0) ((a0 10) 0) ((a0 11) 0) g8, bFairG K (a0 9) g9, bOrderG K (a0 10) g10, bOrderG K (a0 11) g11] ++ (fam 4 (fun j => bWorldG K (f0_images (4 * j)) (f0_images (4 * j + 1) 0) (f0_images (4 * j + 2) 0) (f0_images (4 * j + 3) 0) ((va_up p0_images0 j3 q4.1) j)) ++ (fam 4 (fun j => bFairG K (f0_images (4 * j + 1)) ((va_up p0_images1 j3 q4.2.1) j)) ++ (fam 4 (fun j => bFairG K (f0_images (4 * j + 2)) ((va_up p0_images2 j3 q4.2.2.1) j)) ++ (fam 4 (fun j => bNotesG K (f0_images (4 * j + 3)) ((va_up p0_images3 j3 q4.2.2.2) j)) ++ [])))))) (cWorld_copyFrom (a0 := fun b => f0_images (4 * j3 + b)) (a1 := fun b => a0 (3 + b)) (g0 := (p0_images0 j3)) (g1 := (p0_images1 j3)) (g2 := (p0_images2 j3)) (g3 := (p0_images3 j3)) (g4 := g3) (g5 := g4) (g6 := g5) (g7 := g6) h4) rfl rfl (Nat.le_of_ble_eq_true rfl) kWorld_copyFrom (List.mem_of_getElem? (i := 85) rfl) (by decide) (by simp only [List.nodup_cons, List.mem_cons, List.not_mem_nil, or_false, not_or, List.nodup_nil, not_false_eq_true, and_true]; omega) (map_s (fq0 (B := fun j g => bWorldG K (f0_images (4 * j)) (f0_images (4 * j + 1) 0) (f0_images (4 * j + 2) 0) (f0_images (4 * j + 3) 0) g) (l := [bNextStallG K (a0 0) f0_rules (fun j => some (f0_images (4 * j) 0)) ((a0 1) 0) ((a0 2) 0) ((a0 3) 0) ((a0 7) 0) ((a0 8) 0) g0, bTapeG K (a0 1) g1, bCursorG K (a0 2) g2, bWorldG K (a0 3) ((a0 4) 0) ((a0 5) 0) ((a0 6) 0) g3, bFairG K (a0 4) g4, bFairG K (a0 5) g5, bNotesG K (a0 6) g6, bPastG K (a0 7) f7_fairs g7, bTrialsG K (a0 8) ((a0 9) 0) ((a0 10) 0) ((a0 11) 0) g8, bFairG K (a0 9) g9, bOrderG K (a0 10) g10, bOrderG K (a0 11) g11]) rfl hj3) (map_s (fq1 (n0 := 4) (B := fun j g => bFairG K (f0_images (4 * j + 1)) g) (l := [bNextStallG K (a0 0) f0_rules (fun j => some (f0_images (4 * j) 0)) ((a0 1) 0) ((a0 2) 0) ((a0 3) 0) ((a0 7) 0) ((a0 8) 0) g0, bTapeG K (a0 1) g1, bCursorG K (a0 2) g2, bWorldG K (a0 3) ((a0 4) 0) ((a0 5) 0) ((a0 6) 0) g3, bFairG K (a0 4) g4, bFairG K (a0 5) g5, bNotesG K (a0 6) g6, bPastG K (a0 7) f7_fairs g7, bTrialsG K (a0 8) ((a0 9) 0) ((a0 10) 0) ((a0 11) 0) g8, bFairG K (a0 9) g9, bOrderG K (a0 10) g10, bOrderG K (a0 11) g11]) rfl hj3) (map_s (fq2 (n0 := 4) (n1 := 4) (B := fun j g => bFairG K (f0_images (4 * j + 2)) g) (l := [bNextStallG K (a0 0) f0_rules (fun j => some (f0_images (4 * j) 0)) ((a0 1) 0) ((a0 2) 0) ((a0 3) 0) ((a0 7) 0) ((a0 8) 0) g0, bTapeG K (a0 1) g1, bCursorG K (a0 2) g2, bWorldG K (a0 3) ((a0 4) 0) ((a0 5) 0) ((a0 6) 0) g3, bFairG K (a0 4) g4, bFairG K (a0 5) g5, bNotesG K (a0 6) g6, bPastG K (a0 7) f7_fairs g7, bTrialsG K (a0 8) ((a0 9) 0) ((a0 10) 0) ((a0 11) 0) g8, bFairG K (a0 9) g9, bOrderG K (a0 10) g10, bOrderG K (a0 11) g11]) rfl hj3) (map_s (fq3 (n0 := 4) (n1 := 4) (n2 := 4) (B := fun j g => bNotesG K (f0_images (4 * j + 3)) g) (l := [bNextStallG K (a0 0) f0_rules (fun j => some (f0_images (4 * j) 0)) ((a0 1) 0) ((a0 2) 0) ((a0 3) 0) ((a0 7) 0) ((a0 8) 0) g0, bTapeG K (a0 1) g1, bCursorG K (a0 2) g2, bWorldG K (a0 3) ((a0 4) 0) ((a0 5) 0) ((a0 6) 0) g3, bFairG K (a0 4) g4, bFairG K (a0 5) g5, bNotesG K (a0 6) g6, bPastG K (a0 7) f7_fairs g7, bTrialsG K (a0 8) ((a0 9) 0) ((a0 10) 0) ((a0 11) 0) g8, bFairG K (a0 9) g9, bOrderG K (a0 10) g10, bOrderG K (a0 11) g11]) rfl hj3) (map_s (rfl) (map_s (rfl) (map_s (rfl) (map_s (rfl) map_n)))))))) rfl (stm_s (bs1 := ([bNextStallG K (a0 0) f0_rules (fun j => some (f0_images (4 * j) 0)) ((a0 1) 0) ((a0 2) 0) ((a0 3) 0) ((a0 7) 0) ((a0 8) 0) g0, bTapeG K (a0 1) g1, bCursorG K (a0 2) g2, bWorldG K (a0 3) ((a0 4) 0) ((a0 5) 0) ((a0 6) 0) g3, bFairG K (a0 4) g4, bFairG K (a0 5) g5, bNotesG K (a0 6) g6, bPastG K (a0 7) f7_fairs g7, bTrialsG K (a0 8) ((a0 9) 0) ((a0 10) 0) ((a0 11) 0) g8, bFairG K (a0 9) g9, bOrderG K (a0 10) g10, bOrderG K (a0 11) g11] ++ (fam 4 (fun j => bWorldG K (f0_images (4 * j)) (f0_images (4 * j + 1) 0) (f0_images (4 * j + 2) 0) (f0_images (4 * j + 3) 0) ((va_up p0_images0 j3 q4.1) j)) ++ (fam 4 (fun j => bFairG K (f0_images (4 * j + 1)) (p0_images1 j)) ++ (fam 4 (fun j => bFairG K (f0_images (4 * j + 2)) (p0_images2 j)) ++ (fam 4 (fun j => bNotesG K (f0_images (4 * j + 3)) (p0_images3 j)) ++ [])))))) (fs0 (B := fun j g => bWorldG K (f0_images (4 * j)) (f0_images (4 * j + 1) 0) (f0_images (4 * j + 2) 0) (f0_images (4 * j + 3) 0) g) (g := q4.1) (l := [bNextStallG K (a0 0) f0_rules (fun j => some (f0_images (4 * j) 0)) ((a0 1) 0) ((a0 2) 0) ((a0 3) 0) ((a0 7) 0) ((a0 8) 0) g0, bTapeG K (a0 1) g1, bCursorG K (a0 2) g2, bWorldG K (a0 3) ((a0 4) 0) ((a0 5) 0) ((a0 6) 0) g3, bFairG K (a0 4) g4, bFairG K (a0 5) g5, bNotesG K (a0 6) g6, bPastG K (a0 7) f7_fairs g7, bTrialsG K (a0 8) ((a0 9) 0) ((a0 10) 0) ((a0 11) 0) g8, bFairG K (a0 9) g9, bOrderG K (a0 10) g10, bOrderG K (a0 11) g11]) rfl hj3) (stm_s (bs1 := ([bNextStallG K (a0 0) f0_rules (fun j => some (f0_images (4 * j) 0)) ((a0 1) 0) ((a0 2) 0) ((a0 3) 0) ((a0 7) 0) ((a0 8) 0) g0, bTapeG K (a0 1) g1, bCursorG K (a0 2) g2, bWorldG K (a0 3) ((a0 4) 0) ((a0 5) 0) ((a0 6) 0) g3, bFairG K (a0 4) g4, bFairG K (a0 5) g5, bNotesG K (a0 6) g6, bPastG K (a0 7) f7_fairs g7, bTrialsG K (a0 8) ((a0 9) 0) ((a0 10) 0) ((a0 11) 0) g8, bFairG K (a0 9) g9, bOrderG K (a0 10) g10, bOrderG K (a0 11) g11] ++ (fam 4 (fun j => bWorldG K (f0_images (4 * j)) (f0_images (4 * j + 1) 0) (f0_images (4 * j + 2) 0) (f0_images (4 * j + 3) 0) ((va_up p0_images0 j3 q4.1) j)) ++ (fam 4 (fun j => bFairG K (f0_images (4 * j + 1)) ((va_up p0_images1 j3 q4.2.1) j)) ++ (fam 4 (fun j => bFairG K (f0_images (4 * j + 2)) (p0_images2 j)) ++ (fam 4 (fun j => bNotesG K (f0_images (4 * j + 3)) (p0_images3 j)) ++ [])))))) (fs1 (n0 := 4) (B := fun j g => bFairG K (f0_images (4 * j + 1)) g) (g := q4.2.1) (l := [bNextStallG K (a0 0) f0_rules (fun j => some (f0_images (4 * j) 0)) ((a0 1) 0) ((a0 2) 0) ((a0 3) 0) ((a0 7) 0) ((a0 8) 0) g0, bTapeG K (a0 1) g1, bCursorG K (a0 2) g2, bWorldG K (a0 3) ((a0 4) 0) ((a0 5) 0) ((a0 6) 0) g3, bFairG K (a0 4) g4, bFairG K (a0 5) g5, bNotesG K (a0 6) g6, bPastG K (a0 7) f7_fairs g7, bTrialsG K (a0 8) ((a0 9) 0) ((a0 10) 0) ((a0 11) 0) g8, bFairG K (a0 9) g9, bOrderG K (a0 10) g10, bOrderG K (a0 11) g11]) rfl hj3) (stm_s (bs1 := ([bNextStallG K (a0 0) f0_rules (fun j => some (f0_images (4 * j) 0)) ((a0 1) 0) ((a0 2) 0) ((a0 3) 0) ((a0 7) 0) ((a0 8) 0) g0, bTapeG K (a0 1) g1, bCursorG K (a0 2) g2, bWorldG K (a0 3) ((a0 4) 0) ((a0 5) 0) ((a0 6) 0) g3, bFairG K (a0 4) g4, bFairG K (a0 5) g5, bNotesG K (a0 6) g6, bPastG K (a0 7) f7_fairs g7, bTrialsG K (a0 8) ((a0 9) 0) ((a0 10) 0) ((a0 11) 0) g8, bFairG K (a0 9) g9, bOrderG K (a0 10) g10, bOrderG K (a0 11) g11] ++ (fam 4 (fun j => bWorldG K (f0_images (4 * j)) (f0_images (4 * j + 1) 0) (f0_images (4 * j + 2) 0) (f0_images (4 * j + 3) 0) ((va_up p0_images0 j3 q4.1) j)) ++ (fam 4 (fun j => bFairG K (f0_images (4 * j + 1)) ((va_up p0_images1 j3 q4.2.1) j)) ++ (fam 4 (fun j => bFairG K (f0_images (4 * j + 2)) ((va_up p0_images2 j3 q4.2.2.1) j)) ++ (fam 4 (fun j => bNotesG K (f0_images (4 * j + 3)) (p0_images3 j)) ++ [])))))) (fs2 (n0 := 4) (n1 := 4) (B := fun j g => bFairG K (f0_images (4 * j + 2)) g) (g := q4.2.2.1) (l := [bNextStallG K (a0 0) f0_rules (fun j => some (f0_images (4 * j) 0)) ((a0 1) 0) ((a0 2) 0) ((a0 3) 0) ((a0 7) 0) ((a0 8) 0) g0, bTapeG K (a0 1) g1, bCursorG K (a0 2) g2, bWorldG K (a0 3) ((a0 4) 0) ((a0 5) 0) ((a0 6) 0) g3, bFairG K (a0 4) g4, bFairG K (a0 5) g5, bNotesG K (a0 6) g6, bPastG K (a0 7) f7_fairs g7, bTrialsG K (a0 8) ((a0 9) 0) ((a0 10) 0) ((a0 11) 0) g8, bFairG K (a0 9) g9, bOrderG K (a0 10) g10, bOrderG K (a0 11) g11]) rfl hj3) (stm_s (bs1 := ([bNextStallG K (a0 0) f0_rules (fun j => some (f0_images (4 * j) 0)) ((a0 1) 0) ((a0 2) 0) ((a0 3) 0) ((a0 7) 0) ((a0 8) 0) g0, bTapeG K (a0 1) g1, bCursorG K (a0 2) g2, bWorldG K (a0 3) ((a0 4) 0) ((a0 5) 0) ((a0 6) 0) g3, bFairG K (a0 4) g4, bFairG K (a0 5) g5, bNotesG K (a0 6) g6, bPastG K (a0 7) f7_fairs g7, bTrialsG K (a0 8) ((a0 9) 0) ((a0 10) 0) ((a0 11) 0) g8, bFairG K (a0 9) g9, bOrderG K (a0 10) g10, bOrderG K (a0 11) g11] ++ (fam 4 (fun j => bWorldG K (f0_images (4 * j)) (f0_images (4 * j + 1) 0) (f0_images (4 * j + 2) 0) (f0_images (4 * j + 3) 0) ((va_up p0_images0 j3 q4.1) j)) ++ (fam 4 (fun j => bFairG K (f0_images (4 * j + 1)) ((va_up p0_images1 j3 q4.2.1) j)) ++ (fam 4 (fun j => bFairG K (f0_images (4 * j + 2)) ((va_up p0_images2 j3 q4.2.2.1) j)) ++ (fam 4 (fun j => bNotesG K (f0_images (4 * j + 3)) ((va_up p0_images3 j3 q4.2.2.2) j)) ++ [])))))) (fs3 (n0 := 4) (n1 := 4) (n2 := 4) (B := fun j g => bNotesG K (f0_images (4 * j + 3)) g) (g := q4.2.2.2) (l := [bNextStallG K (a0 0) f0_rules (fun j => some (f0_images (4 * j) 0)) ((a0 1) 0) ((a0 2) 0) ((a0 3) 0) ((a0 7) 0) ((a0 8) 0) g0, bTapeG K (a0 1) g1, bCursorG K (a0 2) g2, bWorldG K (a0 3) ((a0 4) 0) ((a0 5) 0) ((a0 6) 0) g3, bFairG K (a0 4) g4, bFairG K (a0 5) g5, bNotesG K (a0 6) g6, bPastG K (a0 7) f7_fairs g7, bTrialsG K (a0 8) ((a0 9) 0) ((a0 10) 0) ((a0 11) 0) g8, bFairG K (a0 9) g9, bOrderG K (a0 10) g10, bOrderG K (a0 11) g11]) rfl hj3) (stm_s (bs1 := ([bNextStallG K (a0 0) f0_rules (fun j => some (f0_images (4 * j) 0)) ((a0 1) 0) ((a0 2) 0) ((a0 3) 0) ((a0 7) 0) ((a0 8) 0) g0, bTapeG K (a0 1) g1, bCursorG K (a0 2) g2, bWorldG K (a0 3) ((a0 4) 0) ((a0 5) 0) ((a0 6) 0) g3, bFairG K (a0 4) g4, bFairG K (a0 5) g5, bNotesG K (a0 6) g6, bPastG K (a0 7) f7_fairs g7, bTrialsG K (a0 8) ((a0 9) 0) ((a0 10) 0) ((a0 11) 0) g8, bFairG K (a0 9) g9, bOrderG K (a0 10) g10, bOrderG K (a0 11) g11] ++ (fam 4 (fun j => bWorldG K (f0_images (4 * j)) (f0_images (4 * j + 1) 0) (f0_images (4 * j + 2) 0) (f0_images (4 * j + 3) 0) ((va_up p0_images0 j3 q4.1) j)) ++ (fam 4 (fun j => bFairG K (f0_images (4 * j + 1)) ((va_up p0_images1 j3 q4.2.1) j)) ++ (fam 4 (fun j => bFairG K (f0_images (4 * j + 2)) ((va_up p0_images2 j3 q4.2.2.1) j)) ++ (fam 4 (fun j => bNotesG K (f0_images (4 * j + 3)) ((va_up p0_images3 j3 q4.2.2.2) j)) ++ [])))))) (rfl) (stm_s (bs1 := ([bNextStallG K (a0 0) f0_rules (fun j => some (f0_images (4 * j) 0)) ((a0 1) 0) ((a0 2) 0) ((a0 3) 0) ((a0 7) 0) ((a0 8) 0) g0, bTapeG K (a0 1) g1, bCursorG K (a0 2) g2, bWorldG K (a0 3) ((a0 4) 0) ((a0 5) 0) ((a0 6) 0) g3, bFairG K (a0 4) g4, bFairG K (a0 5) g5, bNotesG K (a0 6) g6, bPastG K (a0 7) f7_fairs g7, bTrialsG K (a0 8) ((a0 9) 0) ((a0 10) 0) ((a0 11) 0) g8, bFairG K (a0 9) g9, bOrderG K (a0 10) g10, bOrderG K (a0 11) g11] ++ (fam 4 (fun j => bWorldG K (f0_images (4 * j)) (f0_images (4 * j + 1) 0) (f0_images (4 * j + 2) 0) (f0_images (4 * j + 3) 0) ((va_up p0_images0 j3 q4.1) j)) ++ (fam 4 (fun j => bFairG K (f0_images (4 * j + 1)) ((va_up p0_images1 j3 q4.2.1) j)) ++ (fam 4 (fun j => bFairG K (f0_images (4 * j + 2)) ((va_up p0_images2 j3 q4.2.2.1) j)) ++ (fam 4 (fun j => bNotesG K (f0_images (4 * j + 3)) ((va_up p0_images3 j3 q4.2.2.2) j)) ++ [])))))) (rfl) (stm_s (bs1 := ([bNextStallG K (a0 0) f0_rules (fun j => some (f0_images (4 * j) 0)) ((a0 1) 0) ((a0 2) 0) ((a0 3) 0) ((a0 7) 0) ((a0 8) 0) g0, bTapeG K (a0 1) g1, bCursorG K (a0 2) g2, bWorldG K (a0 3) ((a0 4) 0) ((a0 5) 0) ((a0 6) 0) g3, bFairG K (a0 4) g4, bFairG K (a0 5) g5, bNotesG K (a0 6) g6, bPastG K (a0 7) f7_fairs g7, bTrialsG K (a0 8) ((a0 9) 0) ((a0 10) 0) ((a0 11) 0) g8, bFairG K (a0 9) g9, bOrderG K (a0 10) g10, bOrderG K (a0 11) g11] ++ (fam 4 (fun j => bWorldG K (f0_images (4 * j)) (f0_images (4 * j + 1) 0) (f0_images (4 * j + 2) 0) (f0_images (4 * j + 3) 0) ((va_up p0_images0 j3 q4.1) j)) ++ (fam 4 (fun j => bFairG K (f0_images (4 * j + 1)) ((va_up p0_images1 j3 q4.2.1) j)) ++ (fam 4 (fun j => bFairG K (f0_images (4 * j + 2)) ((va_up p0_images2 j3 q4.2.2.1) j)) ++ (fam 4 (fun j => bNotesG K (f0_images (4 * j + 3)) ((va_up p0_images3 j3 q4.2.2.2) j)) ++ [])))))) (rfl) (stm_s (bs1 := ([bNextStallG K (a0 0) f0_rules (fun j => some (f0_images (4 * j) 0)) ((a0 1) 0) ((a0 2) 0) ((a0 3) 0) ((a0 7) 0) ((a0 8) 0) g0, bTapeG K (a0 1) g1, bCursorG K (a0 2) g2, bWorldG K (a0 3) ((a0 4) 0) ((a0 5) 0) ((a0 6) 0) g3, bFairG K (a0 4) g4, bFairG K (a0 5) g5, bNotesG K (a0 6) g6, bPastG K (a0 7) f7_fairs g7, bTrialsG K (a0 8) ((a0 9) 0) ((a0 10) 0) ((a0 11) 0) g8, bFairG K (a0 9) g9, bOrderG K (a0 10) g10, bOrderG K (a0 11) g11] ++ (fam 4 (fun j => bWorldG K (f0_images (4 * j)) (f0_images (4 * j + 1) 0) (f0_images (4 * j + 2) 0) (f0_images (4 * j + 3) 0) ((va_up p0_images0 j3 q4.1) j)) ++ (fam 4 (fun j => bFairG K (f0_images (4 * j + 1)) ((va_up p0_images1 j3 q4.2.1) j)) ++ (fam 4 (fun j => bFairG K (f0_images (4 * j + 2)) ((va_up p0_images2 j3 q4.2.2.1) j)) ++ (fam 4 (fun j => bNotesG K (f0_images (4 * j + 3)) ((va_up p0_images3 j3 q4.2.2.2) j)) ++ [])))))) (rfl) stm_n)))))))) rfl rfl rfl rfl dX11_image_21 ?_
    refine r_aload_n 0 dX11_image_24 rfl ?_
    refine gNextStall_made 0 rfl (tb_in (i := 13) (j := 1) rfl rfl) dX11_image_25 ?_
    refine r_iload_n 1 dX11_image_28 rfl ?_
    refine r_iconst (x := (1 : Int32)) dX11_image_29 (by decide) ?_
    obtain ⟨h5, h⟩ := rq_some h
    obtain ⟨u5, e5, h⟩ := lt_some h
    refine sNextStall_made (bs1 := ([bNextStall K (a0 0) f0_rules (fun j => some (f0_images (4 * j) 0)) ((a0 1) 0) ((a0 2) 0) ((a0 3) 0) ((a0 7) 0) ((a0 8) 0) g0.1 u5, bTapeG K (a0 1) g1, bCursorG K (a0 2) g2, bWorldG K (a0 3) ((a0 4) 0) ((a0 5) 0) ((a0 6) 0) g3, bFairG K (a0 4) g4, bFairG K (a0 5) g5, bNotesG K (a0 6) g6, bPastG K (a0 7) f7_fairs g7, bTrialsG K (a0 8) ((a0 9) 0) ((a0 10) 0) ((a0 11) 0) g8, bFairG K (a0 9) g9, bOrderG K (a0 10) g10, bOrderG K (a0 11) g11] ++ (fam 4 (fun j => bWorldG K (f0_images (4 * j)) (f0_images (4 * j + 1) 0) (f0_images (4 * j + 2) 0) (f0_images (4 * j + 3) 0) ((va_up p0_images0 j3 q4.1) j)) ++ (fam 4 (fun j => bFairG K (f0_images (4 * j + 1)) ((va_up p0_images1 j3 q4.2.1) j)) ++ (fam 4 (fun j => bFairG K (f0_images (4 * j + 2)) ((va_up p0_images2 j3 q4.2.2.1) j)) ++ (fam 4 (fun j => bNotesG K (f0_images (4 * j + 3)) ((va_up p0_images3 j3 q4.2.2.2) j)) ++ [])))))) 0 e5 rfl (inb_in h5) rfl dX11_image_30 ?_
    refine r_aload_n 0 dX11_image_31 rfl ?_
    refine gNextStall_world 0 rfl (tb_in (i := 12) (j := 26) rfl rfl) dX11_image_32 ?_
    refine gWorld_nowN 3 rfl (List.mem_of_getElem? (i := 55) rfl) dX11_image_35 ?_
    refine gFair_minuteN 5 rfl (List.mem_of_getElem? (i := 22) rfl) dX11_image_38 ?_
    have hq := Option.some.inj h
    subst hq
    exact r_iret rfl dX11_image_41
  · replace h := it_pos c2 h
    refine r_iconst (x := (-1 : Int32)) dX11_image_9 (by decide) ?_
    have hq := Option.some.inj h
    subst hq
    exact r_iret rfl dX11_image_10
end
theorem dX11_back_0 : decode cX11_back 0 = .ok (.iload_n 1, 1) := by decide +kernel
theorem dX11_back_1 : decode cX11_back 1 = .ok (.iconst 0, 1) := by decide +kernel
theorem dX11_back_2 : decode cX11_back 2 = .ok (.iconst 3, 1) := by decide +kernel
theorem dX11_back_3 : decode cX11_back 3 = .ok (.invokestatic 70, 3) := by decide +kernel
theorem dX11_back_6 : decode cX11_back 6 = .ok (.ifCond .eq 12, 3) := by decide +kernel
theorem dX11_back_9 : decode cX11_back 9 = .ok (.aload_n 0, 1) := by decide +kernel
theorem dX11_back_10 : decode cX11_back 10 = .ok (.getfield 51, 3) := by decide +kernel
theorem dX11_back_13 : decode cX11_back 13 = .ok (.iload_n 1, 1) := by decide +kernel
theorem dX11_back_14 : decode cX11_back 14 = .ok (.baload, 1) := by decide +kernel
theorem dX11_back_15 : decode cX11_back 15 = .ok (.ifCond .ne 5, 3) := by decide +kernel
theorem dX11_back_18 : decode cX11_back 18 = .ok (.iconst (-1), 1) := by decide +kernel
theorem dX11_back_19 : decode cX11_back 19 = .ok (.ireturn, 1) := by decide +kernel
theorem dX11_back_20 : decode cX11_back 20 = .ok (.aload_n 0, 1) := by decide +kernel
theorem dX11_back_21 : decode cX11_back 21 = .ok (.getfield 36, 3) := by decide +kernel
theorem dX11_back_24 : decode cX11_back 24 = .ok (.aload_n 0, 1) := by decide +kernel
theorem dX11_back_25 : decode cX11_back 25 = .ok (.getfield 47, 3) := by decide +kernel
theorem dX11_back_28 : decode cX11_back 28 = .ok (.iload_n 1, 1) := by decide +kernel
theorem dX11_back_29 : decode cX11_back 29 = .ok (.aaload, 1) := by decide +kernel
theorem dX11_back_30 : decode cX11_back 30 = .ok (.invokevirtual 295, 3) := by decide +kernel
theorem dX11_back_33 : decode cX11_back 33 = .ok (.aload_n 0, 1) := by decide +kernel
theorem dX11_back_34 : decode cX11_back 34 = .ok (.getfield 43, 3) := by decide +kernel
theorem dX11_back_37 : decode cX11_back 37 = .ok (.invokevirtual 99, 3) := by decide +kernel
theorem dX11_back_40 : decode cX11_back 40 = .ok (.aload_n 0, 1) := by decide +kernel
theorem dX11_back_41 : decode cX11_back 41 = .ok (.getfield 36, 3) := by decide +kernel
theorem dX11_back_44 : decode cX11_back 44 = .ok (.getfield 119, 3) := by decide +kernel
theorem dX11_back_47 : decode cX11_back 47 = .ok (.getfield 170, 3) := by decide +kernel
theorem dX11_back_50 : decode cX11_back 50 = .ok (.ireturn, 1) := by decide +kernel
abbrev MNextStall_back : rx_M := (RX11, yX11_back, cX11_back, 2, (some .int), 6)
theorem kNextStall_back : rKv MNextStall_back 1 := ⟨tb_in (i := 36) (j := 29) rfl rfl, tb_in (i := 36) (j := 30) rfl rfl, tb_in (i := 2) (j := 22) rfl rfl, tb_in (i := 16) (j := 18) rfl rfl, ⟨by decide, by decide, by decide +kernel⟩, by decide⟩
section
variable {a0 : Nat → Nat → Nat} {g0 : tyNextStall} {g1 : tyTape} {g2 : tyCursor} {g3 : tyWorld} {g4 : tyFair} {g5 : tyFair} {g6 : tyNotes} {g7 : tyPast} {g8 : tyTrials} {g9 : tyFair} {g10 : tyOrder} {g11 : tyOrder} {f0_rules : Nat → Option Nat} {f0_images : Nat → Nat → Nat} {f7_fairs : Nat → Option Nat} {p0_images0 : Nat → tyWorld} {p0_images1 : Nat → tyFair} {p0_images2 : Nat → tyFair} {p0_images3 : Nat → tyNotes}
def mNextStall_back (x1 : Int32) (g0 : tyNextStall) (g3 : tyWorld) (g4 : tyFair) (g5 : tyFair) (g6 : tyNotes) (g7 : tyPast) (p0_images0 : Nat → tyWorld) (p0_images1 : Nat → tyFair) (p0_images2 : Nat → tyFair) (p0_images3 : Nat → tyNotes) : Option (Int32 × tyWorld × tyFair × tyFair × tyNotes × tyPast) := (mNextStall_within x1 (0 : Int32) (3 : Int32)).bind (fun q1 => (if q1 = 0 then some ((-1 : Int32), g3, g4, g5, g6, g7) else rq (inb x1 4) ((if (g0.2 x1.toNatClampNeg) = 0 then some ((-1 : Int32), g3, g4, g5, g6, g7) else rq (inb x1 4) (lt (x1.toNatClampNeg) (fun j5 => (mWorld_copyFrom g3 g4 g5 g6 (p0_images0 j5) (p0_images1 j5) (p0_images2 j5) (p0_images3 j5)).bind (fun q6 => (mPast_forget g7).bind (fun q7 => some (q6.2.2.1.2.2.2.2.1, q6.1, q6.2.1, q6.2.2.1, q6.2.2.2, q7)))))))))
set_option maxHeartbeats 4000000 in
set_option maxRecDepth 20000 in
theorem cNextStall_back {q : Int32 × tyWorld × tyFair × tyFair × tyNotes × tyPast} {x1 : Int32} (h : mNextStall_back x1 g0 g3 g4 g5 g6 g7 p0_images0 p0_images1 p0_images2 p0_images3 = some q) : rMet l D Z (ty7 K) MNextStall_back [.ref ((a0 0) 0), .int x1] (List.flatten ([bNextStallG K (a0 0) f0_rules (fun j => some (f0_images (4 * j) 0)) ((a0 1) 0) ((a0 2) 0) ((a0 3) 0) ((a0 7) 0) ((a0 8) 0) g0, bTapeG K (a0 1) g1, bCursorG K (a0 2) g2, bWorldG K (a0 3) ((a0 4) 0) ((a0 5) 0) ((a0 6) 0) g3, bFairG K (a0 4) g4, bFairG K (a0 5) g5, bNotesG K (a0 6) g6, bPastG K (a0 7) f7_fairs g7, bTrialsG K (a0 8) ((a0 9) 0) ((a0 10) 0) ((a0 11) 0) g8, bFairG K (a0 9) g9, bOrderG K (a0 10) g10, bOrderG K (a0 11) g11] ++ (fam 4 (fun j => bWorldG K (f0_images (4 * j)) (f0_images (4 * j + 1) 0) (f0_images (4 * j + 2) 0) (f0_images (4 * j + 3) 0) (p0_images0 j)) ++ (fam 4 (fun j => bFairG K (f0_images (4 * j + 1)) (p0_images1 j)) ++ (fam 4 (fun j => bFairG K (f0_images (4 * j + 2)) (p0_images2 j)) ++ (fam 4 (fun j => bNotesG K (f0_images (4 * j + 3)) (p0_images3 j)) ++ [])))))) (List.flatten ([bNextStallG K (a0 0) f0_rules (fun j => some (f0_images (4 * j) 0)) ((a0 1) 0) ((a0 2) 0) ((a0 3) 0) ((a0 7) 0) ((a0 8) 0) g0, bTapeG K (a0 1) g1, bCursorG K (a0 2) g2, bWorldG K (a0 3) ((a0 4) 0) ((a0 5) 0) ((a0 6) 0) q.2.1, bFairG K (a0 4) q.2.2.1, bFairG K (a0 5) q.2.2.2.1, bNotesG K (a0 6) q.2.2.2.2.1, bPastG K (a0 7) f7_fairs q.2.2.2.2.2, bTrialsG K (a0 8) ((a0 9) 0) ((a0 10) 0) ((a0 11) 0) g8, bFairG K (a0 9) g9, bOrderG K (a0 10) g10, bOrderG K (a0 11) g11] ++ (fam 4 (fun j => bWorldG K (f0_images (4 * j)) (f0_images (4 * j + 1) 0) (f0_images (4 * j + 2) 0) (f0_images (4 * j + 3) 0) (p0_images0 j)) ++ (fam 4 (fun j => bFairG K (f0_images (4 * j + 1)) (p0_images1 j)) ++ (fam 4 (fun j => bFairG K (f0_images (4 * j + 2)) (p0_images2 j)) ++ (fam 4 (fun j => bNotesG K (f0_images (4 * j + 3)) (p0_images3 j)) ++ [])))))) (some (.int q.1)) := by
  refine rMet.of (by decide) rfl (Nat.le_of_ble_eq_true rfl) ?_
  refine r_sub (lv' := [(0, .ref ((a0 0) 0)), (1, .int x1)]) [0, 1] rfl ?_
  unfold mNextStall_back at h
  refine r_iload_n 1 dX11_back_0 rfl ?_
  refine r_iconst (x := (0 : Int32)) dX11_back_1 (by decide) ?_
  refine r_iconst (x := (3 : Int32)) dX11_back_2 (by decide) ?_
  obtain ⟨q1, h1, h⟩ := bd_some h
  refine b_callS (isC := []) (st := []) (bs1 := ([bNextStallG K (a0 0) f0_rules (fun j => some (f0_images (4 * j) 0)) ((a0 1) 0) ((a0 2) 0) ((a0 3) 0) ((a0 7) 0) ((a0 8) 0) g0, bTapeG K (a0 1) g1, bCursorG K (a0 2) g2, bWorldG K (a0 3) ((a0 4) 0) ((a0 5) 0) ((a0 6) 0) g3, bFairG K (a0 4) g4, bFairG K (a0 5) g5, bNotesG K (a0 6) g6, bPastG K (a0 7) f7_fairs g7, bTrialsG K (a0 8) ((a0 9) 0) ((a0 10) 0) ((a0 11) 0) g8, bFairG K (a0 9) g9, bOrderG K (a0 10) g10, bOrderG K (a0 11) g11] ++ (fam 4 (fun j => bWorldG K (f0_images (4 * j)) (f0_images (4 * j + 1) 0) (f0_images (4 * j + 2) 0) (f0_images (4 * j + 3) 0) (p0_images0 j)) ++ (fam 4 (fun j => bFairG K (f0_images (4 * j + 1)) (p0_images1 j)) ++ (fam 4 (fun j => bFairG K (f0_images (4 * j + 2)) (p0_images2 j)) ++ (fam 4 (fun j => bNotesG K (f0_images (4 * j + 3)) (p0_images3 j)) ++ [])))))) (cNextStall_within   h1) rfl rfl (Nat.le_of_ble_eq_true rfl) kNextStall_within (tb_in (i := 13) (j := 17) rfl rfl) (by decide) (by decide) rfl rfl rfl dX11_back_3 ?_
  refine r_if_eq 18 dX11_back_6 (by decide) (fun c2 => ?_) (fun c2 => ?_)
  · replace h := it_pos c2 h
    refine r_iconst (x := (-1 : Int32)) dX11_back_18 (by decide) ?_
    have hq := Option.some.inj h
    subst hq
    exact r_iret rfl dX11_back_19
  · replace h := it_neg c2 h
    refine r_aload_n 0 dX11_back_9 rfl ?_
    refine gNextStall_made 0 rfl (tb_in (i := 13) (j := 1) rfl rfl) dX11_back_10 ?_
    refine r_iload_n 1 dX11_back_13 rfl ?_
    obtain ⟨h3, h⟩ := rq_some h
    refine lNextStall_made 0 rfl (inb_in h3) dX11_back_14 ?_
    refine r_if_ne 20 dX11_back_15 (by decide) (fun c4 => ?_) (fun c4 => ?_)
    · replace h := it_neg c4 h
      refine r_aload_n 0 dX11_back_20 rfl ?_
      refine gNextStall_world 0 rfl (tb_in (i := 12) (j := 26) rfl rfl) dX11_back_21 ?_
      refine r_aload_n 0 dX11_back_24 rfl ?_
      refine gNextStall_images 0 rfl (tb_in (i := 12) (j := 31) rfl rfl) dX11_back_25 ?_
      refine r_iload_n 1 dX11_back_28 rfl ?_
      obtain ⟨h5, h⟩ := rq_some h
      obtain ⟨j5, e5, h⟩ := lt_some h
      have hj5 : j5 < 4 := by rw [e5]; exact inb_lt h5
      refine b_aald 0 2 6 rfl rfl rfl (inb_in h5) dX11_back_29 ?_
      refine r_st (st' := [.ref (f0_images (4 * j5) 0), .ref ((a0 3) 0)]) (by rw [e5]; rfl) ?_
      obtain ⟨q6, h6, h⟩ := bd_some h
      refine b_callVN (isC := [3, 4, 5, 6, 12 + j5, 16 + j5, 20 + j5, 24 + j5]) (ci := 8)  (st := []) (bs1 := ([bNextStallG K (a0 0) f0_rules (fun j => some (f0_images (4 * j) 0)) ((a0 1) 0) ((a0 2) 0) ((a0 3) 0) ((a0 7) 0) ((a0 8) 0) g0, bTapeG K (a0 1) g1, bCursorG K (a0 2) g2, bWorldG K (a0 3) ((a0 4) 0) ((a0 5) 0) ((a0 6) 0) q6.1, bFairG K (a0 4) q6.2.1, bFairG K (a0 5) q6.2.2.1, bNotesG K (a0 6) q6.2.2.2, bPastG K (a0 7) f7_fairs g7, bTrialsG K (a0 8) ((a0 9) 0) ((a0 10) 0) ((a0 11) 0) g8, bFairG K (a0 9) g9, bOrderG K (a0 10) g10, bOrderG K (a0 11) g11] ++ (fam 4 (fun j => bWorldG K (f0_images (4 * j)) (f0_images (4 * j + 1) 0) (f0_images (4 * j + 2) 0) (f0_images (4 * j + 3) 0) (p0_images0 j)) ++ (fam 4 (fun j => bFairG K (f0_images (4 * j + 1)) (p0_images1 j)) ++ (fam 4 (fun j => bFairG K (f0_images (4 * j + 2)) (p0_images2 j)) ++ (fam 4 (fun j => bNotesG K (f0_images (4 * j + 3)) (p0_images3 j)) ++ [])))))) (cWorld_copyFrom (a0 := fun b => a0 (3 + b)) (a1 := fun b => f0_images (4 * j5 + b)) (g0 := g3) (g1 := g4) (g2 := g5) (g3 := g6) (g4 := (p0_images0 j5)) (g5 := (p0_images1 j5)) (g6 := (p0_images2 j5)) (g7 := (p0_images3 j5)) h6) rfl rfl (Nat.le_of_ble_eq_true rfl) kWorld_copyFrom (List.mem_of_getElem? (i := 85) rfl) (by decide) (by simp only [List.nodup_cons, List.mem_cons, List.not_mem_nil, or_false, not_or, List.nodup_nil, not_false_eq_true, and_true]; omega) (map_s (rfl) (map_s (rfl) (map_s (rfl) (map_s (rfl) (map_s (fq0 (B := fun j g => bWorldG K (f0_images (4 * j)) (f0_images (4 * j + 1) 0) (f0_images (4 * j + 2) 0) (f0_images (4 * j + 3) 0) g) (l := [bNextStallG K (a0 0) f0_rules (fun j => some (f0_images (4 * j) 0)) ((a0 1) 0) ((a0 2) 0) ((a0 3) 0) ((a0 7) 0) ((a0 8) 0) g0, bTapeG K (a0 1) g1, bCursorG K (a0 2) g2, bWorldG K (a0 3) ((a0 4) 0) ((a0 5) 0) ((a0 6) 0) g3, bFairG K (a0 4) g4, bFairG K (a0 5) g5, bNotesG K (a0 6) g6, bPastG K (a0 7) f7_fairs g7, bTrialsG K (a0 8) ((a0 9) 0) ((a0 10) 0) ((a0 11) 0) g8, bFairG K (a0 9) g9, bOrderG K (a0 10) g10, bOrderG K (a0 11) g11]) rfl hj5) (map_s (fq1 (n0 := 4) (B := fun j g => bFairG K (f0_images (4 * j + 1)) g) (l := [bNextStallG K (a0 0) f0_rules (fun j => some (f0_images (4 * j) 0)) ((a0 1) 0) ((a0 2) 0) ((a0 3) 0) ((a0 7) 0) ((a0 8) 0) g0, bTapeG K (a0 1) g1, bCursorG K (a0 2) g2, bWorldG K (a0 3) ((a0 4) 0) ((a0 5) 0) ((a0 6) 0) g3, bFairG K (a0 4) g4, bFairG K (a0 5) g5, bNotesG K (a0 6) g6, bPastG K (a0 7) f7_fairs g7, bTrialsG K (a0 8) ((a0 9) 0) ((a0 10) 0) ((a0 11) 0) g8, bFairG K (a0 9) g9, bOrderG K (a0 10) g10, bOrderG K (a0 11) g11]) rfl hj5) (map_s (fq2 (n0 := 4) (n1 := 4) (B := fun j g => bFairG K (f0_images (4 * j + 2)) g) (l := [bNextStallG K (a0 0) f0_rules (fun j => some (f0_images (4 * j) 0)) ((a0 1) 0) ((a0 2) 0) ((a0 3) 0) ((a0 7) 0) ((a0 8) 0) g0, bTapeG K (a0 1) g1, bCursorG K (a0 2) g2, bWorldG K (a0 3) ((a0 4) 0) ((a0 5) 0) ((a0 6) 0) g3, bFairG K (a0 4) g4, bFairG K (a0 5) g5, bNotesG K (a0 6) g6, bPastG K (a0 7) f7_fairs g7, bTrialsG K (a0 8) ((a0 9) 0) ((a0 10) 0) ((a0 11) 0) g8, bFairG K (a0 9) g9, bOrderG K (a0 10) g10, bOrderG K (a0 11) g11]) rfl hj5) (map_s (fq3 (n0 := 4) (n1 := 4) (n2 := 4) (B := fun j g => bNotesG K (f0_images (4 * j + 3)) g) (l := [bNextStallG K (a0 0) f0_rules (fun j => some (f0_images (4 * j) 0)) ((a0 1) 0) ((a0 2) 0) ((a0 3) 0) ((a0 7) 0) ((a0 8) 0) g0, bTapeG K (a0 1) g1, bCursorG K (a0 2) g2, bWorldG K (a0 3) ((a0 4) 0) ((a0 5) 0) ((a0 6) 0) g3, bFairG K (a0 4) g4, bFairG K (a0 5) g5, bNotesG K (a0 6) g6, bPastG K (a0 7) f7_fairs g7, bTrialsG K (a0 8) ((a0 9) 0) ((a0 10) 0) ((a0 11) 0) g8, bFairG K (a0 9) g9, bOrderG K (a0 10) g10, bOrderG K (a0 11) g11]) rfl hj5) map_n)))))))) rfl (stm_s (bs1 := ([bNextStallG K (a0 0) f0_rules (fun j => some (f0_images (4 * j) 0)) ((a0 1) 0) ((a0 2) 0) ((a0 3) 0) ((a0 7) 0) ((a0 8) 0) g0, bTapeG K (a0 1) g1, bCursorG K (a0 2) g2, bWorldG K (a0 3) ((a0 4) 0) ((a0 5) 0) ((a0 6) 0) q6.1, bFairG K (a0 4) g4, bFairG K (a0 5) g5, bNotesG K (a0 6) g6, bPastG K (a0 7) f7_fairs g7, bTrialsG K (a0 8) ((a0 9) 0) ((a0 10) 0) ((a0 11) 0) g8, bFairG K (a0 9) g9, bOrderG K (a0 10) g10, bOrderG K (a0 11) g11] ++ (fam 4 (fun j => bWorldG K (f0_images (4 * j)) (f0_images (4 * j + 1) 0) (f0_images (4 * j + 2) 0) (f0_images (4 * j + 3) 0) (p0_images0 j)) ++ (fam 4 (fun j => bFairG K (f0_images (4 * j + 1)) (p0_images1 j)) ++ (fam 4 (fun j => bFairG K (f0_images (4 * j + 2)) (p0_images2 j)) ++ (fam 4 (fun j => bNotesG K (f0_images (4 * j + 3)) (p0_images3 j)) ++ [])))))) (rfl) (stm_s (bs1 := ([bNextStallG K (a0 0) f0_rules (fun j => some (f0_images (4 * j) 0)) ((a0 1) 0) ((a0 2) 0) ((a0 3) 0) ((a0 7) 0) ((a0 8) 0) g0, bTapeG K (a0 1) g1, bCursorG K (a0 2) g2, bWorldG K (a0 3) ((a0 4) 0) ((a0 5) 0) ((a0 6) 0) q6.1, bFairG K (a0 4) q6.2.1, bFairG K (a0 5) g5, bNotesG K (a0 6) g6, bPastG K (a0 7) f7_fairs g7, bTrialsG K (a0 8) ((a0 9) 0) ((a0 10) 0) ((a0 11) 0) g8, bFairG K (a0 9) g9, bOrderG K (a0 10) g10, bOrderG K (a0 11) g11] ++ (fam 4 (fun j => bWorldG K (f0_images (4 * j)) (f0_images (4 * j + 1) 0) (f0_images (4 * j + 2) 0) (f0_images (4 * j + 3) 0) (p0_images0 j)) ++ (fam 4 (fun j => bFairG K (f0_images (4 * j + 1)) (p0_images1 j)) ++ (fam 4 (fun j => bFairG K (f0_images (4 * j + 2)) (p0_images2 j)) ++ (fam 4 (fun j => bNotesG K (f0_images (4 * j + 3)) (p0_images3 j)) ++ [])))))) (rfl) (stm_s (bs1 := ([bNextStallG K (a0 0) f0_rules (fun j => some (f0_images (4 * j) 0)) ((a0 1) 0) ((a0 2) 0) ((a0 3) 0) ((a0 7) 0) ((a0 8) 0) g0, bTapeG K (a0 1) g1, bCursorG K (a0 2) g2, bWorldG K (a0 3) ((a0 4) 0) ((a0 5) 0) ((a0 6) 0) q6.1, bFairG K (a0 4) q6.2.1, bFairG K (a0 5) q6.2.2.1, bNotesG K (a0 6) g6, bPastG K (a0 7) f7_fairs g7, bTrialsG K (a0 8) ((a0 9) 0) ((a0 10) 0) ((a0 11) 0) g8, bFairG K (a0 9) g9, bOrderG K (a0 10) g10, bOrderG K (a0 11) g11] ++ (fam 4 (fun j => bWorldG K (f0_images (4 * j)) (f0_images (4 * j + 1) 0) (f0_images (4 * j + 2) 0) (f0_images (4 * j + 3) 0) (p0_images0 j)) ++ (fam 4 (fun j => bFairG K (f0_images (4 * j + 1)) (p0_images1 j)) ++ (fam 4 (fun j => bFairG K (f0_images (4 * j + 2)) (p0_images2 j)) ++ (fam 4 (fun j => bNotesG K (f0_images (4 * j + 3)) (p0_images3 j)) ++ [])))))) (rfl) (stm_s (bs1 := ([bNextStallG K (a0 0) f0_rules (fun j => some (f0_images (4 * j) 0)) ((a0 1) 0) ((a0 2) 0) ((a0 3) 0) ((a0 7) 0) ((a0 8) 0) g0, bTapeG K (a0 1) g1, bCursorG K (a0 2) g2, bWorldG K (a0 3) ((a0 4) 0) ((a0 5) 0) ((a0 6) 0) q6.1, bFairG K (a0 4) q6.2.1, bFairG K (a0 5) q6.2.2.1, bNotesG K (a0 6) q6.2.2.2, bPastG K (a0 7) f7_fairs g7, bTrialsG K (a0 8) ((a0 9) 0) ((a0 10) 0) ((a0 11) 0) g8, bFairG K (a0 9) g9, bOrderG K (a0 10) g10, bOrderG K (a0 11) g11] ++ (fam 4 (fun j => bWorldG K (f0_images (4 * j)) (f0_images (4 * j + 1) 0) (f0_images (4 * j + 2) 0) (f0_images (4 * j + 3) 0) (p0_images0 j)) ++ (fam 4 (fun j => bFairG K (f0_images (4 * j + 1)) (p0_images1 j)) ++ (fam 4 (fun j => bFairG K (f0_images (4 * j + 2)) (p0_images2 j)) ++ (fam 4 (fun j => bNotesG K (f0_images (4 * j + 3)) (p0_images3 j)) ++ [])))))) (rfl) (stm_s (bs1 := ([bNextStallG K (a0 0) f0_rules (fun j => some (f0_images (4 * j) 0)) ((a0 1) 0) ((a0 2) 0) ((a0 3) 0) ((a0 7) 0) ((a0 8) 0) g0, bTapeG K (a0 1) g1, bCursorG K (a0 2) g2, bWorldG K (a0 3) ((a0 4) 0) ((a0 5) 0) ((a0 6) 0) q6.1, bFairG K (a0 4) q6.2.1, bFairG K (a0 5) q6.2.2.1, bNotesG K (a0 6) q6.2.2.2, bPastG K (a0 7) f7_fairs g7, bTrialsG K (a0 8) ((a0 9) 0) ((a0 10) 0) ((a0 11) 0) g8, bFairG K (a0 9) g9, bOrderG K (a0 10) g10, bOrderG K (a0 11) g11] ++ (fam 4 (fun j => bWorldG K (f0_images (4 * j)) (f0_images (4 * j + 1) 0) (f0_images (4 * j + 2) 0) (f0_images (4 * j + 3) 0) (p0_images0 j)) ++ (fam 4 (fun j => bFairG K (f0_images (4 * j + 1)) (p0_images1 j)) ++ (fam 4 (fun j => bFairG K (f0_images (4 * j + 2)) (p0_images2 j)) ++ (fam 4 (fun j => bNotesG K (f0_images (4 * j + 3)) (p0_images3 j)) ++ [])))))) (set_same _ _ _ (fq0 (B := fun j g => bWorldG K (f0_images (4 * j)) (f0_images (4 * j + 1) 0) (f0_images (4 * j + 2) 0) (f0_images (4 * j + 3) 0) g) (l := [bNextStallG K (a0 0) f0_rules (fun j => some (f0_images (4 * j) 0)) ((a0 1) 0) ((a0 2) 0) ((a0 3) 0) ((a0 7) 0) ((a0 8) 0) g0, bTapeG K (a0 1) g1, bCursorG K (a0 2) g2, bWorldG K (a0 3) ((a0 4) 0) ((a0 5) 0) ((a0 6) 0) q6.1, bFairG K (a0 4) q6.2.1, bFairG K (a0 5) q6.2.2.1, bNotesG K (a0 6) q6.2.2.2, bPastG K (a0 7) f7_fairs g7, bTrialsG K (a0 8) ((a0 9) 0) ((a0 10) 0) ((a0 11) 0) g8, bFairG K (a0 9) g9, bOrderG K (a0 10) g10, bOrderG K (a0 11) g11]) rfl hj5)) (stm_s (bs1 := ([bNextStallG K (a0 0) f0_rules (fun j => some (f0_images (4 * j) 0)) ((a0 1) 0) ((a0 2) 0) ((a0 3) 0) ((a0 7) 0) ((a0 8) 0) g0, bTapeG K (a0 1) g1, bCursorG K (a0 2) g2, bWorldG K (a0 3) ((a0 4) 0) ((a0 5) 0) ((a0 6) 0) q6.1, bFairG K (a0 4) q6.2.1, bFairG K (a0 5) q6.2.2.1, bNotesG K (a0 6) q6.2.2.2, bPastG K (a0 7) f7_fairs g7, bTrialsG K (a0 8) ((a0 9) 0) ((a0 10) 0) ((a0 11) 0) g8, bFairG K (a0 9) g9, bOrderG K (a0 10) g10, bOrderG K (a0 11) g11] ++ (fam 4 (fun j => bWorldG K (f0_images (4 * j)) (f0_images (4 * j + 1) 0) (f0_images (4 * j + 2) 0) (f0_images (4 * j + 3) 0) (p0_images0 j)) ++ (fam 4 (fun j => bFairG K (f0_images (4 * j + 1)) (p0_images1 j)) ++ (fam 4 (fun j => bFairG K (f0_images (4 * j + 2)) (p0_images2 j)) ++ (fam 4 (fun j => bNotesG K (f0_images (4 * j + 3)) (p0_images3 j)) ++ [])))))) (set_same _ _ _ (fq1 (n0 := 4) (B := fun j g => bFairG K (f0_images (4 * j + 1)) g) (l := [bNextStallG K (a0 0) f0_rules (fun j => some (f0_images (4 * j) 0)) ((a0 1) 0) ((a0 2) 0) ((a0 3) 0) ((a0 7) 0) ((a0 8) 0) g0, bTapeG K (a0 1) g1, bCursorG K (a0 2) g2, bWorldG K (a0 3) ((a0 4) 0) ((a0 5) 0) ((a0 6) 0) q6.1, bFairG K (a0 4) q6.2.1, bFairG K (a0 5) q6.2.2.1, bNotesG K (a0 6) q6.2.2.2, bPastG K (a0 7) f7_fairs g7, bTrialsG K (a0 8) ((a0 9) 0) ((a0 10) 0) ((a0 11) 0) g8, bFairG K (a0 9) g9, bOrderG K (a0 10) g10, bOrderG K (a0 11) g11]) rfl hj5)) (stm_s (bs1 := ([bNextStallG K (a0 0) f0_rules (fun j => some (f0_images (4 * j) 0)) ((a0 1) 0) ((a0 2) 0) ((a0 3) 0) ((a0 7) 0) ((a0 8) 0) g0, bTapeG K (a0 1) g1, bCursorG K (a0 2) g2, bWorldG K (a0 3) ((a0 4) 0) ((a0 5) 0) ((a0 6) 0) q6.1, bFairG K (a0 4) q6.2.1, bFairG K (a0 5) q6.2.2.1, bNotesG K (a0 6) q6.2.2.2, bPastG K (a0 7) f7_fairs g7, bTrialsG K (a0 8) ((a0 9) 0) ((a0 10) 0) ((a0 11) 0) g8, bFairG K (a0 9) g9, bOrderG K (a0 10) g10, bOrderG K (a0 11) g11] ++ (fam 4 (fun j => bWorldG K (f0_images (4 * j)) (f0_images (4 * j + 1) 0) (f0_images (4 * j + 2) 0) (f0_images (4 * j + 3) 0) (p0_images0 j)) ++ (fam 4 (fun j => bFairG K (f0_images (4 * j + 1)) (p0_images1 j)) ++ (fam 4 (fun j => bFairG K (f0_images (4 * j + 2)) (p0_images2 j)) ++ (fam 4 (fun j => bNotesG K (f0_images (4 * j + 3)) (p0_images3 j)) ++ [])))))) (set_same _ _ _ (fq2 (n0 := 4) (n1 := 4) (B := fun j g => bFairG K (f0_images (4 * j + 2)) g) (l := [bNextStallG K (a0 0) f0_rules (fun j => some (f0_images (4 * j) 0)) ((a0 1) 0) ((a0 2) 0) ((a0 3) 0) ((a0 7) 0) ((a0 8) 0) g0, bTapeG K (a0 1) g1, bCursorG K (a0 2) g2, bWorldG K (a0 3) ((a0 4) 0) ((a0 5) 0) ((a0 6) 0) q6.1, bFairG K (a0 4) q6.2.1, bFairG K (a0 5) q6.2.2.1, bNotesG K (a0 6) q6.2.2.2, bPastG K (a0 7) f7_fairs g7, bTrialsG K (a0 8) ((a0 9) 0) ((a0 10) 0) ((a0 11) 0) g8, bFairG K (a0 9) g9, bOrderG K (a0 10) g10, bOrderG K (a0 11) g11]) rfl hj5)) (stm_s (bs1 := ([bNextStallG K (a0 0) f0_rules (fun j => some (f0_images (4 * j) 0)) ((a0 1) 0) ((a0 2) 0) ((a0 3) 0) ((a0 7) 0) ((a0 8) 0) g0, bTapeG K (a0 1) g1, bCursorG K (a0 2) g2, bWorldG K (a0 3) ((a0 4) 0) ((a0 5) 0) ((a0 6) 0) q6.1, bFairG K (a0 4) q6.2.1, bFairG K (a0 5) q6.2.2.1, bNotesG K (a0 6) q6.2.2.2, bPastG K (a0 7) f7_fairs g7, bTrialsG K (a0 8) ((a0 9) 0) ((a0 10) 0) ((a0 11) 0) g8, bFairG K (a0 9) g9, bOrderG K (a0 10) g10, bOrderG K (a0 11) g11] ++ (fam 4 (fun j => bWorldG K (f0_images (4 * j)) (f0_images (4 * j + 1) 0) (f0_images (4 * j + 2) 0) (f0_images (4 * j + 3) 0) (p0_images0 j)) ++ (fam 4 (fun j => bFairG K (f0_images (4 * j + 1)) (p0_images1 j)) ++ (fam 4 (fun j => bFairG K (f0_images (4 * j + 2)) (p0_images2 j)) ++ (fam 4 (fun j => bNotesG K (f0_images (4 * j + 3)) (p0_images3 j)) ++ [])))))) (set_same _ _ _ (fq3 (n0 := 4) (n1 := 4) (n2 := 4) (B := fun j g => bNotesG K (f0_images (4 * j + 3)) g) (l := [bNextStallG K (a0 0) f0_rules (fun j => some (f0_images (4 * j) 0)) ((a0 1) 0) ((a0 2) 0) ((a0 3) 0) ((a0 7) 0) ((a0 8) 0) g0, bTapeG K (a0 1) g1, bCursorG K (a0 2) g2, bWorldG K (a0 3) ((a0 4) 0) ((a0 5) 0) ((a0 6) 0) q6.1, bFairG K (a0 4) q6.2.1, bFairG K (a0 5) q6.2.2.1, bNotesG K (a0 6) q6.2.2.2, bPastG K (a0 7) f7_fairs g7, bTrialsG K (a0 8) ((a0 9) 0) ((a0 10) 0) ((a0 11) 0) g8, bFairG K (a0 9) g9, bOrderG K (a0 10) g10, bOrderG K (a0 11) g11]) rfl hj5)) stm_n)))))))) rfl rfl rfl rfl dX11_back_30 ?_
      refine r_aload_n 0 dX11_back_33 rfl ?_
      refine gNextStall_past 0 rfl (tb_in (i := 12) (j := 30) rfl rfl) dX11_back_34 ?_
      obtain ⟨q7, h7, h⟩ := bd_some h
      refine b_callVN (isC := [7]) (ci := 4)  (st := []) (bs1 := ([bNextStallG K (a0 0) f0_rules (fun j => some (f0_images (4 * j) 0)) ((a0 1) 0) ((a0 2) 0) ((a0 3) 0) ((a0 7) 0) ((a0 8) 0) g0, bTapeG K (a0 1) g1, bCursorG K (a0 2) g2, bWorldG K (a0 3) ((a0 4) 0) ((a0 5) 0) ((a0 6) 0) q6.1, bFairG K (a0 4) q6.2.1, bFairG K (a0 5) q6.2.2.1, bNotesG K (a0 6) q6.2.2.2, bPastG K (a0 7) f7_fairs q7, bTrialsG K (a0 8) ((a0 9) 0) ((a0 10) 0) ((a0 11) 0) g8, bFairG K (a0 9) g9, bOrderG K (a0 10) g10, bOrderG K (a0 11) g11] ++ (fam 4 (fun j => bWorldG K (f0_images (4 * j)) (f0_images (4 * j + 1) 0) (f0_images (4 * j + 2) 0) (f0_images (4 * j + 3) 0) (p0_images0 j)) ++ (fam 4 (fun j => bFairG K (f0_images (4 * j + 1)) (p0_images1 j)) ++ (fam 4 (fun j => bFairG K (f0_images (4 * j + 2)) (p0_images2 j)) ++ (fam 4 (fun j => bNotesG K (f0_images (4 * j + 3)) (p0_images3 j)) ++ [])))))) (cPast_forget (a0 := (a0 7)) (g0 := g7) h7) rfl rfl (Nat.le_of_ble_eq_true rfl) kPast_forget (List.mem_of_getElem? (i := 30) rfl) (by decide) (by decide) rfl rfl rfl rfl rfl rfl rfl dX11_back_37 ?_
      refine r_aload_n 0 dX11_back_40 rfl ?_
      refine gNextStall_world 0 rfl (tb_in (i := 12) (j := 26) rfl rfl) dX11_back_41 ?_
      refine gWorld_nowN 3 rfl (List.mem_of_getElem? (i := 55) rfl) dX11_back_44 ?_
      refine gFair_minuteN 5 rfl (List.mem_of_getElem? (i := 22) rfl) dX11_back_47 ?_
      have hq := Option.some.inj h
      subst hq
      exact r_iret rfl dX11_back_50
    · replace h := it_pos c4 h
      refine r_iconst (x := (-1 : Int32)) dX11_back_18 (by decide) ?_
      have hq := Option.some.inj h
      subst hq
      exact r_iret rfl dX11_back_19
end
end PC10
