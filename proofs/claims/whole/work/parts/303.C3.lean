section PC3
variable {l : Launch} {D : va_G} {Z : (Nat → Nat) × (Nat → Nat)} {K : Nat → ClassId}
theorem dX9_findBestRing_0 : decode cX9_findBestRing 0 = .ok (.iconst (-1), 1) := by decide +kernel
theorem dX9_findBestRing_1 : decode cX9_findBestRing 1 = .ok (.istore 4, 2) := by decide +kernel
theorem dX9_findBestRing_3 : decode cX9_findBestRing 3 = .ok (.iconst 1, 1) := by decide +kernel
theorem dX9_findBestRing_4 : decode cX9_findBestRing 4 = .ok (.istore 5, 2) := by decide +kernel
theorem dX9_findBestRing_6 : decode cX9_findBestRing 6 = .ok (.aload_n 0, 1) := by decide +kernel
theorem dX9_findBestRing_7 : decode cX9_findBestRing 7 = .ok (.getfield 21, 3) := by decide +kernel
theorem dX9_findBestRing_10 : decode cX9_findBestRing 10 = .ok (.aload_n 1, 1) := by decide +kernel
theorem dX9_findBestRing_11 : decode cX9_findBestRing 11 = .ok (.getfield 59, 3) := by decide +kernel
theorem dX9_findBestRing_14 : decode cX9_findBestRing 14 = .ok (.invokevirtual 62, 3) := by decide +kernel
theorem dX9_findBestRing_17 : decode cX9_findBestRing 17 = .ok (.iconst 0, 1) := by decide +kernel
theorem dX9_findBestRing_18 : decode cX9_findBestRing 18 = .ok (.istore 6, 2) := by decide +kernel
theorem dX9_findBestRing_20 : decode cX9_findBestRing 20 = .ok (.iload 6, 2) := by decide +kernel
theorem dX9_findBestRing_22 : decode cX9_findBestRing 22 = .ok (.bipush 120, 2) := by decide +kernel
theorem dX9_findBestRing_24 : decode cX9_findBestRing 24 = .ok (.if_icmp .ge 72, 3) := by decide +kernel
theorem dX9_findBestRing_27 : decode cX9_findBestRing 27 = .ok (.iload 5, 2) := by decide +kernel
theorem dX9_findBestRing_29 : decode cX9_findBestRing 29 = .ok (.ifCond .eq 67, 3) := by decide +kernel
theorem dX9_findBestRing_32 : decode cX9_findBestRing 32 = .ok (.aload_n 0, 1) := by decide +kernel
theorem dX9_findBestRing_33 : decode cX9_findBestRing 33 = .ok (.aload_n 1, 1) := by decide +kernel
theorem dX9_findBestRing_34 : decode cX9_findBestRing 34 = .ok (.invokevirtual 66, 3) := by decide +kernel
theorem dX9_findBestRing_37 : decode cX9_findBestRing 37 = .ok (.aload_n 0, 1) := by decide +kernel
theorem dX9_findBestRing_38 : decode cX9_findBestRing 38 = .ok (.getfield 21, 3) := by decide +kernel
theorem dX9_findBestRing_41 : decode cX9_findBestRing 41 = .ok (.getfield 56, 3) := by decide +kernel
theorem dX9_findBestRing_44 : decode cX9_findBestRing 44 = .ok (.invokevirtual 70, 3) := by decide +kernel
theorem dX9_findBestRing_47 : decode cX9_findBestRing 47 = .ok (.aload_n 0, 1) := by decide +kernel
theorem dX9_findBestRing_48 : decode cX9_findBestRing 48 = .ok (.getfield 12, 3) := by decide +kernel
theorem dX9_findBestRing_51 : decode cX9_findBestRing 51 = .ok (.aload_n 2, 1) := by decide +kernel
theorem dX9_findBestRing_52 : decode cX9_findBestRing 52 = .ok (.iload_n 3, 1) := by decide +kernel
theorem dX9_findBestRing_53 : decode cX9_findBestRing 53 = .ok (.iconst (-1), 1) := by decide +kernel
theorem dX9_findBestRing_54 : decode cX9_findBestRing 54 = .ok (.invokevirtual 74, 3) := by decide +kernel
theorem dX9_findBestRing_57 : decode cX9_findBestRing 57 = .ok (.istore 7, 2) := by decide +kernel
theorem dX9_findBestRing_59 : decode cX9_findBestRing 59 = .ok (.iload 7, 2) := by decide +kernel
theorem dX9_findBestRing_61 : decode cX9_findBestRing 61 = .ok (.iload 4, 2) := by decide +kernel
theorem dX9_findBestRing_63 : decode cX9_findBestRing 63 = .ok (.if_icmp .le 18, 3) := by decide +kernel
theorem dX9_findBestRing_66 : decode cX9_findBestRing 66 = .ok (.iload 7, 2) := by decide +kernel
theorem dX9_findBestRing_68 : decode cX9_findBestRing 68 = .ok (.istore 4, 2) := by decide +kernel
theorem dX9_findBestRing_70 : decode cX9_findBestRing 70 = .ok (.aload_n 0, 1) := by decide +kernel
theorem dX9_findBestRing_71 : decode cX9_findBestRing 71 = .ok (.getfield 25, 3) := by decide +kernel
theorem dX9_findBestRing_74 : decode cX9_findBestRing 74 = .ok (.aload_n 0, 1) := by decide +kernel
theorem dX9_findBestRing_75 : decode cX9_findBestRing 75 = .ok (.getfield 21, 3) := by decide +kernel
theorem dX9_findBestRing_78 : decode cX9_findBestRing 78 = .ok (.invokevirtual 78, 3) := by decide +kernel
theorem dX9_findBestRing_81 : decode cX9_findBestRing 81 = .ok (.aload_n 0, 1) := by decide +kernel
theorem dX9_findBestRing_82 : decode cX9_findBestRing 82 = .ok (.getfield 21, 3) := by decide +kernel
theorem dX9_findBestRing_85 : decode cX9_findBestRing 85 = .ok (.invokevirtual 81, 3) := by decide +kernel
theorem dX9_findBestRing_88 : decode cX9_findBestRing 88 = .ok (.istore 5, 2) := by decide +kernel
theorem dX9_findBestRing_90 : decode cX9_findBestRing 90 = .ok (.iinc 6 1, 3) := by decide +kernel
theorem dX9_findBestRing_93 : decode cX9_findBestRing 93 = .ok (.goto (-73), 3) := by decide +kernel
theorem dX9_findBestRing_96 : decode cX9_findBestRing 96 = .ok (.iload 4, 2) := by decide +kernel
theorem dX9_findBestRing_98 : decode cX9_findBestRing 98 = .ok (.ireturn, 1) := by decide +kernel
abbrev MTrials_findBestRingrr : rx_M := (RX9, yX9_findBestRing, cX9_findBestRing, 8, (some .int), 6)
theorem kTrials_findBestRingrr : rKv MTrials_findBestRingrr 3 := ⟨tb_in (i := 15) (j := 1) rfl rfl, tb_in (i := 15) (j := 2) rfl rfl, tb_in (i := 10) (j := 11) rfl rfl, tb_in (i := 10) (j := 18) rfl rfl, ⟨by decide, by decide, by decide +kernel⟩, by decide⟩
section
variable {a0 : Nat → Nat → Nat} {a1 : Nat → Nat} {a2 : Nat → Nat} {g0 : tyTrials} {g1 : tyFair} {g2 : tyOrder} {g3 : tyOrder} {g4 : tyFair} {g5 : tyRule}
def mTrials_findBestRingrr_l20 (g4 : tyFair) (x3 : Int32) : Nat → Int32 → Int32 → Int32 → tyFair → tyOrder → tyOrder → tyRule → Option (Int32 × tyFair × tyOrder × tyOrder × tyRule)
  | 0, _, _, _, _, _, _, _ => none
  | n + 1, x4, x5, x6, g1, g2, g3, g5 => (if (120 : Int32) ≤ x6 then some (x4, g1, g2, g3, g5) else (if x5 = 0 then some (x4, g1, g2, g3, g5) else (mTrials_from g1 g4).bind (fun q4 => (mFair_stand_who q4.2.2.1 q4.2.2.2.2.2.2.2.1 q4.2.2.2.2.2.2.2.2.2.2.2.1 q4.2.2.2.2.2.2.2.2.2.2.2.2.1 q4.2.2.2.2.2.2.2.2.2.2.2.2.2.2.2.2.1 q4.2.2.2.2.2.2.2.2.2.2.2.2.2.2.2.2.2.1 q4.2.2.2.2.2.2.2.2.2.2.2.2.2.2.2.2.2.2 g2.1).bind (fun q5 => (mFair_gor x3 (-1 : Int32) q4.1 q4.2.1 q4.2.2.1 q4.2.2.2.1 q4.2.2.2.2.1 q4.2.2.2.2.2.1 q4.2.2.2.2.2.2.1 q4.2.2.2.2.2.2.2.2.1 q4.2.2.2.2.2.2.2.2.2.1 q4.2.2.2.2.2.2.2.2.2.2.1 q4.2.2.2.2.2.2.2.2.2.2.2.2.2.1 q4.2.2.2.2.2.2.2.2.2.2.2.2.2.2.1 q4.2.2.2.2.2.2.2.2.2.2.2.2.2.2.2.1 q5.2.1 q5.2.2.1 q5.2.2.2 g5.1 g5.2.1 g5.2.2.1 g5.2.2.2.1 g5.2.2.2.2.1 g5.2.2.2.2.2.1 g5.2.2.2.2.2.2.2.1 g5.2.2.2.2.2.2.2.2.1 g5.2.2.2.2.2.2.2.2.2).bind (fun q6 => (if q6.1 ≤ x4 then (mOrder_goOn g2.1 g2.2).bind (fun q8 => mTrials_findBestRingrr_l20 g4 x3 n x4 q8.1 (x6 + (1 : Int32)) (q4.1, q4.2.1, q4.2.2.1, q4.2.2.2.1, q6.2.1, q6.2.2.1, q4.2.2.2.2.2.2.1, q4.2.2.2.2.2.2.2.1, q6.2.2.2.1, q6.2.2.2.2.1, q6.2.2.2.2.2.1, q5.1, q4.2.2.2.2.2.2.2.2.2.2.2.2.1, q6.2.2.2.2.2.2.1, q4.2.2.2.2.2.2.2.2.2.2.2.2.2.2.1, q6.2.2.2.2.2.2.2.1, q5.2.1, q5.2.2.1, q5.2.2.2) (q8.2, g2.2) g3 (g5.1, g5.2.1, g5.2.2.1, g5.2.2.2.1, g5.2.2.2.2.1, g5.2.2.2.2.2.1, g5.2.2.2.2.2.2.1, g5.2.2.2.2.2.2.2.1, q6.2.2.2.2.2.2.2.2.1, q6.2.2.2.2.2.2.2.2.2)) else (mOrder_copyFrom g3.1 g3.2 g2.1 g2.2).bind (fun q9 => (mOrder_goOn g2.1 g2.2).bind (fun q10 => mTrials_findBestRingrr_l20 g4 x3 n q6.1 q10.1 (x6 + (1 : Int32)) (q4.1, q4.2.1, q4.2.2.1, q4.2.2.2.1, q6.2.1, q6.2.2.1, q4.2.2.2.2.2.2.1, q4.2.2.2.2.2.2.2.1, q6.2.2.2.1, q6.2.2.2.2.1, q6.2.2.2.2.2.1, q5.1, q4.2.2.2.2.2.2.2.2.2.2.2.2.1, q6.2.2.2.2.2.2.1, q4.2.2.2.2.2.2.2.2.2.2.2.2.2.2.1, q6.2.2.2.2.2.2.2.1, q5.2.1, q5.2.2.1, q5.2.2.2) (q10.2, g2.2) q9 (g5.1, g5.2.1, g5.2.2.1, g5.2.2.2.1, g5.2.2.2.2.1, g5.2.2.2.2.2.1, g5.2.2.2.2.2.2.1, g5.2.2.2.2.2.2.2.1, q6.2.2.2.2.2.2.2.2.1, q6.2.2.2.2.2.2.2.2.2)))))))))
set_option maxHeartbeats 4000000 in
set_option maxRecDepth 20000 in
theorem cTrials_findBestRingrr_l20 {q : Int32 × tyFair × tyOrder × tyOrder × tyRule} {x3 : Int32}  : ∀ (n : Nat) (x4 : Int32) (x5 : Int32) (x6 : Int32) (g1 : tyFair) (g2 : tyOrder) (g3 : tyOrder) (g5 : tyRule), mTrials_findBestRingrr_l20 g4 x3 n x4 x5 x6 g1 g2 g3 g5 = some q → rW l D Z (ty7 K) MTrials_findBestRingrr 20 [(0, .ref ((a0 0) 0)), (1, .ref (a1 0)), (2, .ref (a2 0)), (3, .int x3), (4, .int x4), (5, .int x5), (6, .int x6)] [] (List.flatten [bTrialsG K (a0 0) ((a0 1) 0) ((a0 2) 0) ((a0 3) 0) g0, bFairG K (a0 1) g1, bOrderG K (a0 2) g2, bOrderG K (a0 3) g3, bFairG K a1 g4, bRuleG K a2 g5]) (List.flatten [bTrialsG K (a0 0) ((a0 1) 0) ((a0 2) 0) ((a0 3) 0) g0, bFairG K (a0 1) q.2.1, bOrderG K (a0 2) q.2.2.1, bOrderG K (a0 3) q.2.2.2.1, bFairG K a1 g4, bRuleG K a2 q.2.2.2.2]) (some (.int q.1)) := by
  intro n
  induction n with
  | zero => intro x4 x5 x6 g1 g2 g3 g5 h; unfold mTrials_findBestRingrr_l20 at h; cases h
  | succ n ih =>
    intro x4 x5 x6 g1 g2 g3 g5 h
    unfold mTrials_findBestRingrr_l20 at h
    refine r_iload 6 dX9_findBestRing_20 rfl ?_
    refine r_bipush (x := (120 : Int32)) dX9_findBestRing_22 (by decide) ?_
    refine r_icmp_ge 96 dX9_findBestRing_24 (by decide) (fun c2 => ?_) (fun c2 => ?_)
    · replace h := it_pos c2 h
      refine r_iload 4 dX9_findBestRing_96 rfl ?_
      have hq := Option.some.inj h
      subst hq
      exact r_iret rfl dX9_findBestRing_98
    · replace h := it_neg c2 h
      refine r_iload 5 dX9_findBestRing_27 rfl ?_
      refine r_if_eq 96 dX9_findBestRing_29 (by decide) (fun c3 => ?_) (fun c3 => ?_)
      · replace h := it_pos c3 h
        refine r_iload 4 dX9_findBestRing_96 rfl ?_
        have hq := Option.some.inj h
        subst hq
        exact r_iret rfl dX9_findBestRing_98
      · replace h := it_neg c3 h
        refine r_aload_n 0 dX9_findBestRing_32 rfl ?_
        refine r_aload_n 1 dX9_findBestRing_33 rfl ?_
        obtain ⟨q4, h4, h⟩ := bd_some h
        refine b_callV (isC := [0, 1, 2, 3, 4]) (ci := 7)  (st := []) (bs1 := [bTrialsG K (a0 0) ((a0 1) 0) ((a0 2) 0) ((a0 3) 0) g0, bFairG K (a0 1) q4, bOrderG K (a0 2) g2, bOrderG K (a0 3) g3, bFairG K a1 g4, bRuleG K a2 g5]) (cTrials_from (a0 := a0) (a1 := a1) (g0 := g0) (g1 := g1) (g2 := g2) (g3 := g3) (g4 := g4) h4) rfl rfl (Nat.le_of_ble_eq_true rfl) kTrials_from (tb_in (i := 10) (j := 8) rfl rfl) (by decide) (by decide) rfl rfl rfl rfl rfl rfl rfl dX9_findBestRing_34 ?_
        refine r_aload_n 0 dX9_findBestRing_37 rfl ?_
        refine gTrials_order 0 rfl (tb_in (i := 9) (j := 26) rfl rfl) dX9_findBestRing_38 ?_
        refine gOrder_whoN 2 rfl (List.mem_of_getElem? (i := 60) rfl) dX9_findBestRing_41 ?_
        obtain ⟨q5, h5, h⟩ := bd_some h
        refine b_callVN (isC := [1, 2]) (ci := 1)  (st := []) (bs1 := [bTrialsG K (a0 0) ((a0 1) 0) ((a0 2) 0) ((a0 3) 0) g0, bFair K (a0 1) q4.1 q4.2.1 q4.2.2.1 q4.2.2.2.1 q4.2.2.2.2.1 q4.2.2.2.2.2.1 q4.2.2.2.2.2.2.1 q4.2.2.2.2.2.2.2.1 q4.2.2.2.2.2.2.2.2.1 q4.2.2.2.2.2.2.2.2.2.1 q4.2.2.2.2.2.2.2.2.2.2.1 q5.1 q4.2.2.2.2.2.2.2.2.2.2.2.2.1 q4.2.2.2.2.2.2.2.2.2.2.2.2.2.1 q4.2.2.2.2.2.2.2.2.2.2.2.2.2.2.1 q4.2.2.2.2.2.2.2.2.2.2.2.2.2.2.2.1 q5.2.1 q5.2.2.1 q5.2.2.2, bOrderG K (a0 2) g2, bOrderG K (a0 3) g3, bFairG K a1 g4, bRuleG K a2 g5]) (cFair_stand_who (a0 := (a0 1)) (a1 := (a0 2)) (z0_lasts := q4.1) (z0_keeps := q4.2.1) (z0_stalls := q4.2.2.1) (z0_buyers := q4.2.2.2.1) (z0_minute := q4.2.2.2.2.1) (z0_goods := q4.2.2.2.2.2.1) (z0_price := q4.2.2.2.2.2.2.1) (z0_tongue := q4.2.2.2.2.2.2.2.1) (z0_till := q4.2.2.2.2.2.2.2.2.1) (z0_wealth := q4.2.2.2.2.2.2.2.2.2.1) (z0_sold := q4.2.2.2.2.2.2.2.2.2.2.1) (z0_ring := q4.2.2.2.2.2.2.2.2.2.2.2.1) (z0_grudges := q4.2.2.2.2.2.2.2.2.2.2.2.2.1) (z0_purse := q4.2.2.2.2.2.2.2.2.2.2.2.2.2.1) (z0_came := q4.2.2.2.2.2.2.2.2.2.2.2.2.2.2.1) (z0_had := q4.2.2.2.2.2.2.2.2.2.2.2.2.2.2.2.1) (z0_seller := q4.2.2.2.2.2.2.2.2.2.2.2.2.2.2.2.2.1) (z0_praise := q4.2.2.2.2.2.2.2.2.2.2.2.2.2.2.2.2.2.1) (z0_borne := q4.2.2.2.2.2.2.2.2.2.2.2.2.2.2.2.2.2.2) (z1_who := g2.1) (z1_size := g2.2) h5) rfl rfl (Nat.le_of_ble_eq_true rfl) kFair_stand_who (List.mem_of_getElem? (i := 56) rfl) (by decide) (by decide) rfl rfl rfl rfl rfl rfl rfl dX9_findBestRing_44 ?_
        refine r_aload_n 0 dX9_findBestRing_47 rfl ?_
        refine gTrials_fair 0 rfl (tb_in (i := 9) (j := 23) rfl rfl) dX9_findBestRing_48 ?_
        refine r_aload_n 2 dX9_findBestRing_51 rfl ?_
        refine r_iload_n 3 dX9_findBestRing_52 rfl ?_
        refine r_iconst (x := (-1 : Int32)) dX9_findBestRing_53 (by decide) ?_
        obtain ⟨q6, h6, h⟩ := bd_some h
        refine b_callVN (isC := [1, 5]) (ci := 1)  (st := []) (bs1 := [bTrialsG K (a0 0) ((a0 1) 0) ((a0 2) 0) ((a0 3) 0) g0, bFair K (a0 1) q4.1 q4.2.1 q4.2.2.1 q4.2.2.2.1 q6.2.1 q6.2.2.1 q4.2.2.2.2.2.2.1 q4.2.2.2.2.2.2.2.1 q6.2.2.2.1 q6.2.2.2.2.1 q6.2.2.2.2.2.1 q5.1 q4.2.2.2.2.2.2.2.2.2.2.2.2.1 q6.2.2.2.2.2.2.1 q4.2.2.2.2.2.2.2.2.2.2.2.2.2.2.1 q6.2.2.2.2.2.2.2.1 q5.2.1 q5.2.2.1 q5.2.2.2, bOrderG K (a0 2) g2, bOrderG K (a0 3) g3, bFairG K a1 g4, bRule K a2 g5.1 g5.2.1 g5.2.2.1 g5.2.2.2.1 g5.2.2.2.2.1 g5.2.2.2.2.2.1 g5.2.2.2.2.2.2.1 g5.2.2.2.2.2.2.2.1 q6.2.2.2.2.2.2.2.2.1 q6.2.2.2.2.2.2.2.2.2]) (cFair_gor (a0 := (a0 1)) (a1 := a2) (z0_lasts := q4.1) (z0_keeps := q4.2.1) (z0_stalls := q4.2.2.1) (z0_buyers := q4.2.2.2.1) (z0_minute := q4.2.2.2.2.1) (z0_goods := q4.2.2.2.2.2.1) (z0_price := q4.2.2.2.2.2.2.1) (z0_tongue := q4.2.2.2.2.2.2.2.1) (z0_till := q4.2.2.2.2.2.2.2.2.1) (z0_wealth := q4.2.2.2.2.2.2.2.2.2.1) (z0_sold := q4.2.2.2.2.2.2.2.2.2.2.1) (z0_ring := q5.1) (z0_grudges := q4.2.2.2.2.2.2.2.2.2.2.2.2.1) (z0_purse := q4.2.2.2.2.2.2.2.2.2.2.2.2.2.1) (z0_came := q4.2.2.2.2.2.2.2.2.2.2.2.2.2.2.1) (z0_had := q4.2.2.2.2.2.2.2.2.2.2.2.2.2.2.2.1) (z0_seller := q5.2.1) (z0_praise := q5.2.2.1) (z0_borne := q5.2.2.2) (z1_steps := g5.1) (z1_size := g5.2.1) (z1_sumFrom := g5.2.2.1) (z1_testFrom := g5.2.2.2.1) (z1_testTo := g5.2.2.2.2.1) (z1_clauses := g5.2.2.2.2.2.1) (z1_parts := g5.2.2.2.2.2.2.1) (z1_readsTime := g5.2.2.2.2.2.2.2.1) (z1_words := g5.2.2.2.2.2.2.2.2.1) (z1_stack := g5.2.2.2.2.2.2.2.2.2) h6) rfl rfl (Nat.le_of_ble_eq_true rfl) kFair_gor (List.mem_of_getElem? (i := 57) rfl) (by decide) (by decide) rfl rfl rfl rfl rfl rfl rfl dX9_findBestRing_54 ?_
        refine r_istore (lv' := [(7, .int q6.1), (0, .ref ((a0 0) 0)), (1, .ref (a1 0)), (2, .ref (a2 0)), (3, .int x3), (4, .int x4), (5, .int x5), (6, .int x6)]) dX9_findBestRing_57 (Nat.le_of_ble_eq_true rfl) rfl ?_
        refine r_iload 0 dX9_findBestRing_59 rfl ?_
        refine r_iload 5 dX9_findBestRing_61 rfl ?_
        refine r_icmp_le 81 dX9_findBestRing_63 (by decide) (fun c7 => ?_) (fun c7 => ?_)
        · replace h := it_pos c7 h
          refine r_aload_n 1 dX9_findBestRing_81 rfl ?_
          refine gTrials_order 0 rfl (tb_in (i := 9) (j := 26) rfl rfl) dX9_findBestRing_82 ?_
          obtain ⟨q8, h8, h⟩ := bd_some h
          refine b_callVN (isC := [2]) (ci := 3)  (st := []) (bs1 := [bTrialsG K (a0 0) ((a0 1) 0) ((a0 2) 0) ((a0 3) 0) g0, bFair K (a0 1) q4.1 q4.2.1 q4.2.2.1 q4.2.2.2.1 q6.2.1 q6.2.2.1 q4.2.2.2.2.2.2.1 q4.2.2.2.2.2.2.2.1 q6.2.2.2.1 q6.2.2.2.2.1 q6.2.2.2.2.2.1 q5.1 q4.2.2.2.2.2.2.2.2.2.2.2.2.1 q6.2.2.2.2.2.2.1 q4.2.2.2.2.2.2.2.2.2.2.2.2.2.2.1 q6.2.2.2.2.2.2.2.1 q5.2.1 q5.2.2.1 q5.2.2.2, bOrder K (a0 2) q8.2 g2.2, bOrderG K (a0 3) g3, bFairG K a1 g4, bRule K a2 g5.1 g5.2.1 g5.2.2.1 g5.2.2.2.1 g5.2.2.2.2.1 g5.2.2.2.2.2.1 g5.2.2.2.2.2.2.1 g5.2.2.2.2.2.2.2.1 q6.2.2.2.2.2.2.2.2.1 q6.2.2.2.2.2.2.2.2.2]) (cOrder_goOn (a0 := (a0 2)) (z0_who := g2.1) (z0_size := g2.2) h8) rfl rfl (Nat.le_of_ble_eq_true rfl) kOrder_goOn (List.mem_of_getElem? (i := 59) rfl) (by decide) (by decide) rfl rfl rfl rfl rfl rfl rfl dX9_findBestRing_85 ?_
          refine r_istore (lv' := [(5, .int q8.1), (7, .int q6.1), (0, .ref ((a0 0) 0)), (1, .ref (a1 0)), (2, .ref (a2 0)), (3, .int x3), (4, .int x4), (6, .int x6)]) dX9_findBestRing_88 (Nat.le_of_ble_eq_true rfl) rfl ?_
          refine r_iinc (y := (x6 + (1 : Int32))) (lv' := [(6, .int (x6 + (1 : Int32))), (5, .int q8.1), (7, .int q6.1), (0, .ref ((a0 0) 0)), (1, .ref (a1 0)), (2, .ref (a2 0)), (3, .int x3), (4, .int x4)]) 7 dX9_findBestRing_90 rfl rfl (Nat.le_of_ble_eq_true rfl) rfl ?_
          refine r_goto 20 dX9_findBestRing_93 (by decide) ?_
          refine r_sub (lv' := [(0, .ref ((a0 0) 0)), (1, .ref (a1 0)), (2, .ref (a2 0)), (3, .int x3), (4, .int x4), (5, .int q8.1), (6, .int (x6 + (1 : Int32)))]) [3, 4, 5, 6, 7, 1, 0] rfl ?_
          exact ih x4 q8.1 (x6 + (1 : Int32)) (q4.1, q4.2.1, q4.2.2.1, q4.2.2.2.1, q6.2.1, q6.2.2.1, q4.2.2.2.2.2.2.1, q4.2.2.2.2.2.2.2.1, q6.2.2.2.1, q6.2.2.2.2.1, q6.2.2.2.2.2.1, q5.1, q4.2.2.2.2.2.2.2.2.2.2.2.2.1, q6.2.2.2.2.2.2.1, q4.2.2.2.2.2.2.2.2.2.2.2.2.2.2.1, q6.2.2.2.2.2.2.2.1, q5.2.1, q5.2.2.1, q5.2.2.2) (q8.2, g2.2) g3 (g5.1, g5.2.1, g5.2.2.1, g5.2.2.2.1, g5.2.2.2.2.1, g5.2.2.2.2.2.1, g5.2.2.2.2.2.2.1, g5.2.2.2.2.2.2.2.1, q6.2.2.2.2.2.2.2.2.1, q6.2.2.2.2.2.2.2.2.2) h
        · replace h := it_neg c7 h
          refine r_iload 0 dX9_findBestRing_66 rfl ?_
          refine r_istore (lv' := [(4, .int q6.1), (7, .int q6.1), (0, .ref ((a0 0) 0)), (1, .ref (a1 0)), (2, .ref (a2 0)), (3, .int x3), (5, .int x5), (6, .int x6)]) dX9_findBestRing_68 (Nat.le_of_ble_eq_true rfl) rfl ?_
          refine r_aload_n 2 dX9_findBestRing_70 rfl ?_
          refine gTrials_best 0 rfl (tb_in (i := 9) (j := 27) rfl rfl) dX9_findBestRing_71 ?_
          refine r_aload_n 2 dX9_findBestRing_74 rfl ?_
          refine gTrials_order 0 rfl (tb_in (i := 9) (j := 26) rfl rfl) dX9_findBestRing_75 ?_
          obtain ⟨q9, h9, h⟩ := bd_some h
          refine b_callVN (isC := [3, 2]) (ci := 3)  (st := []) (bs1 := [bTrialsG K (a0 0) ((a0 1) 0) ((a0 2) 0) ((a0 3) 0) g0, bFair K (a0 1) q4.1 q4.2.1 q4.2.2.1 q4.2.2.2.1 q6.2.1 q6.2.2.1 q4.2.2.2.2.2.2.1 q4.2.2.2.2.2.2.2.1 q6.2.2.2.1 q6.2.2.2.2.1 q6.2.2.2.2.2.1 q5.1 q4.2.2.2.2.2.2.2.2.2.2.2.2.1 q6.2.2.2.2.2.2.1 q4.2.2.2.2.2.2.2.2.2.2.2.2.2.2.1 q6.2.2.2.2.2.2.2.1 q5.2.1 q5.2.2.1 q5.2.2.2, bOrderG K (a0 2) g2, bOrderG K (a0 3) q9, bFairG K a1 g4, bRule K a2 g5.1 g5.2.1 g5.2.2.1 g5.2.2.2.1 g5.2.2.2.2.1 g5.2.2.2.2.2.1 g5.2.2.2.2.2.2.1 g5.2.2.2.2.2.2.2.1 q6.2.2.2.2.2.2.2.2.1 q6.2.2.2.2.2.2.2.2.2]) (cOrder_copyFrom (a0 := (a0 3)) (a1 := (a0 2)) (z0_who := g3.1) (z0_size := g3.2) (z1_who := g2.1) (z1_size := g2.2) h9) rfl rfl (Nat.le_of_ble_eq_true rfl) kOrder_copyFrom (List.mem_of_getElem? (i := 58) rfl) (by decide) (by decide) rfl rfl rfl rfl rfl rfl rfl dX9_findBestRing_78 ?_
          refine r_aload_n 2 dX9_findBestRing_81 rfl ?_
          refine gTrials_order 0 rfl (tb_in (i := 9) (j := 26) rfl rfl) dX9_findBestRing_82 ?_
          obtain ⟨q10, h10, h⟩ := bd_some h
          refine b_callVN (isC := [2]) (ci := 3)  (st := []) (bs1 := [bTrialsG K (a0 0) ((a0 1) 0) ((a0 2) 0) ((a0 3) 0) g0, bFair K (a0 1) q4.1 q4.2.1 q4.2.2.1 q4.2.2.2.1 q6.2.1 q6.2.2.1 q4.2.2.2.2.2.2.1 q4.2.2.2.2.2.2.2.1 q6.2.2.2.1 q6.2.2.2.2.1 q6.2.2.2.2.2.1 q5.1 q4.2.2.2.2.2.2.2.2.2.2.2.2.1 q6.2.2.2.2.2.2.1 q4.2.2.2.2.2.2.2.2.2.2.2.2.2.2.1 q6.2.2.2.2.2.2.2.1 q5.2.1 q5.2.2.1 q5.2.2.2, bOrder K (a0 2) q10.2 g2.2, bOrderG K (a0 3) q9, bFairG K a1 g4, bRule K a2 g5.1 g5.2.1 g5.2.2.1 g5.2.2.2.1 g5.2.2.2.2.1 g5.2.2.2.2.2.1 g5.2.2.2.2.2.2.1 g5.2.2.2.2.2.2.2.1 q6.2.2.2.2.2.2.2.2.1 q6.2.2.2.2.2.2.2.2.2]) (cOrder_goOn (a0 := (a0 2)) (z0_who := g2.1) (z0_size := g2.2) h10) rfl rfl (Nat.le_of_ble_eq_true rfl) kOrder_goOn (List.mem_of_getElem? (i := 59) rfl) (by decide) (by decide) rfl rfl rfl rfl rfl rfl rfl dX9_findBestRing_85 ?_
          refine r_istore (lv' := [(5, .int q10.1), (4, .int q6.1), (7, .int q6.1), (0, .ref ((a0 0) 0)), (1, .ref (a1 0)), (2, .ref (a2 0)), (3, .int x3), (6, .int x6)]) dX9_findBestRing_88 (Nat.le_of_ble_eq_true rfl) rfl ?_
          refine r_iinc (y := (x6 + (1 : Int32))) (lv' := [(6, .int (x6 + (1 : Int32))), (5, .int q10.1), (4, .int q6.1), (7, .int q6.1), (0, .ref ((a0 0) 0)), (1, .ref (a1 0)), (2, .ref (a2 0)), (3, .int x3)]) 7 dX9_findBestRing_90 rfl rfl (Nat.le_of_ble_eq_true rfl) rfl ?_
          refine r_goto 20 dX9_findBestRing_93 (by decide) ?_
          refine r_sub (lv' := [(0, .ref ((a0 0) 0)), (1, .ref (a1 0)), (2, .ref (a2 0)), (3, .int x3), (4, .int q6.1), (5, .int q10.1), (6, .int (x6 + (1 : Int32)))]) [4, 5, 6, 7, 2, 1, 0] rfl ?_
          exact ih q6.1 q10.1 (x6 + (1 : Int32)) (q4.1, q4.2.1, q4.2.2.1, q4.2.2.2.1, q6.2.1, q6.2.2.1, q4.2.2.2.2.2.2.1, q4.2.2.2.2.2.2.2.1, q6.2.2.2.1, q6.2.2.2.2.1, q6.2.2.2.2.2.1, q5.1, q4.2.2.2.2.2.2.2.2.2.2.2.2.1, q6.2.2.2.2.2.2.1, q4.2.2.2.2.2.2.2.2.2.2.2.2.2.2.1, q6.2.2.2.2.2.2.2.1, q5.2.1, q5.2.2.1, q5.2.2.2) (q10.2, g2.2) q9 (g5.1, g5.2.1, g5.2.2.1, g5.2.2.2.1, g5.2.2.2.2.1, g5.2.2.2.2.2.1, g5.2.2.2.2.2.2.1, g5.2.2.2.2.2.2.2.1, q6.2.2.2.2.2.2.2.2.1, q6.2.2.2.2.2.2.2.2.2) h
def mTrials_findBestRingrr (x3 : Int32) (g1 : tyFair) (g2 : tyOrder) (g3 : tyOrder) (g4 : tyFair) (g5 : tyRule) : Option (Int32 × tyFair × tyOrder × tyOrder × tyRule) := (mOrder_begin g4.2.2.1 g2.1 g2.2).bind (fun q1 => mTrials_findBestRingrr_l20 g4 x3 FU (-1 : Int32) (1 : Int32) (0 : Int32) g1 q1 g3 g5)
set_option maxHeartbeats 4000000 in
set_option maxRecDepth 20000 in
theorem cTrials_findBestRingrr {q : Int32 × tyFair × tyOrder × tyOrder × tyRule} {x3 : Int32} (h : mTrials_findBestRingrr x3 g1 g2 g3 g4 g5 = some q) : rMet l D Z (ty7 K) MTrials_findBestRingrr [.ref ((a0 0) 0), .ref (a1 0), .ref (a2 0), .int x3] (List.flatten [bTrialsG K (a0 0) ((a0 1) 0) ((a0 2) 0) ((a0 3) 0) g0, bFairG K (a0 1) g1, bOrderG K (a0 2) g2, bOrderG K (a0 3) g3, bFairG K a1 g4, bRuleG K a2 g5]) (List.flatten [bTrialsG K (a0 0) ((a0 1) 0) ((a0 2) 0) ((a0 3) 0) g0, bFairG K (a0 1) q.2.1, bOrderG K (a0 2) q.2.2.1, bOrderG K (a0 3) q.2.2.2.1, bFairG K a1 g4, bRuleG K a2 q.2.2.2.2]) (some (.int q.1)) := by
  refine rMet.of (by decide) rfl (Nat.le_of_ble_eq_true rfl) ?_
  refine r_sub (lv' := [(0, .ref ((a0 0) 0)), (1, .ref (a1 0)), (2, .ref (a2 0)), (3, .int x3)]) [0, 1, 2, 3] rfl ?_
  unfold mTrials_findBestRingrr at h
  refine r_iconst (x := (-1 : Int32)) dX9_findBestRing_0 (by decide) ?_
  refine r_istore (lv' := [(4, .int (-1 : Int32)), (0, .ref ((a0 0) 0)), (1, .ref (a1 0)), (2, .ref (a2 0)), (3, .int x3)]) dX9_findBestRing_1 (Nat.le_of_ble_eq_true rfl) rfl ?_
  refine r_iconst (x := (1 : Int32)) dX9_findBestRing_3 (by decide) ?_
  refine r_istore (lv' := [(5, .int (1 : Int32)), (4, .int (-1 : Int32)), (0, .ref ((a0 0) 0)), (1, .ref (a1 0)), (2, .ref (a2 0)), (3, .int x3)]) dX9_findBestRing_4 (Nat.le_of_ble_eq_true rfl) rfl ?_
  refine r_aload_n 2 dX9_findBestRing_6 rfl ?_
  refine gTrials_order 0 rfl (tb_in (i := 9) (j := 26) rfl rfl) dX9_findBestRing_7 ?_
  refine r_aload_n 3 dX9_findBestRing_10 rfl ?_
  refine gFair_stallsN 4 rfl (List.mem_of_getElem? (i := 16) rfl) dX9_findBestRing_11 ?_
  obtain ⟨q1, h1, h⟩ := bd_some h
  refine b_callVN (isC := [2]) (ci := 3)  (st := []) (bs1 := [bTrialsG K (a0 0) ((a0 1) 0) ((a0 2) 0) ((a0 3) 0) g0, bFairG K (a0 1) g1, bOrderG K (a0 2) q1, bOrderG K (a0 3) g3, bFairG K a1 g4, bRuleG K a2 g5]) (cOrder_begin (a0 := (a0 2)) (z0_who := g2.1) (z0_size := g2.2) h1) rfl rfl (Nat.le_of_ble_eq_true rfl) kOrder_begin (List.mem_of_getElem? (i := 55) rfl) (by decide) (by decide) rfl rfl rfl rfl rfl rfl rfl dX9_findBestRing_14 ?_
  refine r_iconst (x := (0 : Int32)) dX9_findBestRing_17 (by decide) ?_
  refine r_istore (lv' := [(6, .int (0 : Int32)), (5, .int (1 : Int32)), (4, .int (-1 : Int32)), (0, .ref ((a0 0) 0)), (1, .ref (a1 0)), (2, .ref (a2 0)), (3, .int x3)]) dX9_findBestRing_18 (Nat.le_of_ble_eq_true rfl) rfl ?_
  refine r_sub (lv' := [(0, .ref ((a0 0) 0)), (1, .ref (a1 0)), (2, .ref (a2 0)), (3, .int x3), (4, .int (-1 : Int32)), (5, .int (1 : Int32)), (6, .int (0 : Int32))]) [3, 4, 5, 6, 2, 1, 0] rfl ?_
  exact cTrials_findBestRingrr_l20 (g4 := g4)  FU (-1 : Int32) (1 : Int32) (0 : Int32) g1 q1 g3 g5 h
end
abbrev MTrials_findBestRingrn : rx_M := (RX9, yX9_findBestRing, cX9_findBestRing, 8, (some .int), 6)
theorem kTrials_findBestRingrn : rKv MTrials_findBestRingrn 3 := ⟨tb_in (i := 15) (j := 1) rfl rfl, tb_in (i := 15) (j := 2) rfl rfl, tb_in (i := 10) (j := 11) rfl rfl, tb_in (i := 10) (j := 18) rfl rfl, ⟨by decide, by decide, by decide +kernel⟩, by decide⟩
section
variable {a0 : Nat → Nat → Nat} {a1 : Nat → Nat} {g0 : tyTrials} {g1 : tyFair} {g2 : tyOrder} {g3 : tyOrder} {g4 : tyFair}
def mTrials_findBestRingrn_l20 (g4 : tyFair) (x3 : Int32) : Nat → Int32 → Int32 → Int32 → tyFair → tyOrder → tyOrder → Option (Int32 × tyFair × tyOrder × tyOrder)
  | 0, _, _, _, _, _, _ => none
  | n + 1, x4, x5, x6, g1, g2, g3 => (if (120 : Int32) ≤ x6 then some (x4, g1, g2, g3) else (if x5 = 0 then some (x4, g1, g2, g3) else (mTrials_from g1 g4).bind (fun q4 => (mFair_stand_who q4.2.2.1 q4.2.2.2.2.2.2.2.1 q4.2.2.2.2.2.2.2.2.2.2.2.1 q4.2.2.2.2.2.2.2.2.2.2.2.2.1 q4.2.2.2.2.2.2.2.2.2.2.2.2.2.2.2.2.1 q4.2.2.2.2.2.2.2.2.2.2.2.2.2.2.2.2.2.1 q4.2.2.2.2.2.2.2.2.2.2.2.2.2.2.2.2.2.2 g2.1).bind (fun q5 => (mFair_gon x3 (-1 : Int32) q4.1 q4.2.1 q4.2.2.1 q4.2.2.2.1 q4.2.2.2.2.1 q4.2.2.2.2.2.1 q4.2.2.2.2.2.2.1 q4.2.2.2.2.2.2.2.2.1 q4.2.2.2.2.2.2.2.2.2.1 q4.2.2.2.2.2.2.2.2.2.2.1 q4.2.2.2.2.2.2.2.2.2.2.2.2.2.1 q4.2.2.2.2.2.2.2.2.2.2.2.2.2.2.1 q4.2.2.2.2.2.2.2.2.2.2.2.2.2.2.2.1 q5.2.1 q5.2.2.1).bind (fun q6 => (if q6.1 ≤ x4 then (mOrder_goOn g2.1 g2.2).bind (fun q8 => mTrials_findBestRingrn_l20 g4 x3 n x4 q8.1 (x6 + (1 : Int32)) (q4.1, q4.2.1, q4.2.2.1, q4.2.2.2.1, q6.2.1, q6.2.2.1, q4.2.2.2.2.2.2.1, q4.2.2.2.2.2.2.2.1, q6.2.2.2.1, q6.2.2.2.2.1, q6.2.2.2.2.2.1, q5.1, q4.2.2.2.2.2.2.2.2.2.2.2.2.1, q6.2.2.2.2.2.2.1, q4.2.2.2.2.2.2.2.2.2.2.2.2.2.2.1, q6.2.2.2.2.2.2.2, q5.2.1, q5.2.2.1, q5.2.2.2) (q8.2, g2.2) g3) else (mOrder_copyFrom g3.1 g3.2 g2.1 g2.2).bind (fun q9 => (mOrder_goOn g2.1 g2.2).bind (fun q10 => mTrials_findBestRingrn_l20 g4 x3 n q6.1 q10.1 (x6 + (1 : Int32)) (q4.1, q4.2.1, q4.2.2.1, q4.2.2.2.1, q6.2.1, q6.2.2.1, q4.2.2.2.2.2.2.1, q4.2.2.2.2.2.2.2.1, q6.2.2.2.1, q6.2.2.2.2.1, q6.2.2.2.2.2.1, q5.1, q4.2.2.2.2.2.2.2.2.2.2.2.2.1, q6.2.2.2.2.2.2.1, q4.2.2.2.2.2.2.2.2.2.2.2.2.2.2.1, q6.2.2.2.2.2.2.2, q5.2.1, q5.2.2.1, q5.2.2.2) (q10.2, g2.2) q9))))))))
set_option maxHeartbeats 4000000 in
set_option maxRecDepth 20000 in
theorem cTrials_findBestRingrn_l20 {q : Int32 × tyFair × tyOrder × tyOrder} {x3 : Int32}  : ∀ (n : Nat) (x4 : Int32) (x5 : Int32) (x6 : Int32) (g1 : tyFair) (g2 : tyOrder) (g3 : tyOrder), mTrials_findBestRingrn_l20 g4 x3 n x4 x5 x6 g1 g2 g3 = some q → rW l D Z (ty7 K) MTrials_findBestRingrn 20 [(0, .ref ((a0 0) 0)), (1, .ref (a1 0)), (2, .null), (3, .int x3), (4, .int x4), (5, .int x5), (6, .int x6)] [] (List.flatten [bTrialsG K (a0 0) ((a0 1) 0) ((a0 2) 0) ((a0 3) 0) g0, bFairG K (a0 1) g1, bOrderG K (a0 2) g2, bOrderG K (a0 3) g3, bFairG K a1 g4]) (List.flatten [bTrialsG K (a0 0) ((a0 1) 0) ((a0 2) 0) ((a0 3) 0) g0, bFairG K (a0 1) q.2.1, bOrderG K (a0 2) q.2.2.1, bOrderG K (a0 3) q.2.2.2, bFairG K a1 g4]) (some (.int q.1)) := by
  intro n
  induction n with
  | zero => intro x4 x5 x6 g1 g2 g3 h; unfold mTrials_findBestRingrn_l20 at h; cases h
  | succ n ih =>
    intro x4 x5 x6 g1 g2 g3 h
    unfold mTrials_findBestRingrn_l20 at h
    refine r_iload 6 dX9_findBestRing_20 rfl ?_
    refine r_bipush (x := (120 : Int32)) dX9_findBestRing_22 (by decide) ?_
    refine r_icmp_ge 96 dX9_findBestRing_24 (by decide) (fun c2 => ?_) (fun c2 => ?_)
    · replace h := it_pos c2 h
      refine r_iload 4 dX9_findBestRing_96 rfl ?_
      have hq := Option.some.inj h
      subst hq
      exact r_iret rfl dX9_findBestRing_98
    · replace h := it_neg c2 h
      refine r_iload 5 dX9_findBestRing_27 rfl ?_
      refine r_if_eq 96 dX9_findBestRing_29 (by decide) (fun c3 => ?_) (fun c3 => ?_)
      · replace h := it_pos c3 h
        refine r_iload 4 dX9_findBestRing_96 rfl ?_
        have hq := Option.some.inj h
        subst hq
        exact r_iret rfl dX9_findBestRing_98
      · replace h := it_neg c3 h
        refine r_aload_n 0 dX9_findBestRing_32 rfl ?_
        refine r_aload_n 1 dX9_findBestRing_33 rfl ?_
        obtain ⟨q4, h4, h⟩ := bd_some h
        refine b_callV (isC := [0, 1, 2, 3, 4]) (ci := 7)  (st := []) (bs1 := [bTrialsG K (a0 0) ((a0 1) 0) ((a0 2) 0) ((a0 3) 0) g0, bFairG K (a0 1) q4, bOrderG K (a0 2) g2, bOrderG K (a0 3) g3, bFairG K a1 g4]) (cTrials_from (a0 := a0) (a1 := a1) (g0 := g0) (g1 := g1) (g2 := g2) (g3 := g3) (g4 := g4) h4) rfl rfl (Nat.le_of_ble_eq_true rfl) kTrials_from (tb_in (i := 10) (j := 8) rfl rfl) (by decide) (by decide) rfl rfl rfl rfl rfl rfl rfl dX9_findBestRing_34 ?_
        refine r_aload_n 0 dX9_findBestRing_37 rfl ?_
        refine gTrials_order 0 rfl (tb_in (i := 9) (j := 26) rfl rfl) dX9_findBestRing_38 ?_
        refine gOrder_whoN 2 rfl (List.mem_of_getElem? (i := 60) rfl) dX9_findBestRing_41 ?_
        obtain ⟨q5, h5, h⟩ := bd_some h
        refine b_callVN (isC := [1, 2]) (ci := 1)  (st := []) (bs1 := [bTrialsG K (a0 0) ((a0 1) 0) ((a0 2) 0) ((a0 3) 0) g0, bFair K (a0 1) q4.1 q4.2.1 q4.2.2.1 q4.2.2.2.1 q4.2.2.2.2.1 q4.2.2.2.2.2.1 q4.2.2.2.2.2.2.1 q4.2.2.2.2.2.2.2.1 q4.2.2.2.2.2.2.2.2.1 q4.2.2.2.2.2.2.2.2.2.1 q4.2.2.2.2.2.2.2.2.2.2.1 q5.1 q4.2.2.2.2.2.2.2.2.2.2.2.2.1 q4.2.2.2.2.2.2.2.2.2.2.2.2.2.1 q4.2.2.2.2.2.2.2.2.2.2.2.2.2.2.1 q4.2.2.2.2.2.2.2.2.2.2.2.2.2.2.2.1 q5.2.1 q5.2.2.1 q5.2.2.2, bOrderG K (a0 2) g2, bOrderG K (a0 3) g3, bFairG K a1 g4]) (cFair_stand_who (a0 := (a0 1)) (a1 := (a0 2)) (z0_lasts := q4.1) (z0_keeps := q4.2.1) (z0_stalls := q4.2.2.1) (z0_buyers := q4.2.2.2.1) (z0_minute := q4.2.2.2.2.1) (z0_goods := q4.2.2.2.2.2.1) (z0_price := q4.2.2.2.2.2.2.1) (z0_tongue := q4.2.2.2.2.2.2.2.1) (z0_till := q4.2.2.2.2.2.2.2.2.1) (z0_wealth := q4.2.2.2.2.2.2.2.2.2.1) (z0_sold := q4.2.2.2.2.2.2.2.2.2.2.1) (z0_ring := q4.2.2.2.2.2.2.2.2.2.2.2.1) (z0_grudges := q4.2.2.2.2.2.2.2.2.2.2.2.2.1) (z0_purse := q4.2.2.2.2.2.2.2.2.2.2.2.2.2.1) (z0_came := q4.2.2.2.2.2.2.2.2.2.2.2.2.2.2.1) (z0_had := q4.2.2.2.2.2.2.2.2.2.2.2.2.2.2.2.1) (z0_seller := q4.2.2.2.2.2.2.2.2.2.2.2.2.2.2.2.2.1) (z0_praise := q4.2.2.2.2.2.2.2.2.2.2.2.2.2.2.2.2.2.1) (z0_borne := q4.2.2.2.2.2.2.2.2.2.2.2.2.2.2.2.2.2.2) (z1_who := g2.1) (z1_size := g2.2) h5) rfl rfl (Nat.le_of_ble_eq_true rfl) kFair_stand_who (List.mem_of_getElem? (i := 56) rfl) (by decide) (by decide) rfl rfl rfl rfl rfl rfl rfl dX9_findBestRing_44 ?_
        refine r_aload_n 0 dX9_findBestRing_47 rfl ?_
        refine gTrials_fair 0 rfl (tb_in (i := 9) (j := 23) rfl rfl) dX9_findBestRing_48 ?_
        refine r_aload_nN 2 dX9_findBestRing_51 rfl ?_
        refine r_iload_n 3 dX9_findBestRing_52 rfl ?_
        refine r_iconst (x := (-1 : Int32)) dX9_findBestRing_53 (by decide) ?_
        obtain ⟨q6, h6, h⟩ := bd_some h
        refine b_callVN (isC := [1]) (ci := 1)  (st := []) (bs1 := [bTrialsG K (a0 0) ((a0 1) 0) ((a0 2) 0) ((a0 3) 0) g0, bFair K (a0 1) q4.1 q4.2.1 q4.2.2.1 q4.2.2.2.1 q6.2.1 q6.2.2.1 q4.2.2.2.2.2.2.1 q4.2.2.2.2.2.2.2.1 q6.2.2.2.1 q6.2.2.2.2.1 q6.2.2.2.2.2.1 q5.1 q4.2.2.2.2.2.2.2.2.2.2.2.2.1 q6.2.2.2.2.2.2.1 q4.2.2.2.2.2.2.2.2.2.2.2.2.2.2.1 q6.2.2.2.2.2.2.2 q5.2.1 q5.2.2.1 q5.2.2.2, bOrderG K (a0 2) g2, bOrderG K (a0 3) g3, bFairG K a1 g4]) (cFair_gon (a0 := (a0 1)) (z0_lasts := q4.1) (z0_keeps := q4.2.1) (z0_stalls := q4.2.2.1) (z0_buyers := q4.2.2.2.1) (z0_minute := q4.2.2.2.2.1) (z0_goods := q4.2.2.2.2.2.1) (z0_price := q4.2.2.2.2.2.2.1) (z0_tongue := q4.2.2.2.2.2.2.2.1) (z0_till := q4.2.2.2.2.2.2.2.2.1) (z0_wealth := q4.2.2.2.2.2.2.2.2.2.1) (z0_sold := q4.2.2.2.2.2.2.2.2.2.2.1) (z0_ring := q5.1) (z0_grudges := q4.2.2.2.2.2.2.2.2.2.2.2.2.1) (z0_purse := q4.2.2.2.2.2.2.2.2.2.2.2.2.2.1) (z0_came := q4.2.2.2.2.2.2.2.2.2.2.2.2.2.2.1) (z0_had := q4.2.2.2.2.2.2.2.2.2.2.2.2.2.2.2.1) (z0_seller := q5.2.1) (z0_praise := q5.2.2.1) (z0_borne := q5.2.2.2) h6) rfl rfl (Nat.le_of_ble_eq_true rfl) kFair_gon (List.mem_of_getElem? (i := 57) rfl) (by decide) (by decide) rfl rfl rfl rfl rfl rfl rfl dX9_findBestRing_54 ?_
        refine r_istore (lv' := [(7, .int q6.1), (0, .ref ((a0 0) 0)), (1, .ref (a1 0)), (2, .null), (3, .int x3), (4, .int x4), (5, .int x5), (6, .int x6)]) dX9_findBestRing_57 (Nat.le_of_ble_eq_true rfl) rfl ?_
        refine r_iload 0 dX9_findBestRing_59 rfl ?_
        refine r_iload 5 dX9_findBestRing_61 rfl ?_
        refine r_icmp_le 81 dX9_findBestRing_63 (by decide) (fun c7 => ?_) (fun c7 => ?_)
        · replace h := it_pos c7 h
          refine r_aload_n 1 dX9_findBestRing_81 rfl ?_
          refine gTrials_order 0 rfl (tb_in (i := 9) (j := 26) rfl rfl) dX9_findBestRing_82 ?_
          obtain ⟨q8, h8, h⟩ := bd_some h
          refine b_callVN (isC := [2]) (ci := 3)  (st := []) (bs1 := [bTrialsG K (a0 0) ((a0 1) 0) ((a0 2) 0) ((a0 3) 0) g0, bFair K (a0 1) q4.1 q4.2.1 q4.2.2.1 q4.2.2.2.1 q6.2.1 q6.2.2.1 q4.2.2.2.2.2.2.1 q4.2.2.2.2.2.2.2.1 q6.2.2.2.1 q6.2.2.2.2.1 q6.2.2.2.2.2.1 q5.1 q4.2.2.2.2.2.2.2.2.2.2.2.2.1 q6.2.2.2.2.2.2.1 q4.2.2.2.2.2.2.2.2.2.2.2.2.2.2.1 q6.2.2.2.2.2.2.2 q5.2.1 q5.2.2.1 q5.2.2.2, bOrder K (a0 2) q8.2 g2.2, bOrderG K (a0 3) g3, bFairG K a1 g4]) (cOrder_goOn (a0 := (a0 2)) (z0_who := g2.1) (z0_size := g2.2) h8) rfl rfl (Nat.le_of_ble_eq_true rfl) kOrder_goOn (List.mem_of_getElem? (i := 59) rfl) (by decide) (by decide) rfl rfl rfl rfl rfl rfl rfl dX9_findBestRing_85 ?_
          refine r_istore (lv' := [(5, .int q8.1), (7, .int q6.1), (0, .ref ((a0 0) 0)), (1, .ref (a1 0)), (2, .null), (3, .int x3), (4, .int x4), (6, .int x6)]) dX9_findBestRing_88 (Nat.le_of_ble_eq_true rfl) rfl ?_
          refine r_iinc (y := (x6 + (1 : Int32))) (lv' := [(6, .int (x6 + (1 : Int32))), (5, .int q8.1), (7, .int q6.1), (0, .ref ((a0 0) 0)), (1, .ref (a1 0)), (2, .null), (3, .int x3), (4, .int x4)]) 7 dX9_findBestRing_90 rfl rfl (Nat.le_of_ble_eq_true rfl) rfl ?_
          refine r_goto 20 dX9_findBestRing_93 (by decide) ?_
          refine r_sub (lv' := [(0, .ref ((a0 0) 0)), (1, .ref (a1 0)), (2, .null), (3, .int x3), (4, .int x4), (5, .int q8.1), (6, .int (x6 + (1 : Int32)))]) [3, 4, 5, 6, 7, 1, 0] rfl ?_
          exact ih x4 q8.1 (x6 + (1 : Int32)) (q4.1, q4.2.1, q4.2.2.1, q4.2.2.2.1, q6.2.1, q6.2.2.1, q4.2.2.2.2.2.2.1, q4.2.2.2.2.2.2.2.1, q6.2.2.2.1, q6.2.2.2.2.1, q6.2.2.2.2.2.1, q5.1, q4.2.2.2.2.2.2.2.2.2.2.2.2.1, q6.2.2.2.2.2.2.1, q4.2.2.2.2.2.2.2.2.2.2.2.2.2.2.1, q6.2.2.2.2.2.2.2, q5.2.1, q5.2.2.1, q5.2.2.2) (q8.2, g2.2) g3 h
        · replace h := it_neg c7 h
          refine r_iload 0 dX9_findBestRing_66 rfl ?_
          refine r_istore (lv' := [(4, .int q6.1), (7, .int q6.1), (0, .ref ((a0 0) 0)), (1, .ref (a1 0)), (2, .null), (3, .int x3), (5, .int x5), (6, .int x6)]) dX9_findBestRing_68 (Nat.le_of_ble_eq_true rfl) rfl ?_
          refine r_aload_n 2 dX9_findBestRing_70 rfl ?_
          refine gTrials_best 0 rfl (tb_in (i := 9) (j := 27) rfl rfl) dX9_findBestRing_71 ?_
          refine r_aload_n 2 dX9_findBestRing_74 rfl ?_
          refine gTrials_order 0 rfl (tb_in (i := 9) (j := 26) rfl rfl) dX9_findBestRing_75 ?_
          obtain ⟨q9, h9, h⟩ := bd_some h
          refine b_callVN (isC := [3, 2]) (ci := 3)  (st := []) (bs1 := [bTrialsG K (a0 0) ((a0 1) 0) ((a0 2) 0) ((a0 3) 0) g0, bFair K (a0 1) q4.1 q4.2.1 q4.2.2.1 q4.2.2.2.1 q6.2.1 q6.2.2.1 q4.2.2.2.2.2.2.1 q4.2.2.2.2.2.2.2.1 q6.2.2.2.1 q6.2.2.2.2.1 q6.2.2.2.2.2.1 q5.1 q4.2.2.2.2.2.2.2.2.2.2.2.2.1 q6.2.2.2.2.2.2.1 q4.2.2.2.2.2.2.2.2.2.2.2.2.2.2.1 q6.2.2.2.2.2.2.2 q5.2.1 q5.2.2.1 q5.2.2.2, bOrderG K (a0 2) g2, bOrderG K (a0 3) q9, bFairG K a1 g4]) (cOrder_copyFrom (a0 := (a0 3)) (a1 := (a0 2)) (z0_who := g3.1) (z0_size := g3.2) (z1_who := g2.1) (z1_size := g2.2) h9) rfl rfl (Nat.le_of_ble_eq_true rfl) kOrder_copyFrom (List.mem_of_getElem? (i := 58) rfl) (by decide) (by decide) rfl rfl rfl rfl rfl rfl rfl dX9_findBestRing_78 ?_
          refine r_aload_n 2 dX9_findBestRing_81 rfl ?_
          refine gTrials_order 0 rfl (tb_in (i := 9) (j := 26) rfl rfl) dX9_findBestRing_82 ?_
          obtain ⟨q10, h10, h⟩ := bd_some h
          refine b_callVN (isC := [2]) (ci := 3)  (st := []) (bs1 := [bTrialsG K (a0 0) ((a0 1) 0) ((a0 2) 0) ((a0 3) 0) g0, bFair K (a0 1) q4.1 q4.2.1 q4.2.2.1 q4.2.2.2.1 q6.2.1 q6.2.2.1 q4.2.2.2.2.2.2.1 q4.2.2.2.2.2.2.2.1 q6.2.2.2.1 q6.2.2.2.2.1 q6.2.2.2.2.2.1 q5.1 q4.2.2.2.2.2.2.2.2.2.2.2.2.1 q6.2.2.2.2.2.2.1 q4.2.2.2.2.2.2.2.2.2.2.2.2.2.2.1 q6.2.2.2.2.2.2.2 q5.2.1 q5.2.2.1 q5.2.2.2, bOrder K (a0 2) q10.2 g2.2, bOrderG K (a0 3) q9, bFairG K a1 g4]) (cOrder_goOn (a0 := (a0 2)) (z0_who := g2.1) (z0_size := g2.2) h10) rfl rfl (Nat.le_of_ble_eq_true rfl) kOrder_goOn (List.mem_of_getElem? (i := 59) rfl) (by decide) (by decide) rfl rfl rfl rfl rfl rfl rfl dX9_findBestRing_85 ?_
          refine r_istore (lv' := [(5, .int q10.1), (4, .int q6.1), (7, .int q6.1), (0, .ref ((a0 0) 0)), (1, .ref (a1 0)), (2, .null), (3, .int x3), (6, .int x6)]) dX9_findBestRing_88 (Nat.le_of_ble_eq_true rfl) rfl ?_
          refine r_iinc (y := (x6 + (1 : Int32))) (lv' := [(6, .int (x6 + (1 : Int32))), (5, .int q10.1), (4, .int q6.1), (7, .int q6.1), (0, .ref ((a0 0) 0)), (1, .ref (a1 0)), (2, .null), (3, .int x3)]) 7 dX9_findBestRing_90 rfl rfl (Nat.le_of_ble_eq_true rfl) rfl ?_
          refine r_goto 20 dX9_findBestRing_93 (by decide) ?_
          refine r_sub (lv' := [(0, .ref ((a0 0) 0)), (1, .ref (a1 0)), (2, .null), (3, .int x3), (4, .int q6.1), (5, .int q10.1), (6, .int (x6 + (1 : Int32)))]) [4, 5, 6, 7, 2, 1, 0] rfl ?_
          exact ih q6.1 q10.1 (x6 + (1 : Int32)) (q4.1, q4.2.1, q4.2.2.1, q4.2.2.2.1, q6.2.1, q6.2.2.1, q4.2.2.2.2.2.2.1, q4.2.2.2.2.2.2.2.1, q6.2.2.2.1, q6.2.2.2.2.1, q6.2.2.2.2.2.1, q5.1, q4.2.2.2.2.2.2.2.2.2.2.2.2.1, q6.2.2.2.2.2.2.1, q4.2.2.2.2.2.2.2.2.2.2.2.2.2.2.1, q6.2.2.2.2.2.2.2, q5.2.1, q5.2.2.1, q5.2.2.2) (q10.2, g2.2) q9 h
def mTrials_findBestRingrn (x3 : Int32) (g1 : tyFair) (g2 : tyOrder) (g3 : tyOrder) (g4 : tyFair) : Option (Int32 × tyFair × tyOrder × tyOrder) := (mOrder_begin g4.2.2.1 g2.1 g2.2).bind (fun q1 => mTrials_findBestRingrn_l20 g4 x3 FU (-1 : Int32) (1 : Int32) (0 : Int32) g1 q1 g3)
set_option maxHeartbeats 4000000 in
set_option maxRecDepth 20000 in
theorem cTrials_findBestRingrn {q : Int32 × tyFair × tyOrder × tyOrder} {x3 : Int32} (h : mTrials_findBestRingrn x3 g1 g2 g3 g4 = some q) : rMet l D Z (ty7 K) MTrials_findBestRingrn [.ref ((a0 0) 0), .ref (a1 0), .null, .int x3] (List.flatten [bTrialsG K (a0 0) ((a0 1) 0) ((a0 2) 0) ((a0 3) 0) g0, bFairG K (a0 1) g1, bOrderG K (a0 2) g2, bOrderG K (a0 3) g3, bFairG K a1 g4]) (List.flatten [bTrialsG K (a0 0) ((a0 1) 0) ((a0 2) 0) ((a0 3) 0) g0, bFairG K (a0 1) q.2.1, bOrderG K (a0 2) q.2.2.1, bOrderG K (a0 3) q.2.2.2, bFairG K a1 g4]) (some (.int q.1)) := by
  refine rMet.of (by decide) rfl (Nat.le_of_ble_eq_true rfl) ?_
  refine r_sub (lv' := [(0, .ref ((a0 0) 0)), (1, .ref (a1 0)), (2, .null), (3, .int x3)]) [0, 1, 2, 3] rfl ?_
  unfold mTrials_findBestRingrn at h
  refine r_iconst (x := (-1 : Int32)) dX9_findBestRing_0 (by decide) ?_
  refine r_istore (lv' := [(4, .int (-1 : Int32)), (0, .ref ((a0 0) 0)), (1, .ref (a1 0)), (2, .null), (3, .int x3)]) dX9_findBestRing_1 (Nat.le_of_ble_eq_true rfl) rfl ?_
  refine r_iconst (x := (1 : Int32)) dX9_findBestRing_3 (by decide) ?_
  refine r_istore (lv' := [(5, .int (1 : Int32)), (4, .int (-1 : Int32)), (0, .ref ((a0 0) 0)), (1, .ref (a1 0)), (2, .null), (3, .int x3)]) dX9_findBestRing_4 (Nat.le_of_ble_eq_true rfl) rfl ?_
  refine r_aload_n 2 dX9_findBestRing_6 rfl ?_
  refine gTrials_order 0 rfl (tb_in (i := 9) (j := 26) rfl rfl) dX9_findBestRing_7 ?_
  refine r_aload_n 3 dX9_findBestRing_10 rfl ?_
  refine gFair_stallsN 4 rfl (List.mem_of_getElem? (i := 16) rfl) dX9_findBestRing_11 ?_
  obtain ⟨q1, h1, h⟩ := bd_some h
  refine b_callVN (isC := [2]) (ci := 3)  (st := []) (bs1 := [bTrialsG K (a0 0) ((a0 1) 0) ((a0 2) 0) ((a0 3) 0) g0, bFairG K (a0 1) g1, bOrderG K (a0 2) q1, bOrderG K (a0 3) g3, bFairG K a1 g4]) (cOrder_begin (a0 := (a0 2)) (z0_who := g2.1) (z0_size := g2.2) h1) rfl rfl (Nat.le_of_ble_eq_true rfl) kOrder_begin (List.mem_of_getElem? (i := 55) rfl) (by decide) (by decide) rfl rfl rfl rfl rfl rfl rfl dX9_findBestRing_14 ?_
  refine r_iconst (x := (0 : Int32)) dX9_findBestRing_17 (by decide) ?_
  refine r_istore (lv' := [(6, .int (0 : Int32)), (5, .int (1 : Int32)), (4, .int (-1 : Int32)), (0, .ref ((a0 0) 0)), (1, .ref (a1 0)), (2, .null), (3, .int x3)]) dX9_findBestRing_18 (Nat.le_of_ble_eq_true rfl) rfl ?_
  refine r_sub (lv' := [(0, .ref ((a0 0) 0)), (1, .ref (a1 0)), (2, .null), (3, .int x3), (4, .int (-1 : Int32)), (5, .int (1 : Int32)), (6, .int (0 : Int32))]) [3, 4, 5, 6, 2, 1, 0] rfl ?_
  exact cTrials_findBestRingrn_l20 (g4 := g4)  FU (-1 : Int32) (1 : Int32) (0 : Int32) g1 q1 g3 h
end
theorem dX9_findQuietRing_0 : decode cX9_findQuietRing 0 = .ok (.bipush 7, 2) := by decide +kernel
theorem dX9_findQuietRing_2 : decode cX9_findQuietRing 2 = .ok (.istore_n 2, 1) := by decide +kernel
theorem dX9_findQuietRing_3 : decode cX9_findQuietRing 3 = .ok (.iconst 1, 1) := by decide +kernel
theorem dX9_findQuietRing_4 : decode cX9_findQuietRing 4 = .ok (.istore_n 3, 1) := by decide +kernel
theorem dX9_findQuietRing_5 : decode cX9_findQuietRing 5 = .ok (.aload_n 0, 1) := by decide +kernel
theorem dX9_findQuietRing_6 : decode cX9_findQuietRing 6 = .ok (.aload_n 1, 1) := by decide +kernel
theorem dX9_findQuietRing_7 : decode cX9_findQuietRing 7 = .ok (.invokevirtual 66, 3) := by decide +kernel
theorem dX9_findQuietRing_10 : decode cX9_findQuietRing 10 = .ok (.pop, 1) := by decide +kernel
theorem dX9_findQuietRing_11 : decode cX9_findQuietRing 11 = .ok (.aload_n 0, 1) := by decide +kernel
theorem dX9_findQuietRing_12 : decode cX9_findQuietRing 12 = .ok (.getfield 21, 3) := by decide +kernel
theorem dX9_findQuietRing_15 : decode cX9_findQuietRing 15 = .ok (.aload_n 1, 1) := by decide +kernel
theorem dX9_findQuietRing_16 : decode cX9_findQuietRing 16 = .ok (.getfield 59, 3) := by decide +kernel
theorem dX9_findQuietRing_19 : decode cX9_findQuietRing 19 = .ok (.invokevirtual 62, 3) := by decide +kernel
theorem dX9_findQuietRing_22 : decode cX9_findQuietRing 22 = .ok (.iconst 0, 1) := by decide +kernel
theorem dX9_findQuietRing_23 : decode cX9_findQuietRing 23 = .ok (.istore 4, 2) := by decide +kernel
theorem dX9_findQuietRing_25 : decode cX9_findQuietRing 25 = .ok (.iload 4, 2) := by decide +kernel
theorem dX9_findQuietRing_27 : decode cX9_findQuietRing 27 = .ok (.bipush 120, 2) := by decide +kernel
theorem dX9_findQuietRing_29 : decode cX9_findQuietRing 29 = .ok (.if_icmp .ge 71, 3) := by decide +kernel
theorem dX9_findQuietRing_32 : decode cX9_findQuietRing 32 = .ok (.iload_n 3, 1) := by decide +kernel
theorem dX9_findQuietRing_33 : decode cX9_findQuietRing 33 = .ok (.ifCond .eq 67, 3) := by decide +kernel
theorem dX9_findQuietRing_36 : decode cX9_findQuietRing 36 = .ok (.aload_n 0, 1) := by decide +kernel
theorem dX9_findQuietRing_37 : decode cX9_findQuietRing 37 = .ok (.getfield 12, 3) := by decide +kernel
theorem dX9_findQuietRing_40 : decode cX9_findQuietRing 40 = .ok (.aload_n 0, 1) := by decide +kernel
theorem dX9_findQuietRing_41 : decode cX9_findQuietRing 41 = .ok (.getfield 21, 3) := by decide +kernel
theorem dX9_findQuietRing_44 : decode cX9_findQuietRing 44 = .ok (.getfield 56, 3) := by decide +kernel
theorem dX9_findQuietRing_47 : decode cX9_findQuietRing 47 = .ok (.invokevirtual 70, 3) := by decide +kernel
theorem dX9_findQuietRing_50 : decode cX9_findQuietRing 50 = .ok (.aload_n 0, 1) := by decide +kernel
theorem dX9_findQuietRing_51 : decode cX9_findQuietRing 51 = .ok (.getfield 12, 3) := by decide +kernel
theorem dX9_findQuietRing_54 : decode cX9_findQuietRing 54 = .ok (.aload_n 0, 1) := by decide +kernel
theorem dX9_findQuietRing_55 : decode cX9_findQuietRing 55 = .ok (.getfield 12, 3) := by decide +kernel
theorem dX9_findQuietRing_58 : decode cX9_findQuietRing 58 = .ok (.getfield 85, 3) := by decide +kernel
theorem dX9_findQuietRing_61 : decode cX9_findQuietRing 61 = .ok (.invokevirtual 88, 3) := by decide +kernel
theorem dX9_findQuietRing_64 : decode cX9_findQuietRing 64 = .ok (.istore 5, 2) := by decide +kernel
theorem dX9_findQuietRing_66 : decode cX9_findQuietRing 66 = .ok (.iload 5, 2) := by decide +kernel
theorem dX9_findQuietRing_68 : decode cX9_findQuietRing 68 = .ok (.iload_n 2, 1) := by decide +kernel
theorem dX9_findQuietRing_69 : decode cX9_findQuietRing 69 = .ok (.if_icmp .ge 17, 3) := by decide +kernel
theorem dX9_findQuietRing_72 : decode cX9_findQuietRing 72 = .ok (.iload 5, 2) := by decide +kernel
theorem dX9_findQuietRing_74 : decode cX9_findQuietRing 74 = .ok (.istore_n 2, 1) := by decide +kernel
theorem dX9_findQuietRing_75 : decode cX9_findQuietRing 75 = .ok (.aload_n 0, 1) := by decide +kernel
theorem dX9_findQuietRing_76 : decode cX9_findQuietRing 76 = .ok (.getfield 25, 3) := by decide +kernel
theorem dX9_findQuietRing_79 : decode cX9_findQuietRing 79 = .ok (.aload_n 0, 1) := by decide +kernel
theorem dX9_findQuietRing_80 : decode cX9_findQuietRing 80 = .ok (.getfield 21, 3) := by decide +kernel
theorem dX9_findQuietRing_83 : decode cX9_findQuietRing 83 = .ok (.invokevirtual 78, 3) := by decide +kernel
theorem dX9_findQuietRing_86 : decode cX9_findQuietRing 86 = .ok (.aload_n 0, 1) := by decide +kernel
theorem dX9_findQuietRing_87 : decode cX9_findQuietRing 87 = .ok (.getfield 21, 3) := by decide +kernel
theorem dX9_findQuietRing_90 : decode cX9_findQuietRing 90 = .ok (.invokevirtual 81, 3) := by decide +kernel
theorem dX9_findQuietRing_93 : decode cX9_findQuietRing 93 = .ok (.istore_n 3, 1) := by decide +kernel
theorem dX9_findQuietRing_94 : decode cX9_findQuietRing 94 = .ok (.iinc 4 1, 3) := by decide +kernel
theorem dX9_findQuietRing_97 : decode cX9_findQuietRing 97 = .ok (.goto (-72), 3) := by decide +kernel
theorem dX9_findQuietRing_100 : decode cX9_findQuietRing 100 = .ok (.iload_n 2, 1) := by decide +kernel
theorem dX9_findQuietRing_101 : decode cX9_findQuietRing 101 = .ok (.ireturn, 1) := by decide +kernel
abbrev MTrials_findQuietRing : rx_M := (RX9, yX9_findQuietRing, cX9_findQuietRing, 6, (some .int), 6)
theorem kTrials_findQuietRing : rKv MTrials_findQuietRing 1 := ⟨tb_in (i := 15) (j := 6) rfl rfl, tb_in (i := 15) (j := 7) rfl rfl, tb_in (i := 10) (j := 11) rfl rfl, tb_in (i := 10) (j := 19) rfl rfl, ⟨by decide, by decide, by decide +kernel⟩, by decide⟩
section
variable {a0 : Nat → Nat → Nat} {a1 : Nat → Nat} {g0 : tyTrials} {g1 : tyFair} {g2 : tyOrder} {g3 : tyOrder} {g4 : tyFair}
def mTrials_findQuietRing_l25 (g4 : tyFair) : Nat → Int32 → Int32 → Int32 → tyFair → tyOrder → tyOrder → Option (Int32 × tyFair × tyOrder × tyOrder)
  | 0, _, _, _, _, _, _ => none
  | n + 1, x2, x3, x4, g1, g2, g3 => (if (120 : Int32) ≤ x4 then some (x2, g1, g2, g3) else (if x3 = 0 then some (x2, g1, g2, g3) else (mFair_stand_who g1.2.2.1 g1.2.2.2.2.2.2.2.1 g1.2.2.2.2.2.2.2.2.2.2.2.1 g1.2.2.2.2.2.2.2.2.2.2.2.2.1 g1.2.2.2.2.2.2.2.2.2.2.2.2.2.2.2.2.1 g1.2.2.2.2.2.2.2.2.2.2.2.2.2.2.2.2.2.1 g1.2.2.2.2.2.2.2.2.2.2.2.2.2.2.2.2.2.2 g2.1).bind (fun q5 => (mFair_sumOf_borne g1.2.2.1 q5.2.2.2).bind (fun q6 => (if x2 ≤ q6 then (mOrder_goOn g2.1 g2.2).bind (fun q8 => mTrials_findQuietRing_l25 g4 n x2 q8.1 (x4 + (1 : Int32)) (g1.1, g1.2.1, g1.2.2.1, g1.2.2.2.1, g1.2.2.2.2.1, g1.2.2.2.2.2.1, g1.2.2.2.2.2.2.1, g1.2.2.2.2.2.2.2.1, g1.2.2.2.2.2.2.2.2.1, g1.2.2.2.2.2.2.2.2.2.1, g1.2.2.2.2.2.2.2.2.2.2.1, q5.1, g1.2.2.2.2.2.2.2.2.2.2.2.2.1, g1.2.2.2.2.2.2.2.2.2.2.2.2.2.1, g1.2.2.2.2.2.2.2.2.2.2.2.2.2.2.1, g1.2.2.2.2.2.2.2.2.2.2.2.2.2.2.2.1, q5.2.1, q5.2.2.1, q5.2.2.2) (q8.2, g2.2) g3) else (mOrder_copyFrom g3.1 g3.2 g2.1 g2.2).bind (fun q9 => (mOrder_goOn g2.1 g2.2).bind (fun q10 => mTrials_findQuietRing_l25 g4 n q6 q10.1 (x4 + (1 : Int32)) (g1.1, g1.2.1, g1.2.2.1, g1.2.2.2.1, g1.2.2.2.2.1, g1.2.2.2.2.2.1, g1.2.2.2.2.2.2.1, g1.2.2.2.2.2.2.2.1, g1.2.2.2.2.2.2.2.2.1, g1.2.2.2.2.2.2.2.2.2.1, g1.2.2.2.2.2.2.2.2.2.2.1, q5.1, g1.2.2.2.2.2.2.2.2.2.2.2.2.1, g1.2.2.2.2.2.2.2.2.2.2.2.2.2.1, g1.2.2.2.2.2.2.2.2.2.2.2.2.2.2.1, g1.2.2.2.2.2.2.2.2.2.2.2.2.2.2.2.1, q5.2.1, q5.2.2.1, q5.2.2.2) (q10.2, g2.2) q9)))))))
set_option maxHeartbeats 4000000 in
set_option maxRecDepth 20000 in
theorem cTrials_findQuietRing_l25 {q : Int32 × tyFair × tyOrder × tyOrder}   : ∀ (n : Nat) (x2 : Int32) (x3 : Int32) (x4 : Int32) (g1 : tyFair) (g2 : tyOrder) (g3 : tyOrder), mTrials_findQuietRing_l25 g4 n x2 x3 x4 g1 g2 g3 = some q → rW l D Z (ty7 K) MTrials_findQuietRing 25 [(0, .ref ((a0 0) 0)), (2, .int x2), (3, .int x3), (4, .int x4)] [] (List.flatten [bTrialsG K (a0 0) ((a0 1) 0) ((a0 2) 0) ((a0 3) 0) g0, bFairG K (a0 1) g1, bOrderG K (a0 2) g2, bOrderG K (a0 3) g3, bFairG K a1 g4]) (List.flatten [bTrialsG K (a0 0) ((a0 1) 0) ((a0 2) 0) ((a0 3) 0) g0, bFairG K (a0 1) q.2.1, bOrderG K (a0 2) q.2.2.1, bOrderG K (a0 3) q.2.2.2, bFairG K a1 g4]) (some (.int q.1)) := by
  intro n
  induction n with
  | zero => intro x2 x3 x4 g1 g2 g3 h; unfold mTrials_findQuietRing_l25 at h; cases h
  | succ n ih =>
    intro x2 x3 x4 g1 g2 g3 h
    unfold mTrials_findQuietRing_l25 at h
    refine r_iload 3 dX9_findQuietRing_25 rfl ?_
    refine r_bipush (x := (120 : Int32)) dX9_findQuietRing_27 (by decide) ?_
    refine r_icmp_ge 100 dX9_findQuietRing_29 (by decide) (fun c3 => ?_) (fun c3 => ?_)
    · replace h := it_pos c3 h
      refine r_iload_n 1 dX9_findQuietRing_100 rfl ?_
      have hq := Option.some.inj h
      subst hq
      exact r_iret rfl dX9_findQuietRing_101
    · replace h := it_neg c3 h
      refine r_iload_n 2 dX9_findQuietRing_32 rfl ?_
      refine r_if_eq 100 dX9_findQuietRing_33 (by decide) (fun c4 => ?_) (fun c4 => ?_)
      · replace h := it_pos c4 h
        refine r_iload_n 1 dX9_findQuietRing_100 rfl ?_
        have hq := Option.some.inj h
        subst hq
        exact r_iret rfl dX9_findQuietRing_101
      · replace h := it_neg c4 h
        refine r_aload_n 0 dX9_findQuietRing_36 rfl ?_
        refine gTrials_fair 0 rfl (tb_in (i := 9) (j := 23) rfl rfl) dX9_findQuietRing_37 ?_
        refine r_aload_n 0 dX9_findQuietRing_40 rfl ?_
        refine gTrials_order 0 rfl (tb_in (i := 9) (j := 26) rfl rfl) dX9_findQuietRing_41 ?_
        refine gOrder_whoN 2 rfl (List.mem_of_getElem? (i := 60) rfl) dX9_findQuietRing_44 ?_
        obtain ⟨q5, h5, h⟩ := bd_some h
        refine b_callVN (isC := [1, 2]) (ci := 1)  (st := []) (bs1 := [bTrialsG K (a0 0) ((a0 1) 0) ((a0 2) 0) ((a0 3) 0) g0, bFair K (a0 1) g1.1 g1.2.1 g1.2.2.1 g1.2.2.2.1 g1.2.2.2.2.1 g1.2.2.2.2.2.1 g1.2.2.2.2.2.2.1 g1.2.2.2.2.2.2.2.1 g1.2.2.2.2.2.2.2.2.1 g1.2.2.2.2.2.2.2.2.2.1 g1.2.2.2.2.2.2.2.2.2.2.1 q5.1 g1.2.2.2.2.2.2.2.2.2.2.2.2.1 g1.2.2.2.2.2.2.2.2.2.2.2.2.2.1 g1.2.2.2.2.2.2.2.2.2.2.2.2.2.2.1 g1.2.2.2.2.2.2.2.2.2.2.2.2.2.2.2.1 q5.2.1 q5.2.2.1 q5.2.2.2, bOrderG K (a0 2) g2, bOrderG K (a0 3) g3, bFairG K a1 g4]) (cFair_stand_who (a0 := (a0 1)) (a1 := (a0 2)) (z0_lasts := g1.1) (z0_keeps := g1.2.1) (z0_stalls := g1.2.2.1) (z0_buyers := g1.2.2.2.1) (z0_minute := g1.2.2.2.2.1) (z0_goods := g1.2.2.2.2.2.1) (z0_price := g1.2.2.2.2.2.2.1) (z0_tongue := g1.2.2.2.2.2.2.2.1) (z0_till := g1.2.2.2.2.2.2.2.2.1) (z0_wealth := g1.2.2.2.2.2.2.2.2.2.1) (z0_sold := g1.2.2.2.2.2.2.2.2.2.2.1) (z0_ring := g1.2.2.2.2.2.2.2.2.2.2.2.1) (z0_grudges := g1.2.2.2.2.2.2.2.2.2.2.2.2.1) (z0_purse := g1.2.2.2.2.2.2.2.2.2.2.2.2.2.1) (z0_came := g1.2.2.2.2.2.2.2.2.2.2.2.2.2.2.1) (z0_had := g1.2.2.2.2.2.2.2.2.2.2.2.2.2.2.2.1) (z0_seller := g1.2.2.2.2.2.2.2.2.2.2.2.2.2.2.2.2.1) (z0_praise := g1.2.2.2.2.2.2.2.2.2.2.2.2.2.2.2.2.2.1) (z0_borne := g1.2.2.2.2.2.2.2.2.2.2.2.2.2.2.2.2.2.2) (z1_who := g2.1) (z1_size := g2.2) h5) rfl rfl (Nat.le_of_ble_eq_true rfl) kFair_stand_who (List.mem_of_getElem? (i := 56) rfl) (by decide) (by decide) rfl rfl rfl rfl rfl rfl rfl dX9_findQuietRing_47 ?_
        refine r_aload_n 0 dX9_findQuietRing_50 rfl ?_
        refine gTrials_fair 0 rfl (tb_in (i := 9) (j := 23) rfl rfl) dX9_findQuietRing_51 ?_
        refine r_aload_n 0 dX9_findQuietRing_54 rfl ?_
        refine gTrials_fair 0 rfl (tb_in (i := 9) (j := 23) rfl rfl) dX9_findQuietRing_55 ?_
        refine gFair_borneN 1 rfl (List.mem_of_getElem? (i := 47) rfl) dX9_findQuietRing_58 ?_
        obtain ⟨q6, h6, h⟩ := bd_some h
        refine b_callVN (isC := [1]) (ci := 1)  (st := []) (bs1 := [bTrialsG K (a0 0) ((a0 1) 0) ((a0 2) 0) ((a0 3) 0) g0, bFair K (a0 1) g1.1 g1.2.1 g1.2.2.1 g1.2.2.2.1 g1.2.2.2.2.1 g1.2.2.2.2.2.1 g1.2.2.2.2.2.2.1 g1.2.2.2.2.2.2.2.1 g1.2.2.2.2.2.2.2.2.1 g1.2.2.2.2.2.2.2.2.2.1 g1.2.2.2.2.2.2.2.2.2.2.1 q5.1 g1.2.2.2.2.2.2.2.2.2.2.2.2.1 g1.2.2.2.2.2.2.2.2.2.2.2.2.2.1 g1.2.2.2.2.2.2.2.2.2.2.2.2.2.2.1 g1.2.2.2.2.2.2.2.2.2.2.2.2.2.2.2.1 q5.2.1 q5.2.2.1 q5.2.2.2, bOrderG K (a0 2) g2, bOrderG K (a0 3) g3, bFairG K a1 g4]) (cFair_sumOf_borne (a0 := (a0 1)) (z0_lasts := g1.1) (z0_keeps := g1.2.1) (z0_stalls := g1.2.2.1) (z0_buyers := g1.2.2.2.1) (z0_minute := g1.2.2.2.2.1) (z0_goods := g1.2.2.2.2.2.1) (z0_price := g1.2.2.2.2.2.2.1) (z0_tongue := g1.2.2.2.2.2.2.2.1) (z0_till := g1.2.2.2.2.2.2.2.2.1) (z0_wealth := g1.2.2.2.2.2.2.2.2.2.1) (z0_sold := g1.2.2.2.2.2.2.2.2.2.2.1) (z0_ring := q5.1) (z0_grudges := g1.2.2.2.2.2.2.2.2.2.2.2.2.1) (z0_purse := g1.2.2.2.2.2.2.2.2.2.2.2.2.2.1) (z0_came := g1.2.2.2.2.2.2.2.2.2.2.2.2.2.2.1) (z0_had := g1.2.2.2.2.2.2.2.2.2.2.2.2.2.2.2.1) (z0_seller := q5.2.1) (z0_praise := q5.2.2.1) (z0_borne := q5.2.2.2) h6) rfl rfl (Nat.le_of_ble_eq_true rfl) kFair_sumOf_borne (List.mem_of_getElem? (i := 63) rfl) (by decide) (by decide) rfl rfl rfl rfl rfl rfl rfl dX9_findQuietRing_61 ?_
        refine r_istore (lv' := [(5, .int q6), (0, .ref ((a0 0) 0)), (2, .int x2), (3, .int x3), (4, .int x4)]) dX9_findQuietRing_64 (Nat.le_of_ble_eq_true rfl) rfl ?_
        refine r_iload 0 dX9_findQuietRing_66 rfl ?_
        refine r_iload_n 2 dX9_findQuietRing_68 rfl ?_
        refine r_icmp_ge 86 dX9_findQuietRing_69 (by decide) (fun c7 => ?_) (fun c7 => ?_)
        · replace h := it_pos c7 h
          refine r_aload_n 1 dX9_findQuietRing_86 rfl ?_
          refine gTrials_order 0 rfl (tb_in (i := 9) (j := 26) rfl rfl) dX9_findQuietRing_87 ?_
          obtain ⟨q8, h8, h⟩ := bd_some h
          refine b_callVN (isC := [2]) (ci := 3)  (st := []) (bs1 := [bTrialsG K (a0 0) ((a0 1) 0) ((a0 2) 0) ((a0 3) 0) g0, bFair K (a0 1) g1.1 g1.2.1 g1.2.2.1 g1.2.2.2.1 g1.2.2.2.2.1 g1.2.2.2.2.2.1 g1.2.2.2.2.2.2.1 g1.2.2.2.2.2.2.2.1 g1.2.2.2.2.2.2.2.2.1 g1.2.2.2.2.2.2.2.2.2.1 g1.2.2.2.2.2.2.2.2.2.2.1 q5.1 g1.2.2.2.2.2.2.2.2.2.2.2.2.1 g1.2.2.2.2.2.2.2.2.2.2.2.2.2.1 g1.2.2.2.2.2.2.2.2.2.2.2.2.2.2.1 g1.2.2.2.2.2.2.2.2.2.2.2.2.2.2.2.1 q5.2.1 q5.2.2.1 q5.2.2.2, bOrder K (a0 2) q8.2 g2.2, bOrderG K (a0 3) g3, bFairG K a1 g4]) (cOrder_goOn (a0 := (a0 2)) (z0_who := g2.1) (z0_size := g2.2) h8) rfl rfl (Nat.le_of_ble_eq_true rfl) kOrder_goOn (List.mem_of_getElem? (i := 59) rfl) (by decide) (by decide) rfl rfl rfl rfl rfl rfl rfl dX9_findQuietRing_90 ?_
          refine r_istore_n (lv' := [(3, .int q8.1), (5, .int q6), (0, .ref ((a0 0) 0)), (2, .int x2), (4, .int x4)]) dX9_findQuietRing_93 (Nat.le_of_ble_eq_true rfl) rfl ?_
          refine r_iinc (y := (x4 + (1 : Int32))) (lv' := [(4, .int (x4 + (1 : Int32))), (3, .int q8.1), (5, .int q6), (0, .ref ((a0 0) 0)), (2, .int x2)]) 4 dX9_findQuietRing_94 rfl rfl (Nat.le_of_ble_eq_true rfl) rfl ?_
          refine r_goto 25 dX9_findQuietRing_97 (by decide) ?_
          refine r_sub (lv' := [(0, .ref ((a0 0) 0)), (2, .int x2), (3, .int q8.1), (4, .int (x4 + (1 : Int32)))]) [3, 4, 1, 0] rfl ?_
          exact ih x2 q8.1 (x4 + (1 : Int32)) (g1.1, g1.2.1, g1.2.2.1, g1.2.2.2.1, g1.2.2.2.2.1, g1.2.2.2.2.2.1, g1.2.2.2.2.2.2.1, g1.2.2.2.2.2.2.2.1, g1.2.2.2.2.2.2.2.2.1, g1.2.2.2.2.2.2.2.2.2.1, g1.2.2.2.2.2.2.2.2.2.2.1, q5.1, g1.2.2.2.2.2.2.2.2.2.2.2.2.1, g1.2.2.2.2.2.2.2.2.2.2.2.2.2.1, g1.2.2.2.2.2.2.2.2.2.2.2.2.2.2.1, g1.2.2.2.2.2.2.2.2.2.2.2.2.2.2.2.1, q5.2.1, q5.2.2.1, q5.2.2.2) (q8.2, g2.2) g3 h
        · replace h := it_neg c7 h
          refine r_iload 0 dX9_findQuietRing_72 rfl ?_
          refine r_istore_n (lv' := [(2, .int q6), (5, .int q6), (0, .ref ((a0 0) 0)), (3, .int x3), (4, .int x4)]) dX9_findQuietRing_74 (Nat.le_of_ble_eq_true rfl) rfl ?_
          refine r_aload_n 2 dX9_findQuietRing_75 rfl ?_
          refine gTrials_best 0 rfl (tb_in (i := 9) (j := 27) rfl rfl) dX9_findQuietRing_76 ?_
          refine r_aload_n 2 dX9_findQuietRing_79 rfl ?_
          refine gTrials_order 0 rfl (tb_in (i := 9) (j := 26) rfl rfl) dX9_findQuietRing_80 ?_
          obtain ⟨q9, h9, h⟩ := bd_some h
          refine b_callVN (isC := [3, 2]) (ci := 3)  (st := []) (bs1 := [bTrialsG K (a0 0) ((a0 1) 0) ((a0 2) 0) ((a0 3) 0) g0, bFair K (a0 1) g1.1 g1.2.1 g1.2.2.1 g1.2.2.2.1 g1.2.2.2.2.1 g1.2.2.2.2.2.1 g1.2.2.2.2.2.2.1 g1.2.2.2.2.2.2.2.1 g1.2.2.2.2.2.2.2.2.1 g1.2.2.2.2.2.2.2.2.2.1 g1.2.2.2.2.2.2.2.2.2.2.1 q5.1 g1.2.2.2.2.2.2.2.2.2.2.2.2.1 g1.2.2.2.2.2.2.2.2.2.2.2.2.2.1 g1.2.2.2.2.2.2.2.2.2.2.2.2.2.2.1 g1.2.2.2.2.2.2.2.2.2.2.2.2.2.2.2.1 q5.2.1 q5.2.2.1 q5.2.2.2, bOrderG K (a0 2) g2, bOrderG K (a0 3) q9, bFairG K a1 g4]) (cOrder_copyFrom (a0 := (a0 3)) (a1 := (a0 2)) (z0_who := g3.1) (z0_size := g3.2) (z1_who := g2.1) (z1_size := g2.2) h9) rfl rfl (Nat.le_of_ble_eq_true rfl) kOrder_copyFrom (List.mem_of_getElem? (i := 58) rfl) (by decide) (by decide) rfl rfl rfl rfl rfl rfl rfl dX9_findQuietRing_83 ?_
          refine r_aload_n 2 dX9_findQuietRing_86 rfl ?_
          refine gTrials_order 0 rfl (tb_in (i := 9) (j := 26) rfl rfl) dX9_findQuietRing_87 ?_
          obtain ⟨q10, h10, h⟩ := bd_some h
          refine b_callVN (isC := [2]) (ci := 3)  (st := []) (bs1 := [bTrialsG K (a0 0) ((a0 1) 0) ((a0 2) 0) ((a0 3) 0) g0, bFair K (a0 1) g1.1 g1.2.1 g1.2.2.1 g1.2.2.2.1 g1.2.2.2.2.1 g1.2.2.2.2.2.1 g1.2.2.2.2.2.2.1 g1.2.2.2.2.2.2.2.1 g1.2.2.2.2.2.2.2.2.1 g1.2.2.2.2.2.2.2.2.2.1 g1.2.2.2.2.2.2.2.2.2.2.1 q5.1 g1.2.2.2.2.2.2.2.2.2.2.2.2.1 g1.2.2.2.2.2.2.2.2.2.2.2.2.2.1 g1.2.2.2.2.2.2.2.2.2.2.2.2.2.2.1 g1.2.2.2.2.2.2.2.2.2.2.2.2.2.2.2.1 q5.2.1 q5.2.2.1 q5.2.2.2, bOrder K (a0 2) q10.2 g2.2, bOrderG K (a0 3) q9, bFairG K a1 g4]) (cOrder_goOn (a0 := (a0 2)) (z0_who := g2.1) (z0_size := g2.2) h10) rfl rfl (Nat.le_of_ble_eq_true rfl) kOrder_goOn (List.mem_of_getElem? (i := 59) rfl) (by decide) (by decide) rfl rfl rfl rfl rfl rfl rfl dX9_findQuietRing_90 ?_
          refine r_istore_n (lv' := [(3, .int q10.1), (2, .int q6), (5, .int q6), (0, .ref ((a0 0) 0)), (4, .int x4)]) dX9_findQuietRing_93 (Nat.le_of_ble_eq_true rfl) rfl ?_
          refine r_iinc (y := (x4 + (1 : Int32))) (lv' := [(4, .int (x4 + (1 : Int32))), (3, .int q10.1), (2, .int q6), (5, .int q6), (0, .ref ((a0 0) 0))]) 4 dX9_findQuietRing_94 rfl rfl (Nat.le_of_ble_eq_true rfl) rfl ?_
          refine r_goto 25 dX9_findQuietRing_97 (by decide) ?_
          refine r_sub (lv' := [(0, .ref ((a0 0) 0)), (2, .int q6), (3, .int q10.1), (4, .int (x4 + (1 : Int32)))]) [4, 2, 1, 0] rfl ?_
          exact ih q6 q10.1 (x4 + (1 : Int32)) (g1.1, g1.2.1, g1.2.2.1, g1.2.2.2.1, g1.2.2.2.2.1, g1.2.2.2.2.2.1, g1.2.2.2.2.2.2.1, g1.2.2.2.2.2.2.2.1, g1.2.2.2.2.2.2.2.2.1, g1.2.2.2.2.2.2.2.2.2.1, g1.2.2.2.2.2.2.2.2.2.2.1, q5.1, g1.2.2.2.2.2.2.2.2.2.2.2.2.1, g1.2.2.2.2.2.2.2.2.2.2.2.2.2.1, g1.2.2.2.2.2.2.2.2.2.2.2.2.2.2.1, g1.2.2.2.2.2.2.2.2.2.2.2.2.2.2.2.1, q5.2.1, q5.2.2.1, q5.2.2.2) (q10.2, g2.2) q9 h
def mTrials_findQuietRing (g1 : tyFair) (g2 : tyOrder) (g3 : tyOrder) (g4 : tyFair) : Option (Int32 × tyFair × tyOrder × tyOrder) := (mTrials_from g1 g4).bind (fun q1 => (mOrder_begin g4.2.2.1 g2.1 g2.2).bind (fun q2 => mTrials_findQuietRing_l25 g4 FU (7 : Int32) (1 : Int32) (0 : Int32) q1 q2 g3))
set_option maxHeartbeats 4000000 in
set_option maxRecDepth 20000 in
theorem cTrials_findQuietRing {q : Int32 × tyFair × tyOrder × tyOrder}  (h : mTrials_findQuietRing g1 g2 g3 g4 = some q) : rMet l D Z (ty7 K) MTrials_findQuietRing [.ref ((a0 0) 0), .ref (a1 0)] (List.flatten [bTrialsG K (a0 0) ((a0 1) 0) ((a0 2) 0) ((a0 3) 0) g0, bFairG K (a0 1) g1, bOrderG K (a0 2) g2, bOrderG K (a0 3) g3, bFairG K a1 g4]) (List.flatten [bTrialsG K (a0 0) ((a0 1) 0) ((a0 2) 0) ((a0 3) 0) g0, bFairG K (a0 1) q.2.1, bOrderG K (a0 2) q.2.2.1, bOrderG K (a0 3) q.2.2.2, bFairG K a1 g4]) (some (.int q.1)) := by
  refine rMet.of (by decide) rfl (Nat.le_of_ble_eq_true rfl) ?_
  refine r_sub (lv' := [(0, .ref ((a0 0) 0)), (1, .ref (a1 0))]) [0, 1] rfl ?_
  unfold mTrials_findQuietRing at h
  refine r_bipush (x := (7 : Int32)) dX9_findQuietRing_0 (by decide) ?_
  refine r_istore_n (lv' := [(2, .int (7 : Int32)), (0, .ref ((a0 0) 0)), (1, .ref (a1 0))]) dX9_findQuietRing_2 (Nat.le_of_ble_eq_true rfl) rfl ?_
  refine r_iconst (x := (1 : Int32)) dX9_findQuietRing_3 (by decide) ?_
  refine r_istore_n (lv' := [(3, .int (1 : Int32)), (2, .int (7 : Int32)), (0, .ref ((a0 0) 0)), (1, .ref (a1 0))]) dX9_findQuietRing_4 (Nat.le_of_ble_eq_true rfl) rfl ?_
  refine r_aload_n 2 dX9_findQuietRing_5 rfl ?_
  refine r_aload_n 3 dX9_findQuietRing_6 rfl ?_
  obtain ⟨q1, h1, h⟩ := bd_some h
  refine b_callV (isC := [0, 1, 2, 3, 4]) (ci := 7)  (st := []) (bs1 := [bTrialsG K (a0 0) ((a0 1) 0) ((a0 2) 0) ((a0 3) 0) g0, bFairG K (a0 1) q1, bOrderG K (a0 2) g2, bOrderG K (a0 3) g3, bFairG K a1 g4]) (cTrials_from (a0 := a0) (a1 := a1) (g0 := g0) (g1 := g1) (g2 := g2) (g3 := g3) (g4 := g4) h1) rfl rfl (Nat.le_of_ble_eq_true rfl) kTrials_from (tb_in (i := 10) (j := 8) rfl rfl) (by decide) (by decide) rfl rfl rfl rfl rfl rfl rfl dX9_findQuietRing_7 ?_
  refine r_pop dX9_findQuietRing_10 rfl ?_
  refine r_aload_n 2 dX9_findQuietRing_11 rfl ?_
  refine gTrials_order 0 rfl (tb_in (i := 9) (j := 26) rfl rfl) dX9_findQuietRing_12 ?_
  refine r_aload_n 3 dX9_findQuietRing_15 rfl ?_
  refine gFair_stallsN 4 rfl (List.mem_of_getElem? (i := 16) rfl) dX9_findQuietRing_16 ?_
  obtain ⟨q2, h2, h⟩ := bd_some h
  refine b_callVN (isC := [2]) (ci := 3)  (st := []) (bs1 := [bTrialsG K (a0 0) ((a0 1) 0) ((a0 2) 0) ((a0 3) 0) g0, bFairG K (a0 1) q1, bOrderG K (a0 2) q2, bOrderG K (a0 3) g3, bFairG K a1 g4]) (cOrder_begin (a0 := (a0 2)) (z0_who := g2.1) (z0_size := g2.2) h2) rfl rfl (Nat.le_of_ble_eq_true rfl) kOrder_begin (List.mem_of_getElem? (i := 55) rfl) (by decide) (by decide) rfl rfl rfl rfl rfl rfl rfl dX9_findQuietRing_19 ?_
  refine r_iconst (x := (0 : Int32)) dX9_findQuietRing_22 (by decide) ?_
  refine r_istore (lv' := [(4, .int (0 : Int32)), (3, .int (1 : Int32)), (2, .int (7 : Int32)), (0, .ref ((a0 0) 0)), (1, .ref (a1 0))]) dX9_findQuietRing_23 (Nat.le_of_ble_eq_true rfl) rfl ?_
  refine r_sub (lv' := [(0, .ref ((a0 0) 0)), (2, .int (7 : Int32)), (3, .int (1 : Int32)), (4, .int (0 : Int32))]) [3, 2, 1, 0] rfl ?_
  exact cTrials_findQuietRing_l25 (g4 := g4)  FU (7 : Int32) (1 : Int32) (0 : Int32) q1 q2 g3 h
end
theorem dX9_findFairPrice_0 : decode cX9_findFairPrice 0 = .ok (.aload_n 0, 1) := by decide +kernel
theorem dX9_findFairPrice_1 : decode cX9_findFairPrice 1 = .ok (.iconst 0, 1) := by decide +kernel
theorem dX9_findFairPrice_2 : decode cX9_findFairPrice 2 = .ok (.iconst (-1), 1) := by decide +kernel
theorem dX9_findFairPrice_3 : decode cX9_findFairPrice 3 = .ok (.iconst 0, 1) := by decide +kernel
theorem dX9_findFairPrice_4 : decode cX9_findFairPrice 4 = .ok (.invokevirtual 92, 3) := by decide +kernel
theorem dX9_findFairPrice_7 : decode cX9_findFairPrice 7 = .ok (.iconst 1, 1) := by decide +kernel
theorem dX9_findFairPrice_8 : decode cX9_findFairPrice 8 = .ok (.istore 5, 2) := by decide +kernel
theorem dX9_findFairPrice_10 : decode cX9_findFairPrice 10 = .ok (.iload 5, 2) := by decide +kernel
theorem dX9_findFairPrice_12 : decode cX9_findFairPrice 12 = .ok (.bipush 40, 2) := by decide +kernel
theorem dX9_findFairPrice_14 : decode cX9_findFairPrice 14 = .ok (.if_icmp .gt 67, 3) := by decide +kernel
theorem dX9_findFairPrice_17 : decode cX9_findFairPrice 17 = .ok (.aload_n 0, 1) := by decide +kernel
theorem dX9_findFairPrice_18 : decode cX9_findFairPrice 18 = .ok (.aload_n 1, 1) := by decide +kernel
theorem dX9_findFairPrice_19 : decode cX9_findFairPrice 19 = .ok (.invokevirtual 66, 3) := by decide +kernel
theorem dX9_findFairPrice_22 : decode cX9_findFairPrice 22 = .ok (.getfield 96, 3) := by decide +kernel
theorem dX9_findFairPrice_25 : decode cX9_findFairPrice 25 = .ok (.iload_n 3, 1) := by decide +kernel
theorem dX9_findFairPrice_26 : decode cX9_findFairPrice 26 = .ok (.iload 5, 2) := by decide +kernel
theorem dX9_findFairPrice_28 : decode cX9_findFairPrice 28 = .ok (.iastore, 1) := by decide +kernel
theorem dX9_findFairPrice_29 : decode cX9_findFairPrice 29 = .ok (.aload_n 0, 1) := by decide +kernel
theorem dX9_findFairPrice_30 : decode cX9_findFairPrice 30 = .ok (.getfield 12, 3) := by decide +kernel
theorem dX9_findFairPrice_33 : decode cX9_findFairPrice 33 = .ok (.aload_n 2, 1) := by decide +kernel
theorem dX9_findFairPrice_34 : decode cX9_findFairPrice 34 = .ok (.iload 4, 2) := by decide +kernel
theorem dX9_findFairPrice_36 : decode cX9_findFairPrice 36 = .ok (.iconst (-1), 1) := by decide +kernel
theorem dX9_findFairPrice_37 : decode cX9_findFairPrice 37 = .ok (.invokevirtual 74, 3) := by decide +kernel
theorem dX9_findFairPrice_40 : decode cX9_findFairPrice 40 = .ok (.pop, 1) := by decide +kernel
theorem dX9_findFairPrice_41 : decode cX9_findFairPrice 41 = .ok (.aload_n 0, 1) := by decide +kernel
theorem dX9_findFairPrice_42 : decode cX9_findFairPrice 42 = .ok (.getfield 12, 3) := by decide +kernel
theorem dX9_findFairPrice_45 : decode cX9_findFairPrice 45 = .ok (.getfield 99, 3) := by decide +kernel
theorem dX9_findFairPrice_48 : decode cX9_findFairPrice 48 = .ok (.iload_n 3, 1) := by decide +kernel
theorem dX9_findFairPrice_49 : decode cX9_findFairPrice 49 = .ok (.iaload, 1) := by decide +kernel
theorem dX9_findFairPrice_50 : decode cX9_findFairPrice 50 = .ok (.aload_n 0, 1) := by decide +kernel
theorem dX9_findFairPrice_51 : decode cX9_findFairPrice 51 = .ok (.getfield 28, 3) := by decide +kernel
theorem dX9_findFairPrice_54 : decode cX9_findFairPrice 54 = .ok (.iconst 1, 1) := by decide +kernel
theorem dX9_findFairPrice_55 : decode cX9_findFairPrice 55 = .ok (.iaload, 1) := by decide +kernel
theorem dX9_findFairPrice_56 : decode cX9_findFairPrice 56 = .ok (.if_icmp .le 19, 3) := by decide +kernel
theorem dX9_findFairPrice_59 : decode cX9_findFairPrice 59 = .ok (.aload_n 0, 1) := by decide +kernel
theorem dX9_findFairPrice_60 : decode cX9_findFairPrice 60 = .ok (.iload 5, 2) := by decide +kernel
theorem dX9_findFairPrice_62 : decode cX9_findFairPrice 62 = .ok (.aload_n 0, 1) := by decide +kernel
theorem dX9_findFairPrice_63 : decode cX9_findFairPrice 63 = .ok (.getfield 12, 3) := by decide +kernel
theorem dX9_findFairPrice_66 : decode cX9_findFairPrice 66 = .ok (.getfield 99, 3) := by decide +kernel
theorem dX9_findFairPrice_69 : decode cX9_findFairPrice 69 = .ok (.iload_n 3, 1) := by decide +kernel
theorem dX9_findFairPrice_70 : decode cX9_findFairPrice 70 = .ok (.iaload, 1) := by decide +kernel
theorem dX9_findFairPrice_71 : decode cX9_findFairPrice 71 = .ok (.iconst 0, 1) := by decide +kernel
theorem dX9_findFairPrice_72 : decode cX9_findFairPrice 72 = .ok (.invokevirtual 92, 3) := by decide +kernel
theorem dX9_findFairPrice_75 : decode cX9_findFairPrice 75 = .ok (.iinc 5 1, 3) := by decide +kernel
theorem dX9_findFairPrice_78 : decode cX9_findFairPrice 78 = .ok (.goto (-68), 3) := by decide +kernel
theorem dX9_findFairPrice_81 : decode cX9_findFairPrice 81 = .ok (.return_, 1) := by decide +kernel
abbrev MTrials_findFairPricerr : rx_M := (RX9, yX9_findFairPrice, cX9_findFairPrice, 6, none, 6)
theorem kTrials_findFairPricerr : rKv MTrials_findFairPricerr 4 := ⟨tb_in (i := 15) (j := 9) rfl rfl, tb_in (i := 15) (j := 10) rfl rfl, tb_in (i := 10) (j := 11) rfl rfl, tb_in (i := 10) (j := 23) rfl rfl, ⟨by decide, by decide, by decide +kernel⟩, by decide⟩
section
variable {a0 : Nat → Nat → Nat} {a1 : Nat → Nat} {a2 : Nat → Nat} {g0 : tyTrials} {g1 : tyFair} {g2 : tyOrder} {g3 : tyOrder} {g4 : tyFair} {g5 : tyRule}
def mTrials_findFairPricerr_l10 (g4 : tyFair) (x3 : Int32) (x4 : Int32) : Nat → Int32 → tyTrials → tyFair → tyRule → Option (tyTrials × tyFair × tyRule)
  | 0, _, _, _, _ => none
  | n + 1, x5, g0, g1, g5 => (if (40 : Int32) < x5 then some (g0, g1, g5) else (mTrials_from g1 g4).bind (fun q3 => rq (inb x3 6) (lt (upd q3.2.2.2.2.2.2.1 x3.toNatClampNeg x5) (fun u4 => (mFair_gor x4 (-1 : Int32) q3.1 q3.2.1 q3.2.2.1 q3.2.2.2.1 q3.2.2.2.2.1 q3.2.2.2.2.2.1 u4 q3.2.2.2.2.2.2.2.2.1 q3.2.2.2.2.2.2.2.2.2.1 q3.2.2.2.2.2.2.2.2.2.2.1 q3.2.2.2.2.2.2.2.2.2.2.2.2.2.1 q3.2.2.2.2.2.2.2.2.2.2.2.2.2.2.1 q3.2.2.2.2.2.2.2.2.2.2.2.2.2.2.2.1 q3.2.2.2.2.2.2.2.2.2.2.2.2.2.2.2.2.1 q3.2.2.2.2.2.2.2.2.2.2.2.2.2.2.2.2.2.1 q3.2.2.2.2.2.2.2.2.2.2.2.2.2.2.2.2.2.2 g5.1 g5.2.1 g5.2.2.1 g5.2.2.2.1 g5.2.2.2.2.1 g5.2.2.2.2.2.1 g5.2.2.2.2.2.2.2.1 g5.2.2.2.2.2.2.2.2.1 g5.2.2.2.2.2.2.2.2.2).bind (fun q5 => rq (inb x3 6) (rq (inb (1 : Int32) 3) ((if (q5.2.2.2.2.1 x3.toNatClampNeg) ≤ (g0.1 (1 : Int32).toNatClampNeg) then mTrials_findFairPricerr_l10 g4 x3 x4 n (x5 + (1 : Int32)) g0 (q3.1, q3.2.1, q3.2.2.1, q3.2.2.2.1, q5.2.1, q5.2.2.1, u4, q3.2.2.2.2.2.2.2.1, q5.2.2.2.1, q5.2.2.2.2.1, q5.2.2.2.2.2.1, q3.2.2.2.2.2.2.2.2.2.2.2.1, q3.2.2.2.2.2.2.2.2.2.2.2.2.1, q5.2.2.2.2.2.2.1, q3.2.2.2.2.2.2.2.2.2.2.2.2.2.2.1, q5.2.2.2.2.2.2.2.1, q3.2.2.2.2.2.2.2.2.2.2.2.2.2.2.2.2.1, q3.2.2.2.2.2.2.2.2.2.2.2.2.2.2.2.2.2.1, q3.2.2.2.2.2.2.2.2.2.2.2.2.2.2.2.2.2.2) (g5.1, g5.2.1, g5.2.2.1, g5.2.2.2.1, g5.2.2.2.2.1, g5.2.2.2.2.2.1, g5.2.2.2.2.2.2.1, g5.2.2.2.2.2.2.2.1, q5.2.2.2.2.2.2.2.2.1, q5.2.2.2.2.2.2.2.2.2) else rq (inb x3 6) ((mTrials_find x5 (q5.2.2.2.2.1 x3.toNatClampNeg) (0 : Int32) g0).bind (fun q10 => mTrials_findFairPricerr_l10 g4 x3 x4 n (x5 + (1 : Int32)) q10 (q3.1, q3.2.1, q3.2.2.1, q3.2.2.2.1, q5.2.1, q5.2.2.1, u4, q3.2.2.2.2.2.2.2.1, q5.2.2.2.1, q5.2.2.2.2.1, q5.2.2.2.2.2.1, q3.2.2.2.2.2.2.2.2.2.2.2.1, q3.2.2.2.2.2.2.2.2.2.2.2.2.1, q5.2.2.2.2.2.2.1, q3.2.2.2.2.2.2.2.2.2.2.2.2.2.2.1, q5.2.2.2.2.2.2.2.1, q3.2.2.2.2.2.2.2.2.2.2.2.2.2.2.2.2.1, q3.2.2.2.2.2.2.2.2.2.2.2.2.2.2.2.2.2.1, q3.2.2.2.2.2.2.2.2.2.2.2.2.2.2.2.2.2.2) (g5.1, g5.2.1, g5.2.2.1, g5.2.2.2.1, g5.2.2.2.2.1, g5.2.2.2.2.2.1, g5.2.2.2.2.2.2.1, g5.2.2.2.2.2.2.2.1, q5.2.2.2.2.2.2.2.2.1, q5.2.2.2.2.2.2.2.2.2)))))))))))
set_option maxHeartbeats 4000000 in
set_option maxRecDepth 20000 in
theorem cTrials_findFairPricerr_l10 {q : tyTrials × tyFair × tyRule} {x3 : Int32} {x4 : Int32}  : ∀ (n : Nat) (x5 : Int32) (g0 : tyTrials) (g1 : tyFair) (g5 : tyRule), mTrials_findFairPricerr_l10 g4 x3 x4 n x5 g0 g1 g5 = some q → rW l D Z (ty7 K) MTrials_findFairPricerr 10 [(0, .ref ((a0 0) 0)), (1, .ref (a1 0)), (2, .ref (a2 0)), (3, .int x3), (4, .int x4), (5, .int x5)] [] (List.flatten [bTrialsG K (a0 0) ((a0 1) 0) ((a0 2) 0) ((a0 3) 0) g0, bFairG K (a0 1) g1, bOrderG K (a0 2) g2, bOrderG K (a0 3) g3, bFairG K a1 g4, bRuleG K a2 g5]) (List.flatten [bTrialsG K (a0 0) ((a0 1) 0) ((a0 2) 0) ((a0 3) 0) q.1, bFairG K (a0 1) q.2.1, bOrderG K (a0 2) g2, bOrderG K (a0 3) g3, bFairG K a1 g4, bRuleG K a2 q.2.2]) none := by
  intro n
  induction n with
  | zero => intro x5 g0 g1 g5 h; unfold mTrials_findFairPricerr_l10 at h; cases h
  | succ n ih =>
    intro x5 g0 g1 g5 h
    unfold mTrials_findFairPricerr_l10 at h
    refine r_iload 5 dX9_findFairPrice_10 rfl ?_
    refine r_bipush (x := (40 : Int32)) dX9_findFairPrice_12 (by decide) ?_
    refine r_icmp_gt 81 dX9_findFairPrice_14 (by decide) (fun c2 => ?_) (fun c2 => ?_)
    · replace h := it_pos c2 h
      have hq := Option.some.inj h
      subst hq
      exact r_vret rfl dX9_findFairPrice_81
    · replace h := it_neg c2 h
      refine r_aload_n 0 dX9_findFairPrice_17 rfl ?_
      refine r_aload_n 1 dX9_findFairPrice_18 rfl ?_
      obtain ⟨q3, h3, h⟩ := bd_some h
      refine b_callV (isC := [0, 1, 2, 3, 4]) (ci := 7)  (st := []) (bs1 := [bTrialsG K (a0 0) ((a0 1) 0) ((a0 2) 0) ((a0 3) 0) g0, bFairG K (a0 1) q3, bOrderG K (a0 2) g2, bOrderG K (a0 3) g3, bFairG K a1 g4, bRuleG K a2 g5]) (cTrials_from (a0 := a0) (a1 := a1) (g0 := g0) (g1 := g1) (g2 := g2) (g3 := g3) (g4 := g4) h3) rfl rfl (Nat.le_of_ble_eq_true rfl) kTrials_from (tb_in (i := 10) (j := 8) rfl rfl) (by decide) (by decide) rfl rfl rfl rfl rfl rfl rfl dX9_findFairPrice_19 ?_
      refine gFair_priceN 1 rfl (List.mem_of_getElem? (i := 27) rfl) dX9_findFairPrice_22 ?_
      refine r_iload_n 3 dX9_findFairPrice_25 rfl ?_
      refine r_iload 5 dX9_findFairPrice_26 rfl ?_
      obtain ⟨h4, h⟩ := rq_some h
      obtain ⟨u4, e4, h⟩ := lt_some h
      refine sFair_price (bs1 := [bTrialsG K (a0 0) ((a0 1) 0) ((a0 2) 0) ((a0 3) 0) g0, bFair K (a0 1) q3.1 q3.2.1 q3.2.2.1 q3.2.2.2.1 q3.2.2.2.2.1 q3.2.2.2.2.2.1 u4 q3.2.2.2.2.2.2.2.1 q3.2.2.2.2.2.2.2.2.1 q3.2.2.2.2.2.2.2.2.2.1 q3.2.2.2.2.2.2.2.2.2.2.1 q3.2.2.2.2.2.2.2.2.2.2.2.1 q3.2.2.2.2.2.2.2.2.2.2.2.2.1 q3.2.2.2.2.2.2.2.2.2.2.2.2.2.1 q3.2.2.2.2.2.2.2.2.2.2.2.2.2.2.1 q3.2.2.2.2.2.2.2.2.2.2.2.2.2.2.2.1 q3.2.2.2.2.2.2.2.2.2.2.2.2.2.2.2.2.1 q3.2.2.2.2.2.2.2.2.2.2.2.2.2.2.2.2.2.1 q3.2.2.2.2.2.2.2.2.2.2.2.2.2.2.2.2.2.2, bOrderG K (a0 2) g2, bOrderG K (a0 3) g3, bFairG K a1 g4, bRuleG K a2 g5]) 1 e4 rfl (inb_in h4) rfl dX9_findFairPrice_28 ?_
      refine r_aload_n 0 dX9_findFairPrice_29 rfl ?_
      refine gTrials_fair 0 rfl (tb_in (i := 9) (j := 23) rfl rfl) dX9_findFairPrice_30 ?_
      refine r_aload_n 2 dX9_findFairPrice_33 rfl ?_
      refine r_iload 4 dX9_findFairPrice_34 rfl ?_
      refine r_iconst (x := (-1 : Int32)) dX9_findFairPrice_36 (by decide) ?_
      obtain ⟨q5, h5, h⟩ := bd_some h
      refine b_callVN (isC := [1, 5]) (ci := 1)  (st := []) (bs1 := [bTrialsG K (a0 0) ((a0 1) 0) ((a0 2) 0) ((a0 3) 0) g0, bFair K (a0 1) q3.1 q3.2.1 q3.2.2.1 q3.2.2.2.1 q5.2.1 q5.2.2.1 u4 q3.2.2.2.2.2.2.2.1 q5.2.2.2.1 q5.2.2.2.2.1 q5.2.2.2.2.2.1 q3.2.2.2.2.2.2.2.2.2.2.2.1 q3.2.2.2.2.2.2.2.2.2.2.2.2.1 q5.2.2.2.2.2.2.1 q3.2.2.2.2.2.2.2.2.2.2.2.2.2.2.1 q5.2.2.2.2.2.2.2.1 q3.2.2.2.2.2.2.2.2.2.2.2.2.2.2.2.2.1 q3.2.2.2.2.2.2.2.2.2.2.2.2.2.2.2.2.2.1 q3.2.2.2.2.2.2.2.2.2.2.2.2.2.2.2.2.2.2, bOrderG K (a0 2) g2, bOrderG K (a0 3) g3, bFairG K a1 g4, bRule K a2 g5.1 g5.2.1 g5.2.2.1 g5.2.2.2.1 g5.2.2.2.2.1 g5.2.2.2.2.2.1 g5.2.2.2.2.2.2.1 g5.2.2.2.2.2.2.2.1 q5.2.2.2.2.2.2.2.2.1 q5.2.2.2.2.2.2.2.2.2]) (cFair_gor (a0 := (a0 1)) (a1 := a2) (z0_lasts := q3.1) (z0_keeps := q3.2.1) (z0_stalls := q3.2.2.1) (z0_buyers := q3.2.2.2.1) (z0_minute := q3.2.2.2.2.1) (z0_goods := q3.2.2.2.2.2.1) (z0_price := u4) (z0_tongue := q3.2.2.2.2.2.2.2.1) (z0_till := q3.2.2.2.2.2.2.2.2.1) (z0_wealth := q3.2.2.2.2.2.2.2.2.2.1) (z0_sold := q3.2.2.2.2.2.2.2.2.2.2.1) (z0_ring := q3.2.2.2.2.2.2.2.2.2.2.2.1) (z0_grudges := q3.2.2.2.2.2.2.2.2.2.2.2.2.1) (z0_purse := q3.2.2.2.2.2.2.2.2.2.2.2.2.2.1) (z0_came := q3.2.2.2.2.2.2.2.2.2.2.2.2.2.2.1) (z0_had := q3.2.2.2.2.2.2.2.2.2.2.2.2.2.2.2.1) (z0_seller := q3.2.2.2.2.2.2.2.2.2.2.2.2.2.2.2.2.1) (z0_praise := q3.2.2.2.2.2.2.2.2.2.2.2.2.2.2.2.2.2.1) (z0_borne := q3.2.2.2.2.2.2.2.2.2.2.2.2.2.2.2.2.2.2) (z1_steps := g5.1) (z1_size := g5.2.1) (z1_sumFrom := g5.2.2.1) (z1_testFrom := g5.2.2.2.1) (z1_testTo := g5.2.2.2.2.1) (z1_clauses := g5.2.2.2.2.2.1) (z1_parts := g5.2.2.2.2.2.2.1) (z1_readsTime := g5.2.2.2.2.2.2.2.1) (z1_words := g5.2.2.2.2.2.2.2.2.1) (z1_stack := g5.2.2.2.2.2.2.2.2.2) h5) rfl rfl (Nat.le_of_ble_eq_true rfl) kFair_gor (List.mem_of_getElem? (i := 57) rfl) (by decide) (by decide) rfl rfl rfl rfl rfl rfl rfl dX9_findFairPrice_37 ?_
      refine r_pop dX9_findFairPrice_40 rfl ?_
      refine r_aload_n 0 dX9_findFairPrice_41 rfl ?_
      refine gTrials_fair 0 rfl (tb_in (i := 9) (j := 23) rfl rfl) dX9_findFairPrice_42 ?_
      refine gFair_wealthN 1 rfl (List.mem_of_getElem? (i := 32) rfl) dX9_findFairPrice_45 ?_
      refine r_iload_n 3 dX9_findFairPrice_48 rfl ?_
      obtain ⟨h6, h⟩ := rq_some h
      refine lFair_wealth 1 rfl (inb_in h6) dX9_findFairPrice_49 ?_
      refine r_aload_n 0 dX9_findFairPrice_50 rfl ?_
      refine gTrials_found 0 rfl (tb_in (i := 9) (j := 28) rfl rfl) dX9_findFairPrice_51 ?_
      refine r_iconst (x := (1 : Int32)) dX9_findFairPrice_54 (by decide) ?_
      obtain ⟨h7, h⟩ := rq_some h
      refine lTrials_found 0 rfl (inb_in h7) dX9_findFairPrice_55 ?_
      refine r_icmp_le 75 dX9_findFairPrice_56 (by decide) (fun c8 => ?_) (fun c8 => ?_)
      · replace h := it_pos c8 h
        refine r_iinc (y := (x5 + (1 : Int32))) (lv' := [(5, .int (x5 + (1 : Int32))), (0, .ref ((a0 0) 0)), (1, .ref (a1 0)), (2, .ref (a2 0)), (3, .int x3), (4, .int x4)]) 5 dX9_findFairPrice_75 rfl rfl (Nat.le_of_ble_eq_true rfl) rfl ?_
        refine r_goto 10 dX9_findFairPrice_78 (by decide) ?_
        refine r_sub (lv' := [(0, .ref ((a0 0) 0)), (1, .ref (a1 0)), (2, .ref (a2 0)), (3, .int x3), (4, .int x4), (5, .int (x5 + (1 : Int32)))]) [1, 2, 3, 4, 5, 0] rfl ?_
        exact ih (x5 + (1 : Int32)) g0 (q3.1, q3.2.1, q3.2.2.1, q3.2.2.2.1, q5.2.1, q5.2.2.1, u4, q3.2.2.2.2.2.2.2.1, q5.2.2.2.1, q5.2.2.2.2.1, q5.2.2.2.2.2.1, q3.2.2.2.2.2.2.2.2.2.2.2.1, q3.2.2.2.2.2.2.2.2.2.2.2.2.1, q5.2.2.2.2.2.2.1, q3.2.2.2.2.2.2.2.2.2.2.2.2.2.2.1, q5.2.2.2.2.2.2.2.1, q3.2.2.2.2.2.2.2.2.2.2.2.2.2.2.2.2.1, q3.2.2.2.2.2.2.2.2.2.2.2.2.2.2.2.2.2.1, q3.2.2.2.2.2.2.2.2.2.2.2.2.2.2.2.2.2.2) (g5.1, g5.2.1, g5.2.2.1, g5.2.2.2.1, g5.2.2.2.2.1, g5.2.2.2.2.2.1, g5.2.2.2.2.2.2.1, g5.2.2.2.2.2.2.2.1, q5.2.2.2.2.2.2.2.2.1, q5.2.2.2.2.2.2.2.2.2) h
      · replace h := it_neg c8 h
        refine r_aload_n 0 dX9_findFairPrice_59 rfl ?_
        refine r_iload 5 dX9_findFairPrice_60 rfl ?_
        refine r_aload_n 0 dX9_findFairPrice_62 rfl ?_
        refine gTrials_fair 0 rfl (tb_in (i := 9) (j := 23) rfl rfl) dX9_findFairPrice_63 ?_
        refine gFair_wealthN 1 rfl (List.mem_of_getElem? (i := 32) rfl) dX9_findFairPrice_66 ?_
        refine r_iload_n 3 dX9_findFairPrice_69 rfl ?_
        obtain ⟨h9, h⟩ := rq_some h
        refine lFair_wealth 1 rfl (inb_in h9) dX9_findFairPrice_70 ?_
        refine r_iconst (x := (0 : Int32)) dX9_findFairPrice_71 (by decide) ?_
        obtain ⟨q10, h10, h⟩ := bd_some h
        refine b_callV (isC := [0, 1, 2, 3]) (ci := 7)  (st := []) (bs1 := [bTrialsG K (a0 0) ((a0 1) 0) ((a0 2) 0) ((a0 3) 0) q10, bFair K (a0 1) q3.1 q3.2.1 q3.2.2.1 q3.2.2.2.1 q5.2.1 q5.2.2.1 u4 q3.2.2.2.2.2.2.2.1 q5.2.2.2.1 q5.2.2.2.2.1 q5.2.2.2.2.2.1 q3.2.2.2.2.2.2.2.2.2.2.2.1 q3.2.2.2.2.2.2.2.2.2.2.2.2.1 q5.2.2.2.2.2.2.1 q3.2.2.2.2.2.2.2.2.2.2.2.2.2.2.1 q5.2.2.2.2.2.2.2.1 q3.2.2.2.2.2.2.2.2.2.2.2.2.2.2.2.2.1 q3.2.2.2.2.2.2.2.2.2.2.2.2.2.2.2.2.2.1 q3.2.2.2.2.2.2.2.2.2.2.2.2.2.2.2.2.2.2, bOrderG K (a0 2) g2, bOrderG K (a0 3) g3, bFairG K a1 g4, bRule K a2 g5.1 g5.2.1 g5.2.2.1 g5.2.2.2.1 g5.2.2.2.2.1 g5.2.2.2.2.2.1 g5.2.2.2.2.2.2.1 g5.2.2.2.2.2.2.2.1 q5.2.2.2.2.2.2.2.2.1 q5.2.2.2.2.2.2.2.2.2]) (cTrials_find (a0 := a0) (g0 := g0) (g1 := (q3.1, q3.2.1, q3.2.2.1, q3.2.2.2.1, q5.2.1, q5.2.2.1, u4, q3.2.2.2.2.2.2.2.1, q5.2.2.2.1, q5.2.2.2.2.1, q5.2.2.2.2.2.1, q3.2.2.2.2.2.2.2.2.2.2.2.1, q3.2.2.2.2.2.2.2.2.2.2.2.2.1, q5.2.2.2.2.2.2.1, q3.2.2.2.2.2.2.2.2.2.2.2.2.2.2.1, q5.2.2.2.2.2.2.2.1, q3.2.2.2.2.2.2.2.2.2.2.2.2.2.2.2.2.1, q3.2.2.2.2.2.2.2.2.2.2.2.2.2.2.2.2.2.1, q3.2.2.2.2.2.2.2.2.2.2.2.2.2.2.2.2.2.2)) (g2 := g2) (g3 := g3) h10) rfl rfl (Nat.le_of_ble_eq_true rfl) kTrials_find (tb_in (i := 10) (j := 20) rfl rfl) (by decide) (by decide) rfl rfl rfl rfl rfl rfl rfl dX9_findFairPrice_72 ?_
        refine r_iinc (y := (x5 + (1 : Int32))) (lv' := [(5, .int (x5 + (1 : Int32))), (0, .ref ((a0 0) 0)), (1, .ref (a1 0)), (2, .ref (a2 0)), (3, .int x3), (4, .int x4)]) 5 dX9_findFairPrice_75 rfl rfl (Nat.le_of_ble_eq_true rfl) rfl ?_
        refine r_goto 10 dX9_findFairPrice_78 (by decide) ?_
        refine r_sub (lv' := [(0, .ref ((a0 0) 0)), (1, .ref (a1 0)), (2, .ref (a2 0)), (3, .int x3), (4, .int x4), (5, .int (x5 + (1 : Int32)))]) [1, 2, 3, 4, 5, 0] rfl ?_
        exact ih (x5 + (1 : Int32)) q10 (q3.1, q3.2.1, q3.2.2.1, q3.2.2.2.1, q5.2.1, q5.2.2.1, u4, q3.2.2.2.2.2.2.2.1, q5.2.2.2.1, q5.2.2.2.2.1, q5.2.2.2.2.2.1, q3.2.2.2.2.2.2.2.2.2.2.2.1, q3.2.2.2.2.2.2.2.2.2.2.2.2.1, q5.2.2.2.2.2.2.1, q3.2.2.2.2.2.2.2.2.2.2.2.2.2.2.1, q5.2.2.2.2.2.2.2.1, q3.2.2.2.2.2.2.2.2.2.2.2.2.2.2.2.2.1, q3.2.2.2.2.2.2.2.2.2.2.2.2.2.2.2.2.2.1, q3.2.2.2.2.2.2.2.2.2.2.2.2.2.2.2.2.2.2) (g5.1, g5.2.1, g5.2.2.1, g5.2.2.2.1, g5.2.2.2.2.1, g5.2.2.2.2.2.1, g5.2.2.2.2.2.2.1, g5.2.2.2.2.2.2.2.1, q5.2.2.2.2.2.2.2.2.1, q5.2.2.2.2.2.2.2.2.2) h
def mTrials_findFairPricerr (x3 : Int32) (x4 : Int32) (g0 : tyTrials) (g1 : tyFair) (g4 : tyFair) (g5 : tyRule) : Option (tyTrials × tyFair × tyRule) := (mTrials_find (0 : Int32) (-1 : Int32) (0 : Int32) g0).bind (fun q1 => mTrials_findFairPricerr_l10 g4 x3 x4 FU (1 : Int32) q1 g1 g5)
set_option maxHeartbeats 4000000 in
set_option maxRecDepth 20000 in
theorem cTrials_findFairPricerr {q : tyTrials × tyFair × tyRule} {x3 : Int32} {x4 : Int32} (h : mTrials_findFairPricerr x3 x4 g0 g1 g4 g5 = some q) : rMet l D Z (ty7 K) MTrials_findFairPricerr [.ref ((a0 0) 0), .ref (a1 0), .ref (a2 0), .int x3, .int x4] (List.flatten [bTrialsG K (a0 0) ((a0 1) 0) ((a0 2) 0) ((a0 3) 0) g0, bFairG K (a0 1) g1, bOrderG K (a0 2) g2, bOrderG K (a0 3) g3, bFairG K a1 g4, bRuleG K a2 g5]) (List.flatten [bTrialsG K (a0 0) ((a0 1) 0) ((a0 2) 0) ((a0 3) 0) q.1, bFairG K (a0 1) q.2.1, bOrderG K (a0 2) g2, bOrderG K (a0 3) g3, bFairG K a1 g4, bRuleG K a2 q.2.2]) none := by
  refine rMet.of (by decide) rfl (Nat.le_of_ble_eq_true rfl) ?_
  refine r_sub (lv' := [(0, .ref ((a0 0) 0)), (1, .ref (a1 0)), (2, .ref (a2 0)), (3, .int x3), (4, .int x4)]) [0, 1, 2, 3, 4] rfl ?_
  unfold mTrials_findFairPricerr at h
  refine r_aload_n 0 dX9_findFairPrice_0 rfl ?_
  refine r_iconst (x := (0 : Int32)) dX9_findFairPrice_1 (by decide) ?_
  refine r_iconst (x := (-1 : Int32)) dX9_findFairPrice_2 (by decide) ?_
  refine r_iconst (x := (0 : Int32)) dX9_findFairPrice_3 (by decide) ?_
  obtain ⟨q1, h1, h⟩ := bd_some h
  refine b_callV (isC := [0, 1, 2, 3]) (ci := 7)  (st := []) (bs1 := [bTrialsG K (a0 0) ((a0 1) 0) ((a0 2) 0) ((a0 3) 0) q1, bFairG K (a0 1) g1, bOrderG K (a0 2) g2, bOrderG K (a0 3) g3, bFairG K a1 g4, bRuleG K a2 g5]) (cTrials_find (a0 := a0) (g0 := g0) (g1 := g1) (g2 := g2) (g3 := g3) h1) rfl rfl (Nat.le_of_ble_eq_true rfl) kTrials_find (tb_in (i := 10) (j := 20) rfl rfl) (by decide) (by decide) rfl rfl rfl rfl rfl rfl rfl dX9_findFairPrice_4 ?_
  refine r_iconst (x := (1 : Int32)) dX9_findFairPrice_7 (by decide) ?_
  refine r_istore (lv' := [(5, .int (1 : Int32)), (0, .ref ((a0 0) 0)), (1, .ref (a1 0)), (2, .ref (a2 0)), (3, .int x3), (4, .int x4)]) dX9_findFairPrice_8 (Nat.le_of_ble_eq_true rfl) rfl ?_
  refine r_sub (lv' := [(0, .ref ((a0 0) 0)), (1, .ref (a1 0)), (2, .ref (a2 0)), (3, .int x3), (4, .int x4), (5, .int (1 : Int32))]) [1, 2, 3, 4, 5, 0] rfl ?_
  exact cTrials_findFairPricerr_l10 (g4 := g4)  FU (1 : Int32) q1 g1 g5 h
end
abbrev MTrials_findFairPricern : rx_M := (RX9, yX9_findFairPrice, cX9_findFairPrice, 6, none, 6)
theorem kTrials_findFairPricern : rKv MTrials_findFairPricern 4 := ⟨tb_in (i := 15) (j := 9) rfl rfl, tb_in (i := 15) (j := 10) rfl rfl, tb_in (i := 10) (j := 11) rfl rfl, tb_in (i := 10) (j := 23) rfl rfl, ⟨by decide, by decide, by decide +kernel⟩, by decide⟩
section
variable {a0 : Nat → Nat → Nat} {a1 : Nat → Nat} {g0 : tyTrials} {g1 : tyFair} {g2 : tyOrder} {g3 : tyOrder} {g4 : tyFair}
def mTrials_findFairPricern_l10 (g4 : tyFair) (x3 : Int32) (x4 : Int32) : Nat → Int32 → tyTrials → tyFair → Option (tyTrials × tyFair)
  | 0, _, _, _ => none
  | n + 1, x5, g0, g1 => (if (40 : Int32) < x5 then some (g0, g1) else (mTrials_from g1 g4).bind (fun q3 => rq (inb x3 6) (lt (upd q3.2.2.2.2.2.2.1 x3.toNatClampNeg x5) (fun u4 => (mFair_gon x4 (-1 : Int32) q3.1 q3.2.1 q3.2.2.1 q3.2.2.2.1 q3.2.2.2.2.1 q3.2.2.2.2.2.1 u4 q3.2.2.2.2.2.2.2.2.1 q3.2.2.2.2.2.2.2.2.2.1 q3.2.2.2.2.2.2.2.2.2.2.1 q3.2.2.2.2.2.2.2.2.2.2.2.2.2.1 q3.2.2.2.2.2.2.2.2.2.2.2.2.2.2.1 q3.2.2.2.2.2.2.2.2.2.2.2.2.2.2.2.1 q3.2.2.2.2.2.2.2.2.2.2.2.2.2.2.2.2.1 q3.2.2.2.2.2.2.2.2.2.2.2.2.2.2.2.2.2.1).bind (fun q5 => rq (inb x3 6) (rq (inb (1 : Int32) 3) ((if (q5.2.2.2.2.1 x3.toNatClampNeg) ≤ (g0.1 (1 : Int32).toNatClampNeg) then mTrials_findFairPricern_l10 g4 x3 x4 n (x5 + (1 : Int32)) g0 (q3.1, q3.2.1, q3.2.2.1, q3.2.2.2.1, q5.2.1, q5.2.2.1, u4, q3.2.2.2.2.2.2.2.1, q5.2.2.2.1, q5.2.2.2.2.1, q5.2.2.2.2.2.1, q3.2.2.2.2.2.2.2.2.2.2.2.1, q3.2.2.2.2.2.2.2.2.2.2.2.2.1, q5.2.2.2.2.2.2.1, q3.2.2.2.2.2.2.2.2.2.2.2.2.2.2.1, q5.2.2.2.2.2.2.2, q3.2.2.2.2.2.2.2.2.2.2.2.2.2.2.2.2.1, q3.2.2.2.2.2.2.2.2.2.2.2.2.2.2.2.2.2.1, q3.2.2.2.2.2.2.2.2.2.2.2.2.2.2.2.2.2.2) else rq (inb x3 6) ((mTrials_find x5 (q5.2.2.2.2.1 x3.toNatClampNeg) (0 : Int32) g0).bind (fun q10 => mTrials_findFairPricern_l10 g4 x3 x4 n (x5 + (1 : Int32)) q10 (q3.1, q3.2.1, q3.2.2.1, q3.2.2.2.1, q5.2.1, q5.2.2.1, u4, q3.2.2.2.2.2.2.2.1, q5.2.2.2.1, q5.2.2.2.2.1, q5.2.2.2.2.2.1, q3.2.2.2.2.2.2.2.2.2.2.2.1, q3.2.2.2.2.2.2.2.2.2.2.2.2.1, q5.2.2.2.2.2.2.1, q3.2.2.2.2.2.2.2.2.2.2.2.2.2.2.1, q5.2.2.2.2.2.2.2, q3.2.2.2.2.2.2.2.2.2.2.2.2.2.2.2.2.1, q3.2.2.2.2.2.2.2.2.2.2.2.2.2.2.2.2.2.1, q3.2.2.2.2.2.2.2.2.2.2.2.2.2.2.2.2.2.2)))))))))))
set_option maxHeartbeats 4000000 in
set_option maxRecDepth 20000 in
theorem cTrials_findFairPricern_l10 {q : tyTrials × tyFair} {x3 : Int32} {x4 : Int32}  : ∀ (n : Nat) (x5 : Int32) (g0 : tyTrials) (g1 : tyFair), mTrials_findFairPricern_l10 g4 x3 x4 n x5 g0 g1 = some q → rW l D Z (ty7 K) MTrials_findFairPricern 10 [(0, .ref ((a0 0) 0)), (1, .ref (a1 0)), (2, .null), (3, .int x3), (4, .int x4), (5, .int x5)] [] (List.flatten [bTrialsG K (a0 0) ((a0 1) 0) ((a0 2) 0) ((a0 3) 0) g0, bFairG K (a0 1) g1, bOrderG K (a0 2) g2, bOrderG K (a0 3) g3, bFairG K a1 g4]) (List.flatten [bTrialsG K (a0 0) ((a0 1) 0) ((a0 2) 0) ((a0 3) 0) q.1, bFairG K (a0 1) q.2, bOrderG K (a0 2) g2, bOrderG K (a0 3) g3, bFairG K a1 g4]) none := by
  intro n
  induction n with
  | zero => intro x5 g0 g1 h; unfold mTrials_findFairPricern_l10 at h; cases h
  | succ n ih =>
    intro x5 g0 g1 h
    unfold mTrials_findFairPricern_l10 at h
    refine r_iload 5 dX9_findFairPrice_10 rfl ?_
    refine r_bipush (x := (40 : Int32)) dX9_findFairPrice_12 (by decide) ?_
    refine r_icmp_gt 81 dX9_findFairPrice_14 (by decide) (fun c2 => ?_) (fun c2 => ?_)
    · replace h := it_pos c2 h
      have hq := Option.some.inj h
      subst hq
      exact r_vret rfl dX9_findFairPrice_81
    · replace h := it_neg c2 h
      refine r_aload_n 0 dX9_findFairPrice_17 rfl ?_
      refine r_aload_n 1 dX9_findFairPrice_18 rfl ?_
      obtain ⟨q3, h3, h⟩ := bd_some h
      refine b_callV (isC := [0, 1, 2, 3, 4]) (ci := 7)  (st := []) (bs1 := [bTrialsG K (a0 0) ((a0 1) 0) ((a0 2) 0) ((a0 3) 0) g0, bFairG K (a0 1) q3, bOrderG K (a0 2) g2, bOrderG K (a0 3) g3, bFairG K a1 g4]) (cTrials_from (a0 := a0) (a1 := a1) (g0 := g0) (g1 := g1) (g2 := g2) (g3 := g3) (g4 := g4) h3) rfl rfl (Nat.le_of_ble_eq_true rfl) kTrials_from (tb_in (i := 10) (j := 8) rfl rfl) (by decide) (by decide) rfl rfl rfl rfl rfl rfl rfl dX9_findFairPrice_19 ?_
      refine gFair_priceN 1 rfl (List.mem_of_getElem? (i := 27) rfl) dX9_findFairPrice_22 ?_
      refine r_iload_n 3 dX9_findFairPrice_25 rfl ?_
      refine r_iload 5 dX9_findFairPrice_26 rfl ?_
      obtain ⟨h4, h⟩ := rq_some h
      obtain ⟨u4, e4, h⟩ := lt_some h
      refine sFair_price (bs1 := [bTrialsG K (a0 0) ((a0 1) 0) ((a0 2) 0) ((a0 3) 0) g0, bFair K (a0 1) q3.1 q3.2.1 q3.2.2.1 q3.2.2.2.1 q3.2.2.2.2.1 q3.2.2.2.2.2.1 u4 q3.2.2.2.2.2.2.2.1 q3.2.2.2.2.2.2.2.2.1 q3.2.2.2.2.2.2.2.2.2.1 q3.2.2.2.2.2.2.2.2.2.2.1 q3.2.2.2.2.2.2.2.2.2.2.2.1 q3.2.2.2.2.2.2.2.2.2.2.2.2.1 q3.2.2.2.2.2.2.2.2.2.2.2.2.2.1 q3.2.2.2.2.2.2.2.2.2.2.2.2.2.2.1 q3.2.2.2.2.2.2.2.2.2.2.2.2.2.2.2.1 q3.2.2.2.2.2.2.2.2.2.2.2.2.2.2.2.2.1 q3.2.2.2.2.2.2.2.2.2.2.2.2.2.2.2.2.2.1 q3.2.2.2.2.2.2.2.2.2.2.2.2.2.2.2.2.2.2, bOrderG K (a0 2) g2, bOrderG K (a0 3) g3, bFairG K a1 g4]) 1 e4 rfl (inb_in h4) rfl dX9_findFairPrice_28 ?_
      refine r_aload_n 0 dX9_findFairPrice_29 rfl ?_
      refine gTrials_fair 0 rfl (tb_in (i := 9) (j := 23) rfl rfl) dX9_findFairPrice_30 ?_
      refine r_aload_nN 2 dX9_findFairPrice_33 rfl ?_
      refine r_iload 4 dX9_findFairPrice_34 rfl ?_
      refine r_iconst (x := (-1 : Int32)) dX9_findFairPrice_36 (by decide) ?_
      obtain ⟨q5, h5, h⟩ := bd_some h
      refine b_callVN (isC := [1]) (ci := 1)  (st := []) (bs1 := [bTrialsG K (a0 0) ((a0 1) 0) ((a0 2) 0) ((a0 3) 0) g0, bFair K (a0 1) q3.1 q3.2.1 q3.2.2.1 q3.2.2.2.1 q5.2.1 q5.2.2.1 u4 q3.2.2.2.2.2.2.2.1 q5.2.2.2.1 q5.2.2.2.2.1 q5.2.2.2.2.2.1 q3.2.2.2.2.2.2.2.2.2.2.2.1 q3.2.2.2.2.2.2.2.2.2.2.2.2.1 q5.2.2.2.2.2.2.1 q3.2.2.2.2.2.2.2.2.2.2.2.2.2.2.1 q5.2.2.2.2.2.2.2 q3.2.2.2.2.2.2.2.2.2.2.2.2.2.2.2.2.1 q3.2.2.2.2.2.2.2.2.2.2.2.2.2.2.2.2.2.1 q3.2.2.2.2.2.2.2.2.2.2.2.2.2.2.2.2.2.2, bOrderG K (a0 2) g2, bOrderG K (a0 3) g3, bFairG K a1 g4]) (cFair_gon (a0 := (a0 1)) (z0_lasts := q3.1) (z0_keeps := q3.2.1) (z0_stalls := q3.2.2.1) (z0_buyers := q3.2.2.2.1) (z0_minute := q3.2.2.2.2.1) (z0_goods := q3.2.2.2.2.2.1) (z0_price := u4) (z0_tongue := q3.2.2.2.2.2.2.2.1) (z0_till := q3.2.2.2.2.2.2.2.2.1) (z0_wealth := q3.2.2.2.2.2.2.2.2.2.1) (z0_sold := q3.2.2.2.2.2.2.2.2.2.2.1) (z0_ring := q3.2.2.2.2.2.2.2.2.2.2.2.1) (z0_grudges := q3.2.2.2.2.2.2.2.2.2.2.2.2.1) (z0_purse := q3.2.2.2.2.2.2.2.2.2.2.2.2.2.1) (z0_came := q3.2.2.2.2.2.2.2.2.2.2.2.2.2.2.1) (z0_had := q3.2.2.2.2.2.2.2.2.2.2.2.2.2.2.2.1) (z0_seller := q3.2.2.2.2.2.2.2.2.2.2.2.2.2.2.2.2.1) (z0_praise := q3.2.2.2.2.2.2.2.2.2.2.2.2.2.2.2.2.2.1) (z0_borne := q3.2.2.2.2.2.2.2.2.2.2.2.2.2.2.2.2.2.2) h5) rfl rfl (Nat.le_of_ble_eq_true rfl) kFair_gon (List.mem_of_getElem? (i := 57) rfl) (by decide) (by decide) rfl rfl rfl rfl rfl rfl rfl dX9_findFairPrice_37 ?_
      refine r_pop dX9_findFairPrice_40 rfl ?_
      refine r_aload_n 0 dX9_findFairPrice_41 rfl ?_
      refine gTrials_fair 0 rfl (tb_in (i := 9) (j := 23) rfl rfl) dX9_findFairPrice_42 ?_
      refine gFair_wealthN 1 rfl (List.mem_of_getElem? (i := 32) rfl) dX9_findFairPrice_45 ?_
      refine r_iload_n 3 dX9_findFairPrice_48 rfl ?_
      obtain ⟨h6, h⟩ := rq_some h
      refine lFair_wealth 1 rfl (inb_in h6) dX9_findFairPrice_49 ?_
      refine r_aload_n 0 dX9_findFairPrice_50 rfl ?_
      refine gTrials_found 0 rfl (tb_in (i := 9) (j := 28) rfl rfl) dX9_findFairPrice_51 ?_
      refine r_iconst (x := (1 : Int32)) dX9_findFairPrice_54 (by decide) ?_
      obtain ⟨h7, h⟩ := rq_some h
      refine lTrials_found 0 rfl (inb_in h7) dX9_findFairPrice_55 ?_
      refine r_icmp_le 75 dX9_findFairPrice_56 (by decide) (fun c8 => ?_) (fun c8 => ?_)
      · replace h := it_pos c8 h
        refine r_iinc (y := (x5 + (1 : Int32))) (lv' := [(5, .int (x5 + (1 : Int32))), (0, .ref ((a0 0) 0)), (1, .ref (a1 0)), (2, .null), (3, .int x3), (4, .int x4)]) 5 dX9_findFairPrice_75 rfl rfl (Nat.le_of_ble_eq_true rfl) rfl ?_
        refine r_goto 10 dX9_findFairPrice_78 (by decide) ?_
        refine r_sub (lv' := [(0, .ref ((a0 0) 0)), (1, .ref (a1 0)), (2, .null), (3, .int x3), (4, .int x4), (5, .int (x5 + (1 : Int32)))]) [1, 2, 3, 4, 5, 0] rfl ?_
        exact ih (x5 + (1 : Int32)) g0 (q3.1, q3.2.1, q3.2.2.1, q3.2.2.2.1, q5.2.1, q5.2.2.1, u4, q3.2.2.2.2.2.2.2.1, q5.2.2.2.1, q5.2.2.2.2.1, q5.2.2.2.2.2.1, q3.2.2.2.2.2.2.2.2.2.2.2.1, q3.2.2.2.2.2.2.2.2.2.2.2.2.1, q5.2.2.2.2.2.2.1, q3.2.2.2.2.2.2.2.2.2.2.2.2.2.2.1, q5.2.2.2.2.2.2.2, q3.2.2.2.2.2.2.2.2.2.2.2.2.2.2.2.2.1, q3.2.2.2.2.2.2.2.2.2.2.2.2.2.2.2.2.2.1, q3.2.2.2.2.2.2.2.2.2.2.2.2.2.2.2.2.2.2) h
      · replace h := it_neg c8 h
        refine r_aload_n 0 dX9_findFairPrice_59 rfl ?_
        refine r_iload 5 dX9_findFairPrice_60 rfl ?_
        refine r_aload_n 0 dX9_findFairPrice_62 rfl ?_
        refine gTrials_fair 0 rfl (tb_in (i := 9) (j := 23) rfl rfl) dX9_findFairPrice_63 ?_
        refine gFair_wealthN 1 rfl (List.mem_of_getElem? (i := 32) rfl) dX9_findFairPrice_66 ?_
        refine r_iload_n 3 dX9_findFairPrice_69 rfl ?_
        obtain ⟨h9, h⟩ := rq_some h
        refine lFair_wealth 1 rfl (inb_in h9) dX9_findFairPrice_70 ?_
        refine r_iconst (x := (0 : Int32)) dX9_findFairPrice_71 (by decide) ?_
        obtain ⟨q10, h10, h⟩ := bd_some h
        refine b_callV (isC := [0, 1, 2, 3]) (ci := 7)  (st := []) (bs1 := [bTrialsG K (a0 0) ((a0 1) 0) ((a0 2) 0) ((a0 3) 0) q10, bFair K (a0 1) q3.1 q3.2.1 q3.2.2.1 q3.2.2.2.1 q5.2.1 q5.2.2.1 u4 q3.2.2.2.2.2.2.2.1 q5.2.2.2.1 q5.2.2.2.2.1 q5.2.2.2.2.2.1 q3.2.2.2.2.2.2.2.2.2.2.2.1 q3.2.2.2.2.2.2.2.2.2.2.2.2.1 q5.2.2.2.2.2.2.1 q3.2.2.2.2.2.2.2.2.2.2.2.2.2.2.1 q5.2.2.2.2.2.2.2 q3.2.2.2.2.2.2.2.2.2.2.2.2.2.2.2.2.1 q3.2.2.2.2.2.2.2.2.2.2.2.2.2.2.2.2.2.1 q3.2.2.2.2.2.2.2.2.2.2.2.2.2.2.2.2.2.2, bOrderG K (a0 2) g2, bOrderG K (a0 3) g3, bFairG K a1 g4]) (cTrials_find (a0 := a0) (g0 := g0) (g1 := (q3.1, q3.2.1, q3.2.2.1, q3.2.2.2.1, q5.2.1, q5.2.2.1, u4, q3.2.2.2.2.2.2.2.1, q5.2.2.2.1, q5.2.2.2.2.1, q5.2.2.2.2.2.1, q3.2.2.2.2.2.2.2.2.2.2.2.1, q3.2.2.2.2.2.2.2.2.2.2.2.2.1, q5.2.2.2.2.2.2.1, q3.2.2.2.2.2.2.2.2.2.2.2.2.2.2.1, q5.2.2.2.2.2.2.2, q3.2.2.2.2.2.2.2.2.2.2.2.2.2.2.2.2.1, q3.2.2.2.2.2.2.2.2.2.2.2.2.2.2.2.2.2.1, q3.2.2.2.2.2.2.2.2.2.2.2.2.2.2.2.2.2.2)) (g2 := g2) (g3 := g3) h10) rfl rfl (Nat.le_of_ble_eq_true rfl) kTrials_find (tb_in (i := 10) (j := 20) rfl rfl) (by decide) (by decide) rfl rfl rfl rfl rfl rfl rfl dX9_findFairPrice_72 ?_
        refine r_iinc (y := (x5 + (1 : Int32))) (lv' := [(5, .int (x5 + (1 : Int32))), (0, .ref ((a0 0) 0)), (1, .ref (a1 0)), (2, .null), (3, .int x3), (4, .int x4)]) 5 dX9_findFairPrice_75 rfl rfl (Nat.le_of_ble_eq_true rfl) rfl ?_
        refine r_goto 10 dX9_findFairPrice_78 (by decide) ?_
        refine r_sub (lv' := [(0, .ref ((a0 0) 0)), (1, .ref (a1 0)), (2, .null), (3, .int x3), (4, .int x4), (5, .int (x5 + (1 : Int32)))]) [1, 2, 3, 4, 5, 0] rfl ?_
        exact ih (x5 + (1 : Int32)) q10 (q3.1, q3.2.1, q3.2.2.1, q3.2.2.2.1, q5.2.1, q5.2.2.1, u4, q3.2.2.2.2.2.2.2.1, q5.2.2.2.1, q5.2.2.2.2.1, q5.2.2.2.2.2.1, q3.2.2.2.2.2.2.2.2.2.2.2.1, q3.2.2.2.2.2.2.2.2.2.2.2.2.1, q5.2.2.2.2.2.2.1, q3.2.2.2.2.2.2.2.2.2.2.2.2.2.2.1, q5.2.2.2.2.2.2.2, q3.2.2.2.2.2.2.2.2.2.2.2.2.2.2.2.2.1, q3.2.2.2.2.2.2.2.2.2.2.2.2.2.2.2.2.2.1, q3.2.2.2.2.2.2.2.2.2.2.2.2.2.2.2.2.2.2) h
def mTrials_findFairPricern (x3 : Int32) (x4 : Int32) (g0 : tyTrials) (g1 : tyFair) (g4 : tyFair) : Option (tyTrials × tyFair) := (mTrials_find (0 : Int32) (-1 : Int32) (0 : Int32) g0).bind (fun q1 => mTrials_findFairPricern_l10 g4 x3 x4 FU (1 : Int32) q1 g1)
set_option maxHeartbeats 4000000 in
set_option maxRecDepth 20000 in
theorem cTrials_findFairPricern {q : tyTrials × tyFair} {x3 : Int32} {x4 : Int32} (h : mTrials_findFairPricern x3 x4 g0 g1 g4 = some q) : rMet l D Z (ty7 K) MTrials_findFairPricern [.ref ((a0 0) 0), .ref (a1 0), .null, .int x3, .int x4] (List.flatten [bTrialsG K (a0 0) ((a0 1) 0) ((a0 2) 0) ((a0 3) 0) g0, bFairG K (a0 1) g1, bOrderG K (a0 2) g2, bOrderG K (a0 3) g3, bFairG K a1 g4]) (List.flatten [bTrialsG K (a0 0) ((a0 1) 0) ((a0 2) 0) ((a0 3) 0) q.1, bFairG K (a0 1) q.2, bOrderG K (a0 2) g2, bOrderG K (a0 3) g3, bFairG K a1 g4]) none := by
  refine rMet.of (by decide) rfl (Nat.le_of_ble_eq_true rfl) ?_
  refine r_sub (lv' := [(0, .ref ((a0 0) 0)), (1, .ref (a1 0)), (2, .null), (3, .int x3), (4, .int x4)]) [0, 1, 2, 3, 4] rfl ?_
  unfold mTrials_findFairPricern at h
  refine r_aload_n 0 dX9_findFairPrice_0 rfl ?_
  refine r_iconst (x := (0 : Int32)) dX9_findFairPrice_1 (by decide) ?_
  refine r_iconst (x := (-1 : Int32)) dX9_findFairPrice_2 (by decide) ?_
  refine r_iconst (x := (0 : Int32)) dX9_findFairPrice_3 (by decide) ?_
  obtain ⟨q1, h1, h⟩ := bd_some h
  refine b_callV (isC := [0, 1, 2, 3]) (ci := 7)  (st := []) (bs1 := [bTrialsG K (a0 0) ((a0 1) 0) ((a0 2) 0) ((a0 3) 0) q1, bFairG K (a0 1) g1, bOrderG K (a0 2) g2, bOrderG K (a0 3) g3, bFairG K a1 g4]) (cTrials_find (a0 := a0) (g0 := g0) (g1 := g1) (g2 := g2) (g3 := g3) h1) rfl rfl (Nat.le_of_ble_eq_true rfl) kTrials_find (tb_in (i := 10) (j := 20) rfl rfl) (by decide) (by decide) rfl rfl rfl rfl rfl rfl rfl dX9_findFairPrice_4 ?_
  refine r_iconst (x := (1 : Int32)) dX9_findFairPrice_7 (by decide) ?_
  refine r_istore (lv' := [(5, .int (1 : Int32)), (0, .ref ((a0 0) 0)), (1, .ref (a1 0)), (2, .null), (3, .int x3), (4, .int x4)]) dX9_findFairPrice_8 (Nat.le_of_ble_eq_true rfl) rfl ?_
  refine r_sub (lv' := [(0, .ref ((a0 0) 0)), (1, .ref (a1 0)), (2, .null), (3, .int x3), (4, .int x4), (5, .int (1 : Int32))]) [1, 2, 3, 4, 5, 0] rfl ?_
  exact cTrials_findFairPricern_l10 (g4 := g4)  FU (1 : Int32) q1 g1 h
end
theorem dX9_findCommission_0 : decode cX9_findCommission 0 = .ok (.aload_n 0, 1) := by decide +kernel
theorem dX9_findCommission_1 : decode cX9_findCommission 1 = .ok (.iconst 0, 1) := by decide +kernel
theorem dX9_findCommission_2 : decode cX9_findCommission 2 = .ok (.iconst (-1), 1) := by decide +kernel
theorem dX9_findCommission_3 : decode cX9_findCommission 3 = .ok (.iconst 0, 1) := by decide +kernel
theorem dX9_findCommission_4 : decode cX9_findCommission 4 = .ok (.invokevirtual 92, 3) := by decide +kernel
theorem dX9_findCommission_7 : decode cX9_findCommission 7 = .ok (.iconst 0, 1) := by decide +kernel
theorem dX9_findCommission_8 : decode cX9_findCommission 8 = .ok (.istore 5, 2) := by decide +kernel
theorem dX9_findCommission_10 : decode cX9_findCommission 10 = .ok (.iload 5, 2) := by decide +kernel
theorem dX9_findCommission_12 : decode cX9_findCommission 12 = .ok (.bipush 9, 2) := by decide +kernel
theorem dX9_findCommission_14 : decode cX9_findCommission 14 = .ok (.if_icmp .gt 65, 3) := by decide +kernel
theorem dX9_findCommission_17 : decode cX9_findCommission 17 = .ok (.aload_n 0, 1) := by decide +kernel
theorem dX9_findCommission_18 : decode cX9_findCommission 18 = .ok (.aload_n 1, 1) := by decide +kernel
theorem dX9_findCommission_19 : decode cX9_findCommission 19 = .ok (.invokevirtual 66, 3) := by decide +kernel
theorem dX9_findCommission_22 : decode cX9_findCommission 22 = .ok (.iload 5, 2) := by decide +kernel
theorem dX9_findCommission_24 : decode cX9_findCommission 24 = .ok (.putfield 102, 3) := by decide +kernel
theorem dX9_findCommission_27 : decode cX9_findCommission 27 = .ok (.aload_n 0, 1) := by decide +kernel
theorem dX9_findCommission_28 : decode cX9_findCommission 28 = .ok (.getfield 12, 3) := by decide +kernel
theorem dX9_findCommission_31 : decode cX9_findCommission 31 = .ok (.aload_n 2, 1) := by decide +kernel
theorem dX9_findCommission_32 : decode cX9_findCommission 32 = .ok (.iload 4, 2) := by decide +kernel
theorem dX9_findCommission_34 : decode cX9_findCommission 34 = .ok (.iconst (-1), 1) := by decide +kernel
theorem dX9_findCommission_35 : decode cX9_findCommission 35 = .ok (.invokevirtual 74, 3) := by decide +kernel
theorem dX9_findCommission_38 : decode cX9_findCommission 38 = .ok (.pop, 1) := by decide +kernel
theorem dX9_findCommission_39 : decode cX9_findCommission 39 = .ok (.aload_n 0, 1) := by decide +kernel
theorem dX9_findCommission_40 : decode cX9_findCommission 40 = .ok (.getfield 12, 3) := by decide +kernel
theorem dX9_findCommission_43 : decode cX9_findCommission 43 = .ok (.getfield 99, 3) := by decide +kernel
theorem dX9_findCommission_46 : decode cX9_findCommission 46 = .ok (.iload_n 3, 1) := by decide +kernel
theorem dX9_findCommission_47 : decode cX9_findCommission 47 = .ok (.iaload, 1) := by decide +kernel
theorem dX9_findCommission_48 : decode cX9_findCommission 48 = .ok (.aload_n 0, 1) := by decide +kernel
theorem dX9_findCommission_49 : decode cX9_findCommission 49 = .ok (.getfield 28, 3) := by decide +kernel
theorem dX9_findCommission_52 : decode cX9_findCommission 52 = .ok (.iconst 1, 1) := by decide +kernel
theorem dX9_findCommission_53 : decode cX9_findCommission 53 = .ok (.iaload, 1) := by decide +kernel
theorem dX9_findCommission_54 : decode cX9_findCommission 54 = .ok (.if_icmp .le 19, 3) := by decide +kernel
theorem dX9_findCommission_57 : decode cX9_findCommission 57 = .ok (.aload_n 0, 1) := by decide +kernel
theorem dX9_findCommission_58 : decode cX9_findCommission 58 = .ok (.iload 5, 2) := by decide +kernel
theorem dX9_findCommission_60 : decode cX9_findCommission 60 = .ok (.aload_n 0, 1) := by decide +kernel
theorem dX9_findCommission_61 : decode cX9_findCommission 61 = .ok (.getfield 12, 3) := by decide +kernel
theorem dX9_findCommission_64 : decode cX9_findCommission 64 = .ok (.getfield 99, 3) := by decide +kernel
theorem dX9_findCommission_67 : decode cX9_findCommission 67 = .ok (.iload_n 3, 1) := by decide +kernel
theorem dX9_findCommission_68 : decode cX9_findCommission 68 = .ok (.iaload, 1) := by decide +kernel
theorem dX9_findCommission_69 : decode cX9_findCommission 69 = .ok (.iconst 0, 1) := by decide +kernel
theorem dX9_findCommission_70 : decode cX9_findCommission 70 = .ok (.invokevirtual 92, 3) := by decide +kernel
theorem dX9_findCommission_73 : decode cX9_findCommission 73 = .ok (.iinc 5 1, 3) := by decide +kernel
theorem dX9_findCommission_76 : decode cX9_findCommission 76 = .ok (.goto (-66), 3) := by decide +kernel
theorem dX9_findCommission_79 : decode cX9_findCommission 79 = .ok (.return_, 1) := by decide +kernel
abbrev MTrials_findCommissionrr : rx_M := (RX9, yX9_findCommission, cX9_findCommission, 6, none, 6)
theorem kTrials_findCommissionrr : rKv MTrials_findCommissionrr 4 := ⟨tb_in (i := 15) (j := 15) rfl rfl, tb_in (i := 15) (j := 16) rfl rfl, tb_in (i := 10) (j := 11) rfl rfl, tb_in (i := 10) (j := 24) rfl rfl, ⟨by decide, by decide, by decide +kernel⟩, by decide⟩
section
variable {a0 : Nat → Nat → Nat} {a1 : Nat → Nat} {a2 : Nat → Nat} {g0 : tyTrials} {g1 : tyFair} {g2 : tyOrder} {g3 : tyOrder} {g4 : tyFair} {g5 : tyRule}
def mTrials_findCommissionrr_l10 (g4 : tyFair) (x3 : Int32) (x4 : Int32) : Nat → Int32 → tyTrials → tyFair → tyRule → Option (tyTrials × tyFair × tyRule)
  | 0, _, _, _, _ => none
  | n + 1, x5, g0, g1, g5 => (if (9 : Int32) < x5 then some (g0, g1, g5) else (mTrials_from g1 g4).bind (fun q3 => (mFair_gor x4 (-1 : Int32) q3.1 x5 q3.2.2.1 q3.2.2.2.1 q3.2.2.2.2.1 q3.2.2.2.2.2.1 q3.2.2.2.2.2.2.1 q3.2.2.2.2.2.2.2.2.1 q3.2.2.2.2.2.2.2.2.2.1 q3.2.2.2.2.2.2.2.2.2.2.1 q3.2.2.2.2.2.2.2.2.2.2.2.2.2.1 q3.2.2.2.2.2.2.2.2.2.2.2.2.2.2.1 q3.2.2.2.2.2.2.2.2.2.2.2.2.2.2.2.1 q3.2.2.2.2.2.2.2.2.2.2.2.2.2.2.2.2.1 q3.2.2.2.2.2.2.2.2.2.2.2.2.2.2.2.2.2.1 q3.2.2.2.2.2.2.2.2.2.2.2.2.2.2.2.2.2.2 g5.1 g5.2.1 g5.2.2.1 g5.2.2.2.1 g5.2.2.2.2.1 g5.2.2.2.2.2.1 g5.2.2.2.2.2.2.2.1 g5.2.2.2.2.2.2.2.2.1 g5.2.2.2.2.2.2.2.2.2).bind (fun q4 => rq (inb x3 6) (rq (inb (1 : Int32) 3) ((if (q4.2.2.2.2.1 x3.toNatClampNeg) ≤ (g0.1 (1 : Int32).toNatClampNeg) then mTrials_findCommissionrr_l10 g4 x3 x4 n (x5 + (1 : Int32)) g0 (q3.1, x5, q3.2.2.1, q3.2.2.2.1, q4.2.1, q4.2.2.1, q3.2.2.2.2.2.2.1, q3.2.2.2.2.2.2.2.1, q4.2.2.2.1, q4.2.2.2.2.1, q4.2.2.2.2.2.1, q3.2.2.2.2.2.2.2.2.2.2.2.1, q3.2.2.2.2.2.2.2.2.2.2.2.2.1, q4.2.2.2.2.2.2.1, q3.2.2.2.2.2.2.2.2.2.2.2.2.2.2.1, q4.2.2.2.2.2.2.2.1, q3.2.2.2.2.2.2.2.2.2.2.2.2.2.2.2.2.1, q3.2.2.2.2.2.2.2.2.2.2.2.2.2.2.2.2.2.1, q3.2.2.2.2.2.2.2.2.2.2.2.2.2.2.2.2.2.2) (g5.1, g5.2.1, g5.2.2.1, g5.2.2.2.1, g5.2.2.2.2.1, g5.2.2.2.2.2.1, g5.2.2.2.2.2.2.1, g5.2.2.2.2.2.2.2.1, q4.2.2.2.2.2.2.2.2.1, q4.2.2.2.2.2.2.2.2.2) else rq (inb x3 6) ((mTrials_find x5 (q4.2.2.2.2.1 x3.toNatClampNeg) (0 : Int32) g0).bind (fun q9 => mTrials_findCommissionrr_l10 g4 x3 x4 n (x5 + (1 : Int32)) q9 (q3.1, x5, q3.2.2.1, q3.2.2.2.1, q4.2.1, q4.2.2.1, q3.2.2.2.2.2.2.1, q3.2.2.2.2.2.2.2.1, q4.2.2.2.1, q4.2.2.2.2.1, q4.2.2.2.2.2.1, q3.2.2.2.2.2.2.2.2.2.2.2.1, q3.2.2.2.2.2.2.2.2.2.2.2.2.1, q4.2.2.2.2.2.2.1, q3.2.2.2.2.2.2.2.2.2.2.2.2.2.2.1, q4.2.2.2.2.2.2.2.1, q3.2.2.2.2.2.2.2.2.2.2.2.2.2.2.2.2.1, q3.2.2.2.2.2.2.2.2.2.2.2.2.2.2.2.2.2.1, q3.2.2.2.2.2.2.2.2.2.2.2.2.2.2.2.2.2.2) (g5.1, g5.2.1, g5.2.2.1, g5.2.2.2.1, g5.2.2.2.2.1, g5.2.2.2.2.2.1, g5.2.2.2.2.2.2.1, g5.2.2.2.2.2.2.2.1, q4.2.2.2.2.2.2.2.2.1, q4.2.2.2.2.2.2.2.2.2)))))))))
set_option maxHeartbeats 4000000 in
set_option maxRecDepth 20000 in
theorem cTrials_findCommissionrr_l10 {q : tyTrials × tyFair × tyRule} {x3 : Int32} {x4 : Int32}  : ∀ (n : Nat) (x5 : Int32) (g0 : tyTrials) (g1 : tyFair) (g5 : tyRule), mTrials_findCommissionrr_l10 g4 x3 x4 n x5 g0 g1 g5 = some q → rW l D Z (ty7 K) MTrials_findCommissionrr 10 [(0, .ref ((a0 0) 0)), (1, .ref (a1 0)), (2, .ref (a2 0)), (3, .int x3), (4, .int x4), (5, .int x5)] [] (List.flatten [bTrialsG K (a0 0) ((a0 1) 0) ((a0 2) 0) ((a0 3) 0) g0, bFairG K (a0 1) g1, bOrderG K (a0 2) g2, bOrderG K (a0 3) g3, bFairG K a1 g4, bRuleG K a2 g5]) (List.flatten [bTrialsG K (a0 0) ((a0 1) 0) ((a0 2) 0) ((a0 3) 0) q.1, bFairG K (a0 1) q.2.1, bOrderG K (a0 2) g2, bOrderG K (a0 3) g3, bFairG K a1 g4, bRuleG K a2 q.2.2]) none := by
  intro n
  induction n with
  | zero => intro x5 g0 g1 g5 h; unfold mTrials_findCommissionrr_l10 at h; cases h
  | succ n ih =>
    intro x5 g0 g1 g5 h
    unfold mTrials_findCommissionrr_l10 at h
    refine r_iload 5 dX9_findCommission_10 rfl ?_
    refine r_bipush (x := (9 : Int32)) dX9_findCommission_12 (by decide) ?_
    refine r_icmp_gt 79 dX9_findCommission_14 (by decide) (fun c2 => ?_) (fun c2 => ?_)
    · replace h := it_pos c2 h
      have hq := Option.some.inj h
      subst hq
      exact r_vret rfl dX9_findCommission_79
    · replace h := it_neg c2 h
      refine r_aload_n 0 dX9_findCommission_17 rfl ?_
      refine r_aload_n 1 dX9_findCommission_18 rfl ?_
      obtain ⟨q3, h3, h⟩ := bd_some h
      refine b_callV (isC := [0, 1, 2, 3, 4]) (ci := 7)  (st := []) (bs1 := [bTrialsG K (a0 0) ((a0 1) 0) ((a0 2) 0) ((a0 3) 0) g0, bFairG K (a0 1) q3, bOrderG K (a0 2) g2, bOrderG K (a0 3) g3, bFairG K a1 g4, bRuleG K a2 g5]) (cTrials_from (a0 := a0) (a1 := a1) (g0 := g0) (g1 := g1) (g2 := g2) (g3 := g3) (g4 := g4) h3) rfl rfl (Nat.le_of_ble_eq_true rfl) kTrials_from (tb_in (i := 10) (j := 8) rfl rfl) (by decide) (by decide) rfl rfl rfl rfl rfl rfl rfl dX9_findCommission_19 ?_
      refine r_iload 5 dX9_findCommission_22 rfl ?_
      refine pFair_keepsN (bs1 := [bTrialsG K (a0 0) ((a0 1) 0) ((a0 2) 0) ((a0 3) 0) g0, bFair K (a0 1) q3.1 x5 q3.2.2.1 q3.2.2.2.1 q3.2.2.2.2.1 q3.2.2.2.2.2.1 q3.2.2.2.2.2.2.1 q3.2.2.2.2.2.2.2.1 q3.2.2.2.2.2.2.2.2.1 q3.2.2.2.2.2.2.2.2.2.1 q3.2.2.2.2.2.2.2.2.2.2.1 q3.2.2.2.2.2.2.2.2.2.2.2.1 q3.2.2.2.2.2.2.2.2.2.2.2.2.1 q3.2.2.2.2.2.2.2.2.2.2.2.2.2.1 q3.2.2.2.2.2.2.2.2.2.2.2.2.2.2.1 q3.2.2.2.2.2.2.2.2.2.2.2.2.2.2.2.1 q3.2.2.2.2.2.2.2.2.2.2.2.2.2.2.2.2.1 q3.2.2.2.2.2.2.2.2.2.2.2.2.2.2.2.2.2.1 q3.2.2.2.2.2.2.2.2.2.2.2.2.2.2.2.2.2.2, bOrderG K (a0 2) g2, bOrderG K (a0 3) g3, bFairG K a1 g4, bRuleG K a2 g5]) 1 rfl rfl (List.mem_of_getElem? (i := 12) rfl) dX9_findCommission_24 ?_
      refine r_aload_n 0 dX9_findCommission_27 rfl ?_
      refine gTrials_fair 0 rfl (tb_in (i := 9) (j := 23) rfl rfl) dX9_findCommission_28 ?_
      refine r_aload_n 2 dX9_findCommission_31 rfl ?_
      refine r_iload 4 dX9_findCommission_32 rfl ?_
      refine r_iconst (x := (-1 : Int32)) dX9_findCommission_34 (by decide) ?_
      obtain ⟨q4, h4, h⟩ := bd_some h
      refine b_callVN (isC := [1, 5]) (ci := 1)  (st := []) (bs1 := [bTrialsG K (a0 0) ((a0 1) 0) ((a0 2) 0) ((a0 3) 0) g0, bFair K (a0 1) q3.1 x5 q3.2.2.1 q3.2.2.2.1 q4.2.1 q4.2.2.1 q3.2.2.2.2.2.2.1 q3.2.2.2.2.2.2.2.1 q4.2.2.2.1 q4.2.2.2.2.1 q4.2.2.2.2.2.1 q3.2.2.2.2.2.2.2.2.2.2.2.1 q3.2.2.2.2.2.2.2.2.2.2.2.2.1 q4.2.2.2.2.2.2.1 q3.2.2.2.2.2.2.2.2.2.2.2.2.2.2.1 q4.2.2.2.2.2.2.2.1 q3.2.2.2.2.2.2.2.2.2.2.2.2.2.2.2.2.1 q3.2.2.2.2.2.2.2.2.2.2.2.2.2.2.2.2.2.1 q3.2.2.2.2.2.2.2.2.2.2.2.2.2.2.2.2.2.2, bOrderG K (a0 2) g2, bOrderG K (a0 3) g3, bFairG K a1 g4, bRule K a2 g5.1 g5.2.1 g5.2.2.1 g5.2.2.2.1 g5.2.2.2.2.1 g5.2.2.2.2.2.1 g5.2.2.2.2.2.2.1 g5.2.2.2.2.2.2.2.1 q4.2.2.2.2.2.2.2.2.1 q4.2.2.2.2.2.2.2.2.2]) (cFair_gor (a0 := (a0 1)) (a1 := a2) (z0_lasts := q3.1) (z0_keeps := x5) (z0_stalls := q3.2.2.1) (z0_buyers := q3.2.2.2.1) (z0_minute := q3.2.2.2.2.1) (z0_goods := q3.2.2.2.2.2.1) (z0_price := q3.2.2.2.2.2.2.1) (z0_tongue := q3.2.2.2.2.2.2.2.1) (z0_till := q3.2.2.2.2.2.2.2.2.1) (z0_wealth := q3.2.2.2.2.2.2.2.2.2.1) (z0_sold := q3.2.2.2.2.2.2.2.2.2.2.1) (z0_ring := q3.2.2.2.2.2.2.2.2.2.2.2.1) (z0_grudges := q3.2.2.2.2.2.2.2.2.2.2.2.2.1) (z0_purse := q3.2.2.2.2.2.2.2.2.2.2.2.2.2.1) (z0_came := q3.2.2.2.2.2.2.2.2.2.2.2.2.2.2.1) (z0_had := q3.2.2.2.2.2.2.2.2.2.2.2.2.2.2.2.1) (z0_seller := q3.2.2.2.2.2.2.2.2.2.2.2.2.2.2.2.2.1) (z0_praise := q3.2.2.2.2.2.2.2.2.2.2.2.2.2.2.2.2.2.1) (z0_borne := q3.2.2.2.2.2.2.2.2.2.2.2.2.2.2.2.2.2.2) (z1_steps := g5.1) (z1_size := g5.2.1) (z1_sumFrom := g5.2.2.1) (z1_testFrom := g5.2.2.2.1) (z1_testTo := g5.2.2.2.2.1) (z1_clauses := g5.2.2.2.2.2.1) (z1_parts := g5.2.2.2.2.2.2.1) (z1_readsTime := g5.2.2.2.2.2.2.2.1) (z1_words := g5.2.2.2.2.2.2.2.2.1) (z1_stack := g5.2.2.2.2.2.2.2.2.2) h4) rfl rfl (Nat.le_of_ble_eq_true rfl) kFair_gor (List.mem_of_getElem? (i := 57) rfl) (by decide) (by decide) rfl rfl rfl rfl rfl rfl rfl dX9_findCommission_35 ?_
      refine r_pop dX9_findCommission_38 rfl ?_
      refine r_aload_n 0 dX9_findCommission_39 rfl ?_
      refine gTrials_fair 0 rfl (tb_in (i := 9) (j := 23) rfl rfl) dX9_findCommission_40 ?_
      refine gFair_wealthN 1 rfl (List.mem_of_getElem? (i := 32) rfl) dX9_findCommission_43 ?_
      refine r_iload_n 3 dX9_findCommission_46 rfl ?_
      obtain ⟨h5, h⟩ := rq_some h
      refine lFair_wealth 1 rfl (inb_in h5) dX9_findCommission_47 ?_
      refine r_aload_n 0 dX9_findCommission_48 rfl ?_
      refine gTrials_found 0 rfl (tb_in (i := 9) (j := 28) rfl rfl) dX9_findCommission_49 ?_
      refine r_iconst (x := (1 : Int32)) dX9_findCommission_52 (by decide) ?_
      obtain ⟨h6, h⟩ := rq_some h
      refine lTrials_found 0 rfl (inb_in h6) dX9_findCommission_53 ?_
      refine r_icmp_le 73 dX9_findCommission_54 (by decide) (fun c7 => ?_) (fun c7 => ?_)
      · replace h := it_pos c7 h
        refine r_iinc (y := (x5 + (1 : Int32))) (lv' := [(5, .int (x5 + (1 : Int32))), (0, .ref ((a0 0) 0)), (1, .ref (a1 0)), (2, .ref (a2 0)), (3, .int x3), (4, .int x4)]) 5 dX9_findCommission_73 rfl rfl (Nat.le_of_ble_eq_true rfl) rfl ?_
        refine r_goto 10 dX9_findCommission_76 (by decide) ?_
        refine r_sub (lv' := [(0, .ref ((a0 0) 0)), (1, .ref (a1 0)), (2, .ref (a2 0)), (3, .int x3), (4, .int x4), (5, .int (x5 + (1 : Int32)))]) [1, 2, 3, 4, 5, 0] rfl ?_
        exact ih (x5 + (1 : Int32)) g0 (q3.1, x5, q3.2.2.1, q3.2.2.2.1, q4.2.1, q4.2.2.1, q3.2.2.2.2.2.2.1, q3.2.2.2.2.2.2.2.1, q4.2.2.2.1, q4.2.2.2.2.1, q4.2.2.2.2.2.1, q3.2.2.2.2.2.2.2.2.2.2.2.1, q3.2.2.2.2.2.2.2.2.2.2.2.2.1, q4.2.2.2.2.2.2.1, q3.2.2.2.2.2.2.2.2.2.2.2.2.2.2.1, q4.2.2.2.2.2.2.2.1, q3.2.2.2.2.2.2.2.2.2.2.2.2.2.2.2.2.1, q3.2.2.2.2.2.2.2.2.2.2.2.2.2.2.2.2.2.1, q3.2.2.2.2.2.2.2.2.2.2.2.2.2.2.2.2.2.2) (g5.1, g5.2.1, g5.2.2.1, g5.2.2.2.1, g5.2.2.2.2.1, g5.2.2.2.2.2.1, g5.2.2.2.2.2.2.1, g5.2.2.2.2.2.2.2.1, q4.2.2.2.2.2.2.2.2.1, q4.2.2.2.2.2.2.2.2.2) h
      · replace h := it_neg c7 h
        refine r_aload_n 0 dX9_findCommission_57 rfl ?_
        refine r_iload 5 dX9_findCommission_58 rfl ?_
        refine r_aload_n 0 dX9_findCommission_60 rfl ?_
        refine gTrials_fair 0 rfl (tb_in (i := 9) (j := 23) rfl rfl) dX9_findCommission_61 ?_
        refine gFair_wealthN 1 rfl (List.mem_of_getElem? (i := 32) rfl) dX9_findCommission_64 ?_
        refine r_iload_n 3 dX9_findCommission_67 rfl ?_
        obtain ⟨h8, h⟩ := rq_some h
        refine lFair_wealth 1 rfl (inb_in h8) dX9_findCommission_68 ?_
        refine r_iconst (x := (0 : Int32)) dX9_findCommission_69 (by decide) ?_
        obtain ⟨q9, h9, h⟩ := bd_some h
        refine b_callV (isC := [0, 1, 2, 3]) (ci := 7)  (st := []) (bs1 := [bTrialsG K (a0 0) ((a0 1) 0) ((a0 2) 0) ((a0 3) 0) q9, bFair K (a0 1) q3.1 x5 q3.2.2.1 q3.2.2.2.1 q4.2.1 q4.2.2.1 q3.2.2.2.2.2.2.1 q3.2.2.2.2.2.2.2.1 q4.2.2.2.1 q4.2.2.2.2.1 q4.2.2.2.2.2.1 q3.2.2.2.2.2.2.2.2.2.2.2.1 q3.2.2.2.2.2.2.2.2.2.2.2.2.1 q4.2.2.2.2.2.2.1 q3.2.2.2.2.2.2.2.2.2.2.2.2.2.2.1 q4.2.2.2.2.2.2.2.1 q3.2.2.2.2.2.2.2.2.2.2.2.2.2.2.2.2.1 q3.2.2.2.2.2.2.2.2.2.2.2.2.2.2.2.2.2.1 q3.2.2.2.2.2.2.2.2.2.2.2.2.2.2.2.2.2.2, bOrderG K (a0 2) g2, bOrderG K (a0 3) g3, bFairG K a1 g4, bRule K a2 g5.1 g5.2.1 g5.2.2.1 g5.2.2.2.1 g5.2.2.2.2.1 g5.2.2.2.2.2.1 g5.2.2.2.2.2.2.1 g5.2.2.2.2.2.2.2.1 q4.2.2.2.2.2.2.2.2.1 q4.2.2.2.2.2.2.2.2.2]) (cTrials_find (a0 := a0) (g0 := g0) (g1 := (q3.1, x5, q3.2.2.1, q3.2.2.2.1, q4.2.1, q4.2.2.1, q3.2.2.2.2.2.2.1, q3.2.2.2.2.2.2.2.1, q4.2.2.2.1, q4.2.2.2.2.1, q4.2.2.2.2.2.1, q3.2.2.2.2.2.2.2.2.2.2.2.1, q3.2.2.2.2.2.2.2.2.2.2.2.2.1, q4.2.2.2.2.2.2.1, q3.2.2.2.2.2.2.2.2.2.2.2.2.2.2.1, q4.2.2.2.2.2.2.2.1, q3.2.2.2.2.2.2.2.2.2.2.2.2.2.2.2.2.1, q3.2.2.2.2.2.2.2.2.2.2.2.2.2.2.2.2.2.1, q3.2.2.2.2.2.2.2.2.2.2.2.2.2.2.2.2.2.2)) (g2 := g2) (g3 := g3) h9) rfl rfl (Nat.le_of_ble_eq_true rfl) kTrials_find (tb_in (i := 10) (j := 20) rfl rfl) (by decide) (by decide) rfl rfl rfl rfl rfl rfl rfl dX9_findCommission_70 ?_
        refine r_iinc (y := (x5 + (1 : Int32))) (lv' := [(5, .int (x5 + (1 : Int32))), (0, .ref ((a0 0) 0)), (1, .ref (a1 0)), (2, .ref (a2 0)), (3, .int x3), (4, .int x4)]) 5 dX9_findCommission_73 rfl rfl (Nat.le_of_ble_eq_true rfl) rfl ?_
        refine r_goto 10 dX9_findCommission_76 (by decide) ?_
        refine r_sub (lv' := [(0, .ref ((a0 0) 0)), (1, .ref (a1 0)), (2, .ref (a2 0)), (3, .int x3), (4, .int x4), (5, .int (x5 + (1 : Int32)))]) [1, 2, 3, 4, 5, 0] rfl ?_
        exact ih (x5 + (1 : Int32)) q9 (q3.1, x5, q3.2.2.1, q3.2.2.2.1, q4.2.1, q4.2.2.1, q3.2.2.2.2.2.2.1, q3.2.2.2.2.2.2.2.1, q4.2.2.2.1, q4.2.2.2.2.1, q4.2.2.2.2.2.1, q3.2.2.2.2.2.2.2.2.2.2.2.1, q3.2.2.2.2.2.2.2.2.2.2.2.2.1, q4.2.2.2.2.2.2.1, q3.2.2.2.2.2.2.2.2.2.2.2.2.2.2.1, q4.2.2.2.2.2.2.2.1, q3.2.2.2.2.2.2.2.2.2.2.2.2.2.2.2.2.1, q3.2.2.2.2.2.2.2.2.2.2.2.2.2.2.2.2.2.1, q3.2.2.2.2.2.2.2.2.2.2.2.2.2.2.2.2.2.2) (g5.1, g5.2.1, g5.2.2.1, g5.2.2.2.1, g5.2.2.2.2.1, g5.2.2.2.2.2.1, g5.2.2.2.2.2.2.1, g5.2.2.2.2.2.2.2.1, q4.2.2.2.2.2.2.2.2.1, q4.2.2.2.2.2.2.2.2.2) h
def mTrials_findCommissionrr (x3 : Int32) (x4 : Int32) (g0 : tyTrials) (g1 : tyFair) (g4 : tyFair) (g5 : tyRule) : Option (tyTrials × tyFair × tyRule) := (mTrials_find (0 : Int32) (-1 : Int32) (0 : Int32) g0).bind (fun q1 => mTrials_findCommissionrr_l10 g4 x3 x4 FU (0 : Int32) q1 g1 g5)
set_option maxHeartbeats 4000000 in
set_option maxRecDepth 20000 in
theorem cTrials_findCommissionrr {q : tyTrials × tyFair × tyRule} {x3 : Int32} {x4 : Int32} (h : mTrials_findCommissionrr x3 x4 g0 g1 g4 g5 = some q) : rMet l D Z (ty7 K) MTrials_findCommissionrr [.ref ((a0 0) 0), .ref (a1 0), .ref (a2 0), .int x3, .int x4] (List.flatten [bTrialsG K (a0 0) ((a0 1) 0) ((a0 2) 0) ((a0 3) 0) g0, bFairG K (a0 1) g1, bOrderG K (a0 2) g2, bOrderG K (a0 3) g3, bFairG K a1 g4, bRuleG K a2 g5]) (List.flatten [bTrialsG K (a0 0) ((a0 1) 0) ((a0 2) 0) ((a0 3) 0) q.1, bFairG K (a0 1) q.2.1, bOrderG K (a0 2) g2, bOrderG K (a0 3) g3, bFairG K a1 g4, bRuleG K a2 q.2.2]) none := by
  refine rMet.of (by decide) rfl (Nat.le_of_ble_eq_true rfl) ?_
  refine r_sub (lv' := [(0, .ref ((a0 0) 0)), (1, .ref (a1 0)), (2, .ref (a2 0)), (3, .int x3), (4, .int x4)]) [0, 1, 2, 3, 4] rfl ?_
  unfold mTrials_findCommissionrr at h
  refine r_aload_n 0 dX9_findCommission_0 rfl ?_
  refine r_iconst (x := (0 : Int32)) dX9_findCommission_1 (by decide) ?_
  refine r_iconst (x := (-1 : Int32)) dX9_findCommission_2 (by decide) ?_
  refine r_iconst (x := (0 : Int32)) dX9_findCommission_3 (by decide) ?_
  obtain ⟨q1, h1, h⟩ := bd_some h
  refine b_callV (isC := [0, 1, 2, 3]) (ci := 7)  (st := []) (bs1 := [bTrialsG K (a0 0) ((a0 1) 0) ((a0 2) 0) ((a0 3) 0) q1, bFairG K (a0 1) g1, bOrderG K (a0 2) g2, bOrderG K (a0 3) g3, bFairG K a1 g4, bRuleG K a2 g5]) (cTrials_find (a0 := a0) (g0 := g0) (g1 := g1) (g2 := g2) (g3 := g3) h1) rfl rfl (Nat.le_of_ble_eq_true rfl) kTrials_find (tb_in (i := 10) (j := 20) rfl rfl) (by decide) (by decide) rfl rfl rfl rfl rfl rfl rfl dX9_findCommission_4 ?_
  refine r_iconst (x := (0 : Int32)) dX9_findCommission_7 (by decide) ?_
  refine r_istore (lv' := [(5, .int (0 : Int32)), (0, .ref ((a0 0) 0)), (1, .ref (a1 0)), (2, .ref (a2 0)), (3, .int x3), (4, .int x4)]) dX9_findCommission_8 (Nat.le_of_ble_eq_true rfl) rfl ?_
  refine r_sub (lv' := [(0, .ref ((a0 0) 0)), (1, .ref (a1 0)), (2, .ref (a2 0)), (3, .int x3), (4, .int x4), (5, .int (0 : Int32))]) [1, 2, 3, 4, 5, 0] rfl ?_
  exact cTrials_findCommissionrr_l10 (g4 := g4)  FU (0 : Int32) q1 g1 g5 h
end
abbrev MTrials_findCommissionrn : rx_M := (RX9, yX9_findCommission, cX9_findCommission, 6, none, 6)
theorem kTrials_findCommissionrn : rKv MTrials_findCommissionrn 4 := ⟨tb_in (i := 15) (j := 15) rfl rfl, tb_in (i := 15) (j := 16) rfl rfl, tb_in (i := 10) (j := 11) rfl rfl, tb_in (i := 10) (j := 24) rfl rfl, ⟨by decide, by decide, by decide +kernel⟩, by decide⟩
section
variable {a0 : Nat → Nat → Nat} {a1 : Nat → Nat} {g0 : tyTrials} {g1 : tyFair} {g2 : tyOrder} {g3 : tyOrder} {g4 : tyFair}
def mTrials_findCommissionrn_l10 (g4 : tyFair) (x3 : Int32) (x4 : Int32) : Nat → Int32 → tyTrials → tyFair → Option (tyTrials × tyFair)
  | 0, _, _, _ => none
  | n + 1, x5, g0, g1 => (if (9 : Int32) < x5 then some (g0, g1) else (mTrials_from g1 g4).bind (fun q3 => (mFair_gon x4 (-1 : Int32) q3.1 x5 q3.2.2.1 q3.2.2.2.1 q3.2.2.2.2.1 q3.2.2.2.2.2.1 q3.2.2.2.2.2.2.1 q3.2.2.2.2.2.2.2.2.1 q3.2.2.2.2.2.2.2.2.2.1 q3.2.2.2.2.2.2.2.2.2.2.1 q3.2.2.2.2.2.2.2.2.2.2.2.2.2.1 q3.2.2.2.2.2.2.2.2.2.2.2.2.2.2.1 q3.2.2.2.2.2.2.2.2.2.2.2.2.2.2.2.1 q3.2.2.2.2.2.2.2.2.2.2.2.2.2.2.2.2.1 q3.2.2.2.2.2.2.2.2.2.2.2.2.2.2.2.2.2.1).bind (fun q4 => rq (inb x3 6) (rq (inb (1 : Int32) 3) ((if (q4.2.2.2.2.1 x3.toNatClampNeg) ≤ (g0.1 (1 : Int32).toNatClampNeg) then mTrials_findCommissionrn_l10 g4 x3 x4 n (x5 + (1 : Int32)) g0 (q3.1, x5, q3.2.2.1, q3.2.2.2.1, q4.2.1, q4.2.2.1, q3.2.2.2.2.2.2.1, q3.2.2.2.2.2.2.2.1, q4.2.2.2.1, q4.2.2.2.2.1, q4.2.2.2.2.2.1, q3.2.2.2.2.2.2.2.2.2.2.2.1, q3.2.2.2.2.2.2.2.2.2.2.2.2.1, q4.2.2.2.2.2.2.1, q3.2.2.2.2.2.2.2.2.2.2.2.2.2.2.1, q4.2.2.2.2.2.2.2, q3.2.2.2.2.2.2.2.2.2.2.2.2.2.2.2.2.1, q3.2.2.2.2.2.2.2.2.2.2.2.2.2.2.2.2.2.1, q3.2.2.2.2.2.2.2.2.2.2.2.2.2.2.2.2.2.2) else rq (inb x3 6) ((mTrials_find x5 (q4.2.2.2.2.1 x3.toNatClampNeg) (0 : Int32) g0).bind (fun q9 => mTrials_findCommissionrn_l10 g4 x3 x4 n (x5 + (1 : Int32)) q9 (q3.1, x5, q3.2.2.1, q3.2.2.2.1, q4.2.1, q4.2.2.1, q3.2.2.2.2.2.2.1, q3.2.2.2.2.2.2.2.1, q4.2.2.2.1, q4.2.2.2.2.1, q4.2.2.2.2.2.1, q3.2.2.2.2.2.2.2.2.2.2.2.1, q3.2.2.2.2.2.2.2.2.2.2.2.2.1, q4.2.2.2.2.2.2.1, q3.2.2.2.2.2.2.2.2.2.2.2.2.2.2.1, q4.2.2.2.2.2.2.2, q3.2.2.2.2.2.2.2.2.2.2.2.2.2.2.2.2.1, q3.2.2.2.2.2.2.2.2.2.2.2.2.2.2.2.2.2.1, q3.2.2.2.2.2.2.2.2.2.2.2.2.2.2.2.2.2.2)))))))))
set_option maxHeartbeats 4000000 in
set_option maxRecDepth 20000 in
theorem cTrials_findCommissionrn_l10 {q : tyTrials × tyFair} {x3 : Int32} {x4 : Int32}  : ∀ (n : Nat) (x5 : Int32) (g0 : tyTrials) (g1 : tyFair), mTrials_findCommissionrn_l10 g4 x3 x4 n x5 g0 g1 = some q → rW l D Z (ty7 K) MTrials_findCommissionrn 10 [(0, .ref ((a0 0) 0)), (1, .ref (a1 0)), (2, .null), (3, .int x3), (4, .int x4), (5, .int x5)] [] (List.flatten [bTrialsG K (a0 0) ((a0 1) 0) ((a0 2) 0) ((a0 3) 0) g0, bFairG K (a0 1) g1, bOrderG K (a0 2) g2, bOrderG K (a0 3) g3, bFairG K a1 g4]) (List.flatten [bTrialsG K (a0 0) ((a0 1) 0) ((a0 2) 0) ((a0 3) 0) q.1, bFairG K (a0 1) q.2, bOrderG K (a0 2) g2, bOrderG K (a0 3) g3, bFairG K a1 g4]) none := by
  intro n
  induction n with
  | zero => intro x5 g0 g1 h; unfold mTrials_findCommissionrn_l10 at h; cases h
  | succ n ih =>
    intro x5 g0 g1 h
    unfold mTrials_findCommissionrn_l10 at h
    refine r_iload 5 dX9_findCommission_10 rfl ?_
    refine r_bipush (x := (9 : Int32)) dX9_findCommission_12 (by decide) ?_
    refine r_icmp_gt 79 dX9_findCommission_14 (by decide) (fun c2 => ?_) (fun c2 => ?_)
    · replace h := it_pos c2 h
      have hq := Option.some.inj h
      subst hq
      exact r_vret rfl dX9_findCommission_79
    · replace h := it_neg c2 h
      refine r_aload_n 0 dX9_findCommission_17 rfl ?_
      refine r_aload_n 1 dX9_findCommission_18 rfl ?_
      obtain ⟨q3, h3, h⟩ := bd_some h
      refine b_callV (isC := [0, 1, 2, 3, 4]) (ci := 7)  (st := []) (bs1 := [bTrialsG K (a0 0) ((a0 1) 0) ((a0 2) 0) ((a0 3) 0) g0, bFairG K (a0 1) q3, bOrderG K (a0 2) g2, bOrderG K (a0 3) g3, bFairG K a1 g4]) (cTrials_from (a0 := a0) (a1 := a1) (g0 := g0) (g1 := g1) (g2 := g2) (g3 := g3) (g4 := g4) h3) rfl rfl (Nat.le_of_ble_eq_true rfl) kTrials_from (tb_in (i := 10) (j := 8) rfl rfl) (by decide) (by decide) rfl rfl rfl rfl rfl rfl rfl dX9_findCommission_19 ?_
      refine r_iload 5 dX9_findCommission_22 rfl ?_
      refine pFair_keepsN (bs1 := [bTrialsG K (a0 0) ((a0 1) 0) ((a0 2) 0) ((a0 3) 0) g0, bFair K (a0 1) q3.1 x5 q3.2.2.1 q3.2.2.2.1 q3.2.2.2.2.1 q3.2.2.2.2.2.1 q3.2.2.2.2.2.2.1 q3.2.2.2.2.2.2.2.1 q3.2.2.2.2.2.2.2.2.1 q3.2.2.2.2.2.2.2.2.2.1 q3.2.2.2.2.2.2.2.2.2.2.1 q3.2.2.2.2.2.2.2.2.2.2.2.1 q3.2.2.2.2.2.2.2.2.2.2.2.2.1 q3.2.2.2.2.2.2.2.2.2.2.2.2.2.1 q3.2.2.2.2.2.2.2.2.2.2.2.2.2.2.1 q3.2.2.2.2.2.2.2.2.2.2.2.2.2.2.2.1 q3.2.2.2.2.2.2.2.2.2.2.2.2.2.2.2.2.1 q3.2.2.2.2.2.2.2.2.2.2.2.2.2.2.2.2.2.1 q3.2.2.2.2.2.2.2.2.2.2.2.2.2.2.2.2.2.2, bOrderG K (a0 2) g2, bOrderG K (a0 3) g3, bFairG K a1 g4]) 1 rfl rfl (List.mem_of_getElem? (i := 12) rfl) dX9_findCommission_24 ?_
      refine r_aload_n 0 dX9_findCommission_27 rfl ?_
      refine gTrials_fair 0 rfl (tb_in (i := 9) (j := 23) rfl rfl) dX9_findCommission_28 ?_
      refine r_aload_nN 2 dX9_findCommission_31 rfl ?_
      refine r_iload 4 dX9_findCommission_32 rfl ?_
      refine r_iconst (x := (-1 : Int32)) dX9_findCommission_34 (by decide) ?_
      obtain ⟨q4, h4, h⟩ := bd_some h
      refine b_callVN (isC := [1]) (ci := 1)  (st := []) (bs1 := [bTrialsG K (a0 0) ((a0 1) 0) ((a0 2) 0) ((a0 3) 0) g0, bFair K (a0 1) q3.1 x5 q3.2.2.1 q3.2.2.2.1 q4.2.1 q4.2.2.1 q3.2.2.2.2.2.2.1 q3.2.2.2.2.2.2.2.1 q4.2.2.2.1 q4.2.2.2.2.1 q4.2.2.2.2.2.1 q3.2.2.2.2.2.2.2.2.2.2.2.1 q3.2.2.2.2.2.2.2.2.2.2.2.2.1 q4.2.2.2.2.2.2.1 q3.2.2.2.2.2.2.2.2.2.2.2.2.2.2.1 q4.2.2.2.2.2.2.2 q3.2.2.2.2.2.2.2.2.2.2.2.2.2.2.2.2.1 q3.2.2.2.2.2.2.2.2.2.2.2.2.2.2.2.2.2.1 q3.2.2.2.2.2.2.2.2.2.2.2.2.2.2.2.2.2.2, bOrderG K (a0 2) g2, bOrderG K (a0 3) g3, bFairG K a1 g4]) (cFair_gon (a0 := (a0 1)) (z0_lasts := q3.1) (z0_keeps := x5) (z0_stalls := q3.2.2.1) (z0_buyers := q3.2.2.2.1) (z0_minute := q3.2.2.2.2.1) (z0_goods := q3.2.2.2.2.2.1) (z0_price := q3.2.2.2.2.2.2.1) (z0_tongue := q3.2.2.2.2.2.2.2.1) (z0_till := q3.2.2.2.2.2.2.2.2.1) (z0_wealth := q3.2.2.2.2.2.2.2.2.2.1) (z0_sold := q3.2.2.2.2.2.2.2.2.2.2.1) (z0_ring := q3.2.2.2.2.2.2.2.2.2.2.2.1) (z0_grudges := q3.2.2.2.2.2.2.2.2.2.2.2.2.1) (z0_purse := q3.2.2.2.2.2.2.2.2.2.2.2.2.2.1) (z0_came := q3.2.2.2.2.2.2.2.2.2.2.2.2.2.2.1) (z0_had := q3.2.2.2.2.2.2.2.2.2.2.2.2.2.2.2.1) (z0_seller := q3.2.2.2.2.2.2.2.2.2.2.2.2.2.2.2.2.1) (z0_praise := q3.2.2.2.2.2.2.2.2.2.2.2.2.2.2.2.2.2.1) (z0_borne := q3.2.2.2.2.2.2.2.2.2.2.2.2.2.2.2.2.2.2) h4) rfl rfl (Nat.le_of_ble_eq_true rfl) kFair_gon (List.mem_of_getElem? (i := 57) rfl) (by decide) (by decide) rfl rfl rfl rfl rfl rfl rfl dX9_findCommission_35 ?_
      refine r_pop dX9_findCommission_38 rfl ?_
      refine r_aload_n 0 dX9_findCommission_39 rfl ?_
      refine gTrials_fair 0 rfl (tb_in (i := 9) (j := 23) rfl rfl) dX9_findCommission_40 ?_
      refine gFair_wealthN 1 rfl (List.mem_of_getElem? (i := 32) rfl) dX9_findCommission_43 ?_
      refine r_iload_n 3 dX9_findCommission_46 rfl ?_
      obtain ⟨h5, h⟩ := rq_some h
      refine lFair_wealth 1 rfl (inb_in h5) dX9_findCommission_47 ?_
      refine r_aload_n 0 dX9_findCommission_48 rfl ?_
      refine gTrials_found 0 rfl (tb_in (i := 9) (j := 28) rfl rfl) dX9_findCommission_49 ?_
      refine r_iconst (x := (1 : Int32)) dX9_findCommission_52 (by decide) ?_
      obtain ⟨h6, h⟩ := rq_some h
      refine lTrials_found 0 rfl (inb_in h6) dX9_findCommission_53 ?_
      refine r_icmp_le 73 dX9_findCommission_54 (by decide) (fun c7 => ?_) (fun c7 => ?_)
      · replace h := it_pos c7 h
        refine r_iinc (y := (x5 + (1 : Int32))) (lv' := [(5, .int (x5 + (1 : Int32))), (0, .ref ((a0 0) 0)), (1, .ref (a1 0)), (2, .null), (3, .int x3), (4, .int x4)]) 5 dX9_findCommission_73 rfl rfl (Nat.le_of_ble_eq_true rfl) rfl ?_
        refine r_goto 10 dX9_findCommission_76 (by decide) ?_
        refine r_sub (lv' := [(0, .ref ((a0 0) 0)), (1, .ref (a1 0)), (2, .null), (3, .int x3), (4, .int x4), (5, .int (x5 + (1 : Int32)))]) [1, 2, 3, 4, 5, 0] rfl ?_
        exact ih (x5 + (1 : Int32)) g0 (q3.1, x5, q3.2.2.1, q3.2.2.2.1, q4.2.1, q4.2.2.1, q3.2.2.2.2.2.2.1, q3.2.2.2.2.2.2.2.1, q4.2.2.2.1, q4.2.2.2.2.1, q4.2.2.2.2.2.1, q3.2.2.2.2.2.2.2.2.2.2.2.1, q3.2.2.2.2.2.2.2.2.2.2.2.2.1, q4.2.2.2.2.2.2.1, q3.2.2.2.2.2.2.2.2.2.2.2.2.2.2.1, q4.2.2.2.2.2.2.2, q3.2.2.2.2.2.2.2.2.2.2.2.2.2.2.2.2.1, q3.2.2.2.2.2.2.2.2.2.2.2.2.2.2.2.2.2.1, q3.2.2.2.2.2.2.2.2.2.2.2.2.2.2.2.2.2.2) h
      · replace h := it_neg c7 h
        refine r_aload_n 0 dX9_findCommission_57 rfl ?_
        refine r_iload 5 dX9_findCommission_58 rfl ?_
        refine r_aload_n 0 dX9_findCommission_60 rfl ?_
        refine gTrials_fair 0 rfl (tb_in (i := 9) (j := 23) rfl rfl) dX9_findCommission_61 ?_
        refine gFair_wealthN 1 rfl (List.mem_of_getElem? (i := 32) rfl) dX9_findCommission_64 ?_
        refine r_iload_n 3 dX9_findCommission_67 rfl ?_
        obtain ⟨h8, h⟩ := rq_some h
        refine lFair_wealth 1 rfl (inb_in h8) dX9_findCommission_68 ?_
        refine r_iconst (x := (0 : Int32)) dX9_findCommission_69 (by decide) ?_
        obtain ⟨q9, h9, h⟩ := bd_some h
        refine b_callV (isC := [0, 1, 2, 3]) (ci := 7)  (st := []) (bs1 := [bTrialsG K (a0 0) ((a0 1) 0) ((a0 2) 0) ((a0 3) 0) q9, bFair K (a0 1) q3.1 x5 q3.2.2.1 q3.2.2.2.1 q4.2.1 q4.2.2.1 q3.2.2.2.2.2.2.1 q3.2.2.2.2.2.2.2.1 q4.2.2.2.1 q4.2.2.2.2.1 q4.2.2.2.2.2.1 q3.2.2.2.2.2.2.2.2.2.2.2.1 q3.2.2.2.2.2.2.2.2.2.2.2.2.1 q4.2.2.2.2.2.2.1 q3.2.2.2.2.2.2.2.2.2.2.2.2.2.2.1 q4.2.2.2.2.2.2.2 q3.2.2.2.2.2.2.2.2.2.2.2.2.2.2.2.2.1 q3.2.2.2.2.2.2.2.2.2.2.2.2.2.2.2.2.2.1 q3.2.2.2.2.2.2.2.2.2.2.2.2.2.2.2.2.2.2, bOrderG K (a0 2) g2, bOrderG K (a0 3) g3, bFairG K a1 g4]) (cTrials_find (a0 := a0) (g0 := g0) (g1 := (q3.1, x5, q3.2.2.1, q3.2.2.2.1, q4.2.1, q4.2.2.1, q3.2.2.2.2.2.2.1, q3.2.2.2.2.2.2.2.1, q4.2.2.2.1, q4.2.2.2.2.1, q4.2.2.2.2.2.1, q3.2.2.2.2.2.2.2.2.2.2.2.1, q3.2.2.2.2.2.2.2.2.2.2.2.2.1, q4.2.2.2.2.2.2.1, q3.2.2.2.2.2.2.2.2.2.2.2.2.2.2.1, q4.2.2.2.2.2.2.2, q3.2.2.2.2.2.2.2.2.2.2.2.2.2.2.2.2.1, q3.2.2.2.2.2.2.2.2.2.2.2.2.2.2.2.2.2.1, q3.2.2.2.2.2.2.2.2.2.2.2.2.2.2.2.2.2.2)) (g2 := g2) (g3 := g3) h9) rfl rfl (Nat.le_of_ble_eq_true rfl) kTrials_find (tb_in (i := 10) (j := 20) rfl rfl) (by decide) (by decide) rfl rfl rfl rfl rfl rfl rfl dX9_findCommission_70 ?_
        refine r_iinc (y := (x5 + (1 : Int32))) (lv' := [(5, .int (x5 + (1 : Int32))), (0, .ref ((a0 0) 0)), (1, .ref (a1 0)), (2, .null), (3, .int x3), (4, .int x4)]) 5 dX9_findCommission_73 rfl rfl (Nat.le_of_ble_eq_true rfl) rfl ?_
        refine r_goto 10 dX9_findCommission_76 (by decide) ?_
        refine r_sub (lv' := [(0, .ref ((a0 0) 0)), (1, .ref (a1 0)), (2, .null), (3, .int x3), (4, .int x4), (5, .int (x5 + (1 : Int32)))]) [1, 2, 3, 4, 5, 0] rfl ?_
        exact ih (x5 + (1 : Int32)) q9 (q3.1, x5, q3.2.2.1, q3.2.2.2.1, q4.2.1, q4.2.2.1, q3.2.2.2.2.2.2.1, q3.2.2.2.2.2.2.2.1, q4.2.2.2.1, q4.2.2.2.2.1, q4.2.2.2.2.2.1, q3.2.2.2.2.2.2.2.2.2.2.2.1, q3.2.2.2.2.2.2.2.2.2.2.2.2.1, q4.2.2.2.2.2.2.1, q3.2.2.2.2.2.2.2.2.2.2.2.2.2.2.1, q4.2.2.2.2.2.2.2, q3.2.2.2.2.2.2.2.2.2.2.2.2.2.2.2.2.1, q3.2.2.2.2.2.2.2.2.2.2.2.2.2.2.2.2.2.1, q3.2.2.2.2.2.2.2.2.2.2.2.2.2.2.2.2.2.2) h
def mTrials_findCommissionrn (x3 : Int32) (x4 : Int32) (g0 : tyTrials) (g1 : tyFair) (g4 : tyFair) : Option (tyTrials × tyFair) := (mTrials_find (0 : Int32) (-1 : Int32) (0 : Int32) g0).bind (fun q1 => mTrials_findCommissionrn_l10 g4 x3 x4 FU (0 : Int32) q1 g1)
set_option maxHeartbeats 4000000 in
set_option maxRecDepth 20000 in
theorem cTrials_findCommissionrn {q : tyTrials × tyFair} {x3 : Int32} {x4 : Int32} (h : mTrials_findCommissionrn x3 x4 g0 g1 g4 = some q) : rMet l D Z (ty7 K) MTrials_findCommissionrn [.ref ((a0 0) 0), .ref (a1 0), .null, .int x3, .int x4] (List.flatten [bTrialsG K (a0 0) ((a0 1) 0) ((a0 2) 0) ((a0 3) 0) g0, bFairG K (a0 1) g1, bOrderG K (a0 2) g2, bOrderG K (a0 3) g3, bFairG K a1 g4]) (List.flatten [bTrialsG K (a0 0) ((a0 1) 0) ((a0 2) 0) ((a0 3) 0) q.1, bFairG K (a0 1) q.2, bOrderG K (a0 2) g2, bOrderG K (a0 3) g3, bFairG K a1 g4]) none := by
  refine rMet.of (by decide) rfl (Nat.le_of_ble_eq_true rfl) ?_
  refine r_sub (lv' := [(0, .ref ((a0 0) 0)), (1, .ref (a1 0)), (2, .null), (3, .int x3), (4, .int x4)]) [0, 1, 2, 3, 4] rfl ?_
  unfold mTrials_findCommissionrn at h
  refine r_aload_n 0 dX9_findCommission_0 rfl ?_
  refine r_iconst (x := (0 : Int32)) dX9_findCommission_1 (by decide) ?_
  refine r_iconst (x := (-1 : Int32)) dX9_findCommission_2 (by decide) ?_
  refine r_iconst (x := (0 : Int32)) dX9_findCommission_3 (by decide) ?_
  obtain ⟨q1, h1, h⟩ := bd_some h
  refine b_callV (isC := [0, 1, 2, 3]) (ci := 7)  (st := []) (bs1 := [bTrialsG K (a0 0) ((a0 1) 0) ((a0 2) 0) ((a0 3) 0) q1, bFairG K (a0 1) g1, bOrderG K (a0 2) g2, bOrderG K (a0 3) g3, bFairG K a1 g4]) (cTrials_find (a0 := a0) (g0 := g0) (g1 := g1) (g2 := g2) (g3 := g3) h1) rfl rfl (Nat.le_of_ble_eq_true rfl) kTrials_find (tb_in (i := 10) (j := 20) rfl rfl) (by decide) (by decide) rfl rfl rfl rfl rfl rfl rfl dX9_findCommission_4 ?_
  refine r_iconst (x := (0 : Int32)) dX9_findCommission_7 (by decide) ?_
  refine r_istore (lv' := [(5, .int (0 : Int32)), (0, .ref ((a0 0) 0)), (1, .ref (a1 0)), (2, .null), (3, .int x3), (4, .int x4)]) dX9_findCommission_8 (Nat.le_of_ble_eq_true rfl) rfl ?_
  refine r_sub (lv' := [(0, .ref ((a0 0) 0)), (1, .ref (a1 0)), (2, .null), (3, .int x3), (4, .int x4), (5, .int (0 : Int32))]) [1, 2, 3, 4, 5, 0] rfl ?_
  exact cTrials_findCommissionrn_l10 (g4 := g4)  FU (0 : Int32) q1 g1 h
end
theorem dX9_rest_0 : decode cX9_rest 0 = .ok (.iload_n 1, 1) := by decide +kernel
theorem dX9_rest_1 : decode cX9_rest 1 = .ok (.iconst 5, 1) := by decide +kernel
theorem dX9_rest_2 : decode cX9_rest 2 = .ok (.imul, 1) := by decide +kernel
theorem dX9_rest_3 : decode cX9_rest 3 = .ok (.iload_n 2, 1) := by decide +kernel
theorem dX9_rest_4 : decode cX9_rest 4 = .ok (.iadd, 1) := by decide +kernel
theorem dX9_rest_5 : decode cX9_rest 5 = .ok (.istore_n 3, 1) := by decide +kernel
theorem dX9_rest_6 : decode cX9_rest 6 = .ok (.iconst 0, 1) := by decide +kernel
theorem dX9_rest_7 : decode cX9_rest 7 = .ok (.istore 4, 2) := by decide +kernel
theorem dX9_rest_9 : decode cX9_rest 9 = .ok (.iload 4, 2) := by decide +kernel
theorem dX9_rest_11 : decode cX9_rest 11 = .ok (.iconst 5, 1) := by decide +kernel
theorem dX9_rest_12 : decode cX9_rest 12 = .ok (.if_icmp .ge 51, 3) := by decide +kernel
theorem dX9_rest_15 : decode cX9_rest 15 = .ok (.aload_n 0, 1) := by decide +kernel
theorem dX9_rest_16 : decode cX9_rest 16 = .ok (.getfield 35, 3) := by decide +kernel
theorem dX9_rest_19 : decode cX9_rest 19 = .ok (.iload 4, 2) := by decide +kernel
theorem dX9_rest_21 : decode cX9_rest 21 = .ok (.iconst 5, 1) := by decide +kernel
theorem dX9_rest_22 : decode cX9_rest 22 = .ok (.imul, 1) := by decide +kernel
theorem dX9_rest_23 : decode cX9_rest 23 = .ok (.iload_n 2, 1) := by decide +kernel
theorem dX9_rest_24 : decode cX9_rest 24 = .ok (.iadd, 1) := by decide +kernel
theorem dX9_rest_25 : decode cX9_rest 25 = .ok (.iaload, 1) := by decide +kernel
theorem dX9_rest_26 : decode cX9_rest 26 = .ok (.aload_n 0, 1) := by decide +kernel
theorem dX9_rest_27 : decode cX9_rest 27 = .ok (.getfield 35, 3) := by decide +kernel
theorem dX9_rest_30 : decode cX9_rest 30 = .ok (.iload_n 3, 1) := by decide +kernel
theorem dX9_rest_31 : decode cX9_rest 31 = .ok (.iaload, 1) := by decide +kernel
theorem dX9_rest_32 : decode cX9_rest 32 = .ok (.if_icmp .gt 23, 3) := by decide +kernel
theorem dX9_rest_35 : decode cX9_rest 35 = .ok (.aload_n 0, 1) := by decide +kernel
theorem dX9_rest_36 : decode cX9_rest 36 = .ok (.getfield 38, 3) := by decide +kernel
theorem dX9_rest_39 : decode cX9_rest 39 = .ok (.iload_n 1, 1) := by decide +kernel
theorem dX9_rest_40 : decode cX9_rest 40 = .ok (.iconst 5, 1) := by decide +kernel
theorem dX9_rest_41 : decode cX9_rest 41 = .ok (.imul, 1) := by decide +kernel
theorem dX9_rest_42 : decode cX9_rest 42 = .ok (.iload 4, 2) := by decide +kernel
theorem dX9_rest_44 : decode cX9_rest 44 = .ok (.iadd, 1) := by decide +kernel
theorem dX9_rest_45 : decode cX9_rest 45 = .ok (.iaload, 1) := by decide +kernel
theorem dX9_rest_46 : decode cX9_rest 46 = .ok (.aload_n 0, 1) := by decide +kernel
theorem dX9_rest_47 : decode cX9_rest 47 = .ok (.getfield 38, 3) := by decide +kernel
theorem dX9_rest_50 : decode cX9_rest 50 = .ok (.iload_n 3, 1) := by decide +kernel
theorem dX9_rest_51 : decode cX9_rest 51 = .ok (.iaload, 1) := by decide +kernel
theorem dX9_rest_52 : decode cX9_rest 52 = .ok (.if_icmp .le 5, 3) := by decide +kernel
theorem dX9_rest_55 : decode cX9_rest 55 = .ok (.iconst 0, 1) := by decide +kernel
theorem dX9_rest_56 : decode cX9_rest 56 = .ok (.ireturn, 1) := by decide +kernel
theorem dX9_rest_57 : decode cX9_rest 57 = .ok (.iinc 4 1, 3) := by decide +kernel
theorem dX9_rest_60 : decode cX9_rest 60 = .ok (.goto (-51), 3) := by decide +kernel
theorem dX9_rest_63 : decode cX9_rest 63 = .ok (.iconst 1, 1) := by decide +kernel
theorem dX9_rest_64 : decode cX9_rest 64 = .ok (.ireturn, 1) := by decide +kernel
abbrev MTrials_rest : rx_M := (RX9, yX9_rest, cX9_rest, 5, (some .boolean), 1)
theorem kTrials_rest : rKv MTrials_rest 2 := ⟨tb_in (i := 10) (j := 30) rfl rfl, tb_in (i := 10) (j := 31) rfl rfl, tb_in (i := 10) (j := 11) rfl rfl, tb_in (i := 10) (j := 26) rfl rfl, ⟨by decide, by decide, by decide +kernel⟩, by decide⟩
section
variable {a0 : Nat → Nat → Nat} {g0 : tyTrials} {g1 : tyFair} {g2 : tyOrder} {g3 : tyOrder}
def mTrials_rest_l9 (g0 : tyTrials) (x1 : Int32) (x2 : Int32) (x3 : Int32) : Nat → Int32 → Option (Int32)
  | 0, _ => none
  | n + 1, x4 => (if (5 : Int32) ≤ x4 then some ((1 : Int32)) else rq (inb ((x4 * (5 : Int32)) + x2) 25) (rq (inb x3 25) ((if (g0.2.2.1 x3.toNatClampNeg) < (g0.2.2.1 ((x4 * (5 : Int32)) + x2).toNatClampNeg) then some ((0 : Int32)) else rq (inb ((x1 * (5 : Int32)) + x4) 25) (rq (inb x3 25) ((if (g0.2.2.2.1 ((x1 * (5 : Int32)) + x4).toNatClampNeg) ≤ (g0.2.2.2.1 x3.toNatClampNeg) then mTrials_rest_l9 g0 x1 x2 x3 n (x4 + (1 : Int32)) else some ((0 : Int32)))))))))
set_option maxHeartbeats 4000000 in
set_option maxRecDepth 20000 in
theorem cTrials_rest_l9 {q : Int32} {x1 : Int32} {x2 : Int32} {x3 : Int32}  : ∀ (n : Nat) (x4 : Int32), mTrials_rest_l9 g0 x1 x2 x3 n x4 = some q → rW l D Z (ty7 K) MTrials_rest 9 [(0, .ref ((a0 0) 0)), (1, .int x1), (2, .int x2), (3, .int x3), (4, .int x4)] [] (List.flatten [bTrialsG K (a0 0) ((a0 1) 0) ((a0 2) 0) ((a0 3) 0) g0, bFairG K (a0 1) g1, bOrderG K (a0 2) g2, bOrderG K (a0 3) g3]) (List.flatten [bTrialsG K (a0 0) ((a0 1) 0) ((a0 2) 0) ((a0 3) 0) g0, bFairG K (a0 1) g1, bOrderG K (a0 2) g2, bOrderG K (a0 3) g3]) (some (.int q)) := by
  intro n
  induction n with
  | zero => intro x4 h; unfold mTrials_rest_l9 at h; cases h
  | succ n ih =>
    intro x4 h
    unfold mTrials_rest_l9 at h
    refine r_iload 4 dX9_rest_9 rfl ?_
    refine r_iconst (x := (5 : Int32)) dX9_rest_11 (by decide) ?_
    refine r_icmp_ge 63 dX9_rest_12 (by decide) (fun c2 => ?_) (fun c2 => ?_)
    · replace h := it_pos c2 h
      refine r_iconst (x := (1 : Int32)) dX9_rest_63 (by decide) ?_
      have hq := Option.some.inj h
      subst hq
      exact r_zret (ty := .boolean) rfl rfl dX9_rest_64
    · replace h := it_neg c2 h
      refine r_aload_n 0 dX9_rest_15 rfl ?_
      refine gTrials_wealthOfOne 0 rfl (tb_in (i := 9) (j := 30) rfl rfl) dX9_rest_16 ?_
      refine r_iload 4 dX9_rest_19 rfl ?_
      refine r_iconst (x := (5 : Int32)) dX9_rest_21 (by decide) ?_
      refine r_imul dX9_rest_22 ?_
      refine r_iload_n 2 dX9_rest_23 rfl ?_
      refine r_iadd dX9_rest_24 ?_
      obtain ⟨h3, h⟩ := rq_some h
      refine lTrials_wealthOfOne 0 rfl (inb_in h3) dX9_rest_25 ?_
      refine r_aload_n 0 dX9_rest_26 rfl ?_
      refine gTrials_wealthOfOne 0 rfl (tb_in (i := 9) (j := 30) rfl rfl) dX9_rest_27 ?_
      refine r_iload_n 3 dX9_rest_30 rfl ?_
      obtain ⟨h4, h⟩ := rq_some h
      refine lTrials_wealthOfOne 0 rfl (inb_in h4) dX9_rest_31 ?_
      refine r_icmp_gt 55 dX9_rest_32 (by decide) (fun c5 => ?_) (fun c5 => ?_)
      · replace h := it_pos c5 h
        refine r_iconst (x := (0 : Int32)) dX9_rest_55 (by decide) ?_
        have hq := Option.some.inj h
        subst hq
        exact r_zret (ty := .boolean) rfl rfl dX9_rest_56
      · replace h := it_neg c5 h
        refine r_aload_n 0 dX9_rest_35 rfl ?_
        refine gTrials_wealthOfOther 0 rfl (tb_in (i := 9) (j := 31) rfl rfl) dX9_rest_36 ?_
        refine r_iload_n 1 dX9_rest_39 rfl ?_
        refine r_iconst (x := (5 : Int32)) dX9_rest_40 (by decide) ?_
        refine r_imul dX9_rest_41 ?_
        refine r_iload 4 dX9_rest_42 rfl ?_
        refine r_iadd dX9_rest_44 ?_
        obtain ⟨h6, h⟩ := rq_some h
        refine lTrials_wealthOfOther 0 rfl (inb_in h6) dX9_rest_45 ?_
        refine r_aload_n 0 dX9_rest_46 rfl ?_
        refine gTrials_wealthOfOther 0 rfl (tb_in (i := 9) (j := 31) rfl rfl) dX9_rest_47 ?_
        refine r_iload_n 3 dX9_rest_50 rfl ?_
        obtain ⟨h7, h⟩ := rq_some h
        refine lTrials_wealthOfOther 0 rfl (inb_in h7) dX9_rest_51 ?_
        refine r_icmp_le 57 dX9_rest_52 (by decide) (fun c8 => ?_) (fun c8 => ?_)
        · replace h := it_pos c8 h
          refine r_iinc (y := (x4 + (1 : Int32))) (lv' := [(4, .int (x4 + (1 : Int32))), (0, .ref ((a0 0) 0)), (1, .int x1), (2, .int x2), (3, .int x3)]) 4 dX9_rest_57 rfl rfl (Nat.le_of_ble_eq_true rfl) rfl ?_
          refine r_goto 9 dX9_rest_60 (by decide) ?_
          refine r_sub (lv' := [(0, .ref ((a0 0) 0)), (1, .int x1), (2, .int x2), (3, .int x3), (4, .int (x4 + (1 : Int32)))]) [1, 2, 3, 4, 0] rfl ?_
          exact ih (x4 + (1 : Int32)) h
        · replace h := it_neg c8 h
          refine r_iconst (x := (0 : Int32)) dX9_rest_55 (by decide) ?_
          have hq := Option.some.inj h
          subst hq
          exact r_zret (ty := .boolean) rfl rfl dX9_rest_56
def mTrials_rest (x1 : Int32) (x2 : Int32) (g0 : tyTrials) : Option (Int32) := lt ((x1 * (5 : Int32)) + x2) (fun y1 => mTrials_rest_l9 g0 x1 x2 y1 FU (0 : Int32))
set_option maxHeartbeats 4000000 in
set_option maxRecDepth 20000 in
theorem cTrials_rest {q : Int32} {x1 : Int32} {x2 : Int32} (h : mTrials_rest x1 x2 g0 = some q) : rMet l D Z (ty7 K) MTrials_rest [.ref ((a0 0) 0), .int x1, .int x2] (List.flatten [bTrialsG K (a0 0) ((a0 1) 0) ((a0 2) 0) ((a0 3) 0) g0, bFairG K (a0 1) g1, bOrderG K (a0 2) g2, bOrderG K (a0 3) g3]) (List.flatten [bTrialsG K (a0 0) ((a0 1) 0) ((a0 2) 0) ((a0 3) 0) g0, bFairG K (a0 1) g1, bOrderG K (a0 2) g2, bOrderG K (a0 3) g3]) (some (.int q)) := by
  refine rMet.of (by decide) rfl (Nat.le_of_ble_eq_true rfl) ?_
  refine r_sub (lv' := [(0, .ref ((a0 0) 0)), (1, .int x1), (2, .int x2)]) [0, 1, 2] rfl ?_
  unfold mTrials_rest at h
  refine r_iload_n 1 dX9_rest_0 rfl ?_
  refine r_iconst (x := (5 : Int32)) dX9_rest_1 (by decide) ?_
  refine r_imul dX9_rest_2 ?_
  refine r_iload_n 2 dX9_rest_3 rfl ?_
  refine r_iadd dX9_rest_4 ?_
  obtain ⟨y1, e1, h⟩ := lt_some h
  refine r_top e1 ?_
  refine r_istore_n (lv' := [(3, .int y1), (0, .ref ((a0 0) 0)), (1, .int x1), (2, .int x2)]) dX9_rest_5 (Nat.le_of_ble_eq_true rfl) rfl ?_
  refine r_iconst (x := (0 : Int32)) dX9_rest_6 (by decide) ?_
  refine r_istore (lv' := [(4, .int (0 : Int32)), (3, .int y1), (0, .ref ((a0 0) 0)), (1, .int x1), (2, .int x2)]) dX9_rest_7 (Nat.le_of_ble_eq_true rfl) rfl ?_
  refine r_sub (lv' := [(0, .ref ((a0 0) 0)), (1, .int x1), (2, .int x2), (3, .int y1), (4, .int (0 : Int32))]) [2, 3, 4, 1, 0] rfl ?_
  exact cTrials_rest_l9 (g0 := g0)  FU (0 : Int32) h
end
theorem dX9_priceOfRests_0 : decode cX9_priceOfRests 0 = .ok (.iconst 2, 1) := by decide +kernel
theorem dX9_priceOfRests_1 : decode cX9_priceOfRests 1 = .ok (.iconst 2, 1) := by decide +kernel
theorem dX9_priceOfRests_2 : decode cX9_priceOfRests 2 = .ok (.iload_n 0, 1) := by decide +kernel
theorem dX9_priceOfRests_3 : decode cX9_priceOfRests 3 = .ok (.imul, 1) := by decide +kernel
theorem dX9_priceOfRests_4 : decode cX9_priceOfRests 4 = .ok (.iadd, 1) := by decide +kernel
theorem dX9_priceOfRests_5 : decode cX9_priceOfRests 5 = .ok (.ireturn, 1) := by decide +kernel
abbrev MTrials_priceOfRests : rx_M := (RX9, yX9_priceOfRests, cX9_priceOfRests, 1, (some .int), 1)
theorem kTrials_priceOfRests : rKs MTrials_priceOfRests 1 := ⟨tb_in (i := 10) (j := 28) rfl rfl, tb_in (i := 10) (j := 11) rfl rfl, tb_in (i := 10) (j := 25) rfl rfl, ⟨by decide, by decide, by decide +kernel⟩, by decide⟩
section
def mTrials_priceOfRests (x0 : Int32) : Option (Int32) := some (((2 : Int32) + ((2 : Int32) * x0)))
set_option maxHeartbeats 4000000 in
set_option maxRecDepth 20000 in
theorem cTrials_priceOfRests {q : Int32} {x0 : Int32} (h : mTrials_priceOfRests x0 = some q) : rMet l D Z (ty7 K) MTrials_priceOfRests [.int x0] (List.flatten []) (List.flatten []) (some (.int q)) := by
  refine rMet.of (by decide) rfl (Nat.le_of_ble_eq_true rfl) ?_
  refine r_sub (lv' := [(0, .int x0)]) [0] rfl ?_
  unfold mTrials_priceOfRests at h
  refine r_iconst (x := (2 : Int32)) dX9_priceOfRests_0 (by decide) ?_
  refine r_iconst (x := (2 : Int32)) dX9_priceOfRests_1 (by decide) ?_
  refine r_iload_n 0 dX9_priceOfRests_2 rfl ?_
  refine r_imul dX9_priceOfRests_3 ?_
  refine r_iadd dX9_priceOfRests_4 ?_
  have hq := Option.some.inj h
  subst hq
  exact r_iret rfl dX9_priceOfRests_5
end
theorem dX9_findRests_0 : decode cX9_findRests 0 = .ok (.iconst 0, 1) := by decide +kernel
theorem dX9_findRests_1 : decode cX9_findRests 1 = .ok (.istore 6, 2) := by decide +kernel
theorem dX9_findRests_3 : decode cX9_findRests 3 = .ok (.iload 6, 2) := by decide +kernel
theorem dX9_findRests_5 : decode cX9_findRests 5 = .ok (.bipush 25, 2) := by decide +kernel
theorem dX9_findRests_7 : decode cX9_findRests 7 = .ok (.if_icmp .ge 88, 3) := by decide +kernel
theorem dX9_findRests_10 : decode cX9_findRests 10 = .ok (.aload_n 0, 1) := by decide +kernel
theorem dX9_findRests_11 : decode cX9_findRests 11 = .ok (.aload_n 1, 1) := by decide +kernel
theorem dX9_findRests_12 : decode cX9_findRests 12 = .ok (.invokevirtual 66, 3) := by decide +kernel
theorem dX9_findRests_15 : decode cX9_findRests 15 = .ok (.getfield 96, 3) := by decide +kernel
theorem dX9_findRests_18 : decode cX9_findRests 18 = .ok (.iload_n 3, 1) := by decide +kernel
theorem dX9_findRests_19 : decode cX9_findRests 19 = .ok (.iload 6, 2) := by decide +kernel
theorem dX9_findRests_21 : decode cX9_findRests 21 = .ok (.iconst 5, 1) := by decide +kernel
theorem dX9_findRests_22 : decode cX9_findRests 22 = .ok (.idiv, 1) := by decide +kernel
theorem dX9_findRests_23 : decode cX9_findRests 23 = .ok (.invokestatic 105, 3) := by decide +kernel
theorem dX9_findRests_26 : decode cX9_findRests 26 = .ok (.iastore, 1) := by decide +kernel
theorem dX9_findRests_27 : decode cX9_findRests 27 = .ok (.aload_n 0, 1) := by decide +kernel
theorem dX9_findRests_28 : decode cX9_findRests 28 = .ok (.getfield 12, 3) := by decide +kernel
theorem dX9_findRests_31 : decode cX9_findRests 31 = .ok (.getfield 96, 3) := by decide +kernel
theorem dX9_findRests_34 : decode cX9_findRests 34 = .ok (.iload 4, 2) := by decide +kernel
theorem dX9_findRests_36 : decode cX9_findRests 36 = .ok (.iload 6, 2) := by decide +kernel
theorem dX9_findRests_38 : decode cX9_findRests 38 = .ok (.iconst 5, 1) := by decide +kernel
theorem dX9_findRests_39 : decode cX9_findRests 39 = .ok (.irem, 1) := by decide +kernel
theorem dX9_findRests_40 : decode cX9_findRests 40 = .ok (.invokestatic 105, 3) := by decide +kernel
theorem dX9_findRests_43 : decode cX9_findRests 43 = .ok (.iastore, 1) := by decide +kernel
theorem dX9_findRests_44 : decode cX9_findRests 44 = .ok (.aload_n 0, 1) := by decide +kernel
theorem dX9_findRests_45 : decode cX9_findRests 45 = .ok (.getfield 12, 3) := by decide +kernel
theorem dX9_findRests_48 : decode cX9_findRests 48 = .ok (.aload_n 2, 1) := by decide +kernel
theorem dX9_findRests_49 : decode cX9_findRests 49 = .ok (.iload 5, 2) := by decide +kernel
theorem dX9_findRests_51 : decode cX9_findRests 51 = .ok (.iconst (-1), 1) := by decide +kernel
theorem dX9_findRests_52 : decode cX9_findRests 52 = .ok (.invokevirtual 74, 3) := by decide +kernel
theorem dX9_findRests_55 : decode cX9_findRests 55 = .ok (.pop, 1) := by decide +kernel
theorem dX9_findRests_56 : decode cX9_findRests 56 = .ok (.aload_n 0, 1) := by decide +kernel
theorem dX9_findRests_57 : decode cX9_findRests 57 = .ok (.getfield 35, 3) := by decide +kernel
theorem dX9_findRests_60 : decode cX9_findRests 60 = .ok (.iload 6, 2) := by decide +kernel
theorem dX9_findRests_62 : decode cX9_findRests 62 = .ok (.aload_n 0, 1) := by decide +kernel
theorem dX9_findRests_63 : decode cX9_findRests 63 = .ok (.getfield 12, 3) := by decide +kernel
theorem dX9_findRests_66 : decode cX9_findRests 66 = .ok (.getfield 99, 3) := by decide +kernel
theorem dX9_findRests_69 : decode cX9_findRests 69 = .ok (.iload_n 3, 1) := by decide +kernel
theorem dX9_findRests_70 : decode cX9_findRests 70 = .ok (.iaload, 1) := by decide +kernel
theorem dX9_findRests_71 : decode cX9_findRests 71 = .ok (.iastore, 1) := by decide +kernel
theorem dX9_findRests_72 : decode cX9_findRests 72 = .ok (.aload_n 0, 1) := by decide +kernel
theorem dX9_findRests_73 : decode cX9_findRests 73 = .ok (.getfield 38, 3) := by decide +kernel
theorem dX9_findRests_76 : decode cX9_findRests 76 = .ok (.iload 6, 2) := by decide +kernel
theorem dX9_findRests_78 : decode cX9_findRests 78 = .ok (.aload_n 0, 1) := by decide +kernel
theorem dX9_findRests_79 : decode cX9_findRests 79 = .ok (.getfield 12, 3) := by decide +kernel
theorem dX9_findRests_82 : decode cX9_findRests 82 = .ok (.getfield 99, 3) := by decide +kernel
theorem dX9_findRests_85 : decode cX9_findRests 85 = .ok (.iload 4, 2) := by decide +kernel
theorem dX9_findRests_87 : decode cX9_findRests 87 = .ok (.iaload, 1) := by decide +kernel
theorem dX9_findRests_88 : decode cX9_findRests 88 = .ok (.iastore, 1) := by decide +kernel
theorem dX9_findRests_89 : decode cX9_findRests 89 = .ok (.iinc 6 1, 3) := by decide +kernel
theorem dX9_findRests_92 : decode cX9_findRests 92 = .ok (.goto (-89), 3) := by decide +kernel
theorem dX9_findRests_95 : decode cX9_findRests 95 = .ok (.aload_n 0, 1) := by decide +kernel
theorem dX9_findRests_96 : decode cX9_findRests 96 = .ok (.iconst 0, 1) := by decide +kernel
theorem dX9_findRests_97 : decode cX9_findRests 97 = .ok (.bipush (-2), 2) := by decide +kernel
theorem dX9_findRests_99 : decode cX9_findRests 99 = .ok (.bipush (-2), 2) := by decide +kernel
theorem dX9_findRests_101 : decode cX9_findRests 101 = .ok (.invokevirtual 92, 3) := by decide +kernel
theorem dX9_findRests_104 : decode cX9_findRests 104 = .ok (.iconst 0, 1) := by decide +kernel
theorem dX9_findRests_105 : decode cX9_findRests 105 = .ok (.istore 6, 2) := by decide +kernel
theorem dX9_findRests_107 : decode cX9_findRests 107 = .ok (.iload 6, 2) := by decide +kernel
theorem dX9_findRests_109 : decode cX9_findRests 109 = .ok (.iconst 5, 1) := by decide +kernel
theorem dX9_findRests_110 : decode cX9_findRests 110 = .ok (.if_icmp .ge 72, 3) := by decide +kernel
theorem dX9_findRests_113 : decode cX9_findRests 113 = .ok (.iconst 0, 1) := by decide +kernel
theorem dX9_findRests_114 : decode cX9_findRests 114 = .ok (.istore 7, 2) := by decide +kernel
theorem dX9_findRests_116 : decode cX9_findRests 116 = .ok (.iload 7, 2) := by decide +kernel
theorem dX9_findRests_118 : decode cX9_findRests 118 = .ok (.iconst 5, 1) := by decide +kernel
theorem dX9_findRests_119 : decode cX9_findRests 119 = .ok (.if_icmp .ge 57, 3) := by decide +kernel
theorem dX9_findRests_122 : decode cX9_findRests 122 = .ok (.aload_n 0, 1) := by decide +kernel
theorem dX9_findRests_123 : decode cX9_findRests 123 = .ok (.iload 6, 2) := by decide +kernel
theorem dX9_findRests_125 : decode cX9_findRests 125 = .ok (.iload 7, 2) := by decide +kernel
theorem dX9_findRests_127 : decode cX9_findRests 127 = .ok (.invokevirtual 109, 3) := by decide +kernel
theorem dX9_findRests_130 : decode cX9_findRests 130 = .ok (.ifCond .ne 6, 3) := by decide +kernel
theorem dX9_findRests_133 : decode cX9_findRests 133 = .ok (.goto 37, 3) := by decide +kernel
theorem dX9_findRests_136 : decode cX9_findRests 136 = .ok (.aload_n 0, 1) := by decide +kernel
theorem dX9_findRests_137 : decode cX9_findRests 137 = .ok (.getfield 28, 3) := by decide +kernel
theorem dX9_findRests_140 : decode cX9_findRests 140 = .ok (.iconst 0, 1) := by decide +kernel
theorem dX9_findRests_141 : decode cX9_findRests 141 = .ok (.iaload, 1) := by decide +kernel
theorem dX9_findRests_142 : decode cX9_findRests 142 = .ok (.ifCond .ne 18, 3) := by decide +kernel
theorem dX9_findRests_145 : decode cX9_findRests 145 = .ok (.aload_n 0, 1) := by decide +kernel
theorem dX9_findRests_146 : decode cX9_findRests 146 = .ok (.iconst 0, 1) := by decide +kernel
theorem dX9_findRests_147 : decode cX9_findRests 147 = .ok (.iload 6, 2) := by decide +kernel
theorem dX9_findRests_149 : decode cX9_findRests 149 = .ok (.invokestatic 105, 3) := by decide +kernel
theorem dX9_findRests_152 : decode cX9_findRests 152 = .ok (.iload 7, 2) := by decide +kernel
theorem dX9_findRests_154 : decode cX9_findRests 154 = .ok (.invokestatic 105, 3) := by decide +kernel
theorem dX9_findRests_157 : decode cX9_findRests 157 = .ok (.invokevirtual 92, 3) := by decide +kernel
theorem dX9_findRests_160 : decode cX9_findRests 160 = .ok (.aload_n 0, 1) := by decide +kernel
theorem dX9_findRests_161 : decode cX9_findRests 161 = .ok (.getfield 28, 3) := by decide +kernel
theorem dX9_findRests_164 : decode cX9_findRests 164 = .ok (.iconst 0, 1) := by decide +kernel
theorem dX9_findRests_165 : decode cX9_findRests 165 = .ok (.dup2, 1) := by decide +kernel
theorem dX9_findRests_166 : decode cX9_findRests 166 = .ok (.iaload, 1) := by decide +kernel
theorem dX9_findRests_167 : decode cX9_findRests 167 = .ok (.iconst 1, 1) := by decide +kernel
theorem dX9_findRests_168 : decode cX9_findRests 168 = .ok (.iadd, 1) := by decide +kernel
theorem dX9_findRests_169 : decode cX9_findRests 169 = .ok (.iastore, 1) := by decide +kernel
theorem dX9_findRests_170 : decode cX9_findRests 170 = .ok (.iinc 7 1, 3) := by decide +kernel
theorem dX9_findRests_173 : decode cX9_findRests 173 = .ok (.goto (-57), 3) := by decide +kernel
theorem dX9_findRests_176 : decode cX9_findRests 176 = .ok (.iinc 6 1, 3) := by decide +kernel
theorem dX9_findRests_179 : decode cX9_findRests 179 = .ok (.goto (-72), 3) := by decide +kernel
theorem dX9_findRests_182 : decode cX9_findRests 182 = .ok (.return_, 1) := by decide +kernel
abbrev MTrials_findRestsrr : rx_M := (RX9, yX9_findRests, cX9_findRests, 8, none, 6)
theorem kTrials_findRestsrr : rKv MTrials_findRestsrr 5 := ⟨tb_in (i := 15) (j := 12) rfl rfl, tb_in (i := 15) (j := 13) rfl rfl, tb_in (i := 10) (j := 11) rfl rfl, tb_in (i := 11) (j := 0) rfl rfl, ⟨by decide, by decide, by decide +kernel⟩, by decide⟩
section
variable {a0 : Nat → Nat → Nat} {a1 : Nat → Nat} {a2 : Nat → Nat} {g0 : tyTrials} {g1 : tyFair} {g2 : tyOrder} {g3 : tyOrder} {g4 : tyFair} {g5 : tyRule}
def mTrials_findRestsrr_l116 (g1 : tyFair) (g4 : tyFair) (g5 : tyRule) (x6 : Int32) (k107 : Int32 → tyTrials → Option (tyTrials × tyFair × tyRule)) : Nat → Int32 → tyTrials → Option (tyTrials × tyFair × tyRule)
  | 0, _, _ => none
  | n + 1, x7, g0 => (if (5 : Int32) ≤ x7 then k107 (x6 + (1 : Int32)) g0 else (mTrials_rest x6 x7 g0).bind (fun q5 => (if q5 = 0 then mTrials_findRestsrr_l116 g1 g4 g5 x6 k107 n (x7 + (1 : Int32)) g0 else rq (inb (0 : Int32) 3) ((if (g0.1 (0 : Int32).toNatClampNeg) = 0 then (mTrials_priceOfRests x6).bind (fun q11 => (mTrials_priceOfRests x7).bind (fun q12 => (mTrials_find (0 : Int32) q11 q12 g0).bind (fun q13 => rq (inb (0 : Int32) 3) (rq (inb (0 : Int32) 3) (lt (upd q13.1 (0 : Int32).toNatClampNeg ((q13.1 (0 : Int32).toNatClampNeg) + (1 : Int32))) (fun u15 => mTrials_findRestsrr_l116 g1 g4 g5 x6 k107 n (x7 + (1 : Int32)) (u15, q13.2.1, q13.2.2.1, q13.2.2.2.1, q13.2.2.2.2))))))) else rq (inb (0 : Int32) 3) (rq (inb (0 : Int32) 3) (lt (upd g0.1 (0 : Int32).toNatClampNeg ((g0.1 (0 : Int32).toNatClampNeg) + (1 : Int32))) (fun u10 => mTrials_findRestsrr_l116 g1 g4 g5 x6 k107 n (x7 + (1 : Int32)) (u10, g0.2.1, g0.2.2.1, g0.2.2.2.1, g0.2.2.2.2)))))))))
set_option maxHeartbeats 4000000 in
set_option maxRecDepth 20000 in
theorem cTrials_findRestsrr_l116 {q : tyTrials × tyFair × tyRule} {x6 : Int32} {k107 : Int32 → tyTrials → Option (tyTrials × tyFair × tyRule)} (hk107 : ∀ (x6 : Int32) (g0 : tyTrials), k107 x6 g0 = some q → rW l D Z (ty7 K) MTrials_findRestsrr 107 [(0, .ref ((a0 0) 0)), (6, .int x6)] [] (List.flatten [bTrialsG K (a0 0) ((a0 1) 0) ((a0 2) 0) ((a0 3) 0) g0, bFairG K (a0 1) g1, bOrderG K (a0 2) g2, bOrderG K (a0 3) g3, bFairG K a1 g4, bRuleG K a2 g5]) (List.flatten [bTrialsG K (a0 0) ((a0 1) 0) ((a0 2) 0) ((a0 3) 0) q.1, bFairG K (a0 1) q.2.1, bOrderG K (a0 2) g2, bOrderG K (a0 3) g3, bFairG K a1 g4, bRuleG K a2 q.2.2]) none) : ∀ (n : Nat) (x7 : Int32) (g0 : tyTrials), mTrials_findRestsrr_l116 g1 g4 g5 x6 k107 n x7 g0 = some q → rW l D Z (ty7 K) MTrials_findRestsrr 116 [(0, .ref ((a0 0) 0)), (6, .int x6), (7, .int x7)] [] (List.flatten [bTrialsG K (a0 0) ((a0 1) 0) ((a0 2) 0) ((a0 3) 0) g0, bFairG K (a0 1) g1, bOrderG K (a0 2) g2, bOrderG K (a0 3) g3, bFairG K a1 g4, bRuleG K a2 g5]) (List.flatten [bTrialsG K (a0 0) ((a0 1) 0) ((a0 2) 0) ((a0 3) 0) q.1, bFairG K (a0 1) q.2.1, bOrderG K (a0 2) g2, bOrderG K (a0 3) g3, bFairG K a1 g4, bRuleG K a2 q.2.2]) none := by
  intro n
  induction n with
  | zero => intro x7 g0 h; unfold mTrials_findRestsrr_l116 at h; cases h
  | succ n ih =>
    intro x7 g0 h
    unfold mTrials_findRestsrr_l116 at h
    refine r_iload 2 dX9_findRests_116 rfl ?_
    refine r_iconst (x := (5 : Int32)) dX9_findRests_118 (by decide) ?_
    refine r_icmp_ge 176 dX9_findRests_119 (by decide) (fun c4 => ?_) (fun c4 => ?_)
    · replace h := it_pos c4 h
      refine r_iinc (y := (x6 + (1 : Int32))) (lv' := [(6, .int (x6 + (1 : Int32))), (0, .ref ((a0 0) 0)), (7, .int x7)]) 1 dX9_findRests_176 rfl rfl (Nat.le_of_ble_eq_true rfl) rfl ?_
      refine r_goto 107 dX9_findRests_179 (by decide) ?_
      refine r_sub (lv' := [(0, .ref ((a0 0) 0)), (6, .int (x6 + (1 : Int32)))]) [1, 0] rfl ?_
      exact hk107 (x6 + (1 : Int32)) g0 h
    · replace h := it_neg c4 h
      refine r_aload_n 0 dX9_findRests_122 rfl ?_
      refine r_iload 1 dX9_findRests_123 rfl ?_
      refine r_iload 2 dX9_findRests_125 rfl ?_
      obtain ⟨q5, h5, h⟩ := bd_some h
      refine b_callV (isC := [0, 1, 2, 3]) (ci := 7)  (st := []) (bs1 := [bTrialsG K (a0 0) ((a0 1) 0) ((a0 2) 0) ((a0 3) 0) g0, bFairG K (a0 1) g1, bOrderG K (a0 2) g2, bOrderG K (a0 3) g3, bFairG K a1 g4, bRuleG K a2 g5]) (cTrials_rest (a0 := a0) (g0 := g0) (g1 := g1) (g2 := g2) (g3 := g3) h5) rfl rfl (Nat.le_of_ble_eq_true rfl) kTrials_rest (tb_in (i := 10) (j := 29) rfl rfl) (by decide) (by decide) rfl rfl rfl rfl rfl rfl rfl dX9_findRests_127 ?_
      refine r_if_ne 136 dX9_findRests_130 (by decide) (fun c6 => ?_) (fun c6 => ?_)
      · replace h := it_neg c6 h
        refine r_aload_n 0 dX9_findRests_136 rfl ?_
        refine gTrials_found 0 rfl (tb_in (i := 9) (j := 28) rfl rfl) dX9_findRests_137 ?_
        refine r_iconst (x := (0 : Int32)) dX9_findRests_140 (by decide) ?_
        obtain ⟨h7, h⟩ := rq_some h
        refine lTrials_found 0 rfl (inb_in h7) dX9_findRests_141 ?_
        refine r_if_ne 160 dX9_findRests_142 (by decide) (fun c8 => ?_) (fun c8 => ?_)
        · replace h := it_neg c8 h
          refine r_aload_n 0 dX9_findRests_160 rfl ?_
          refine gTrials_found 0 rfl (tb_in (i := 9) (j := 28) rfl rfl) dX9_findRests_161 ?_
          refine r_iconst (x := (0 : Int32)) dX9_findRests_164 (by decide) ?_
          refine r_dup2 dX9_findRests_165 rfl rfl ?_
          obtain ⟨h9, h⟩ := rq_some h
          refine lTrials_found 0 rfl (inb_in h9) dX9_findRests_166 ?_
          refine r_iconst (x := (1 : Int32)) dX9_findRests_167 (by decide) ?_
          refine r_iadd dX9_findRests_168 ?_
          obtain ⟨h10, h⟩ := rq_some h
          obtain ⟨u10, e10, h⟩ := lt_some h
          refine sTrials_found (bs1 := [bTrials K (a0 0) ((a0 1) 0) ((a0 2) 0) ((a0 3) 0) u10 g0.2.1 g0.2.2.1 g0.2.2.2.1 g0.2.2.2.2, bFairG K (a0 1) g1, bOrderG K (a0 2) g2, bOrderG K (a0 3) g3, bFairG K a1 g4, bRuleG K a2 g5]) 0 e10 rfl (inb_in h10) rfl dX9_findRests_169 ?_
          refine r_iinc (y := (x7 + (1 : Int32))) (lv' := [(7, .int (x7 + (1 : Int32))), (0, .ref ((a0 0) 0)), (6, .int x6)]) 2 dX9_findRests_170 rfl rfl (Nat.le_of_ble_eq_true rfl) rfl ?_
          refine r_goto 116 dX9_findRests_173 (by decide) ?_
          refine r_sub (lv' := [(0, .ref ((a0 0) 0)), (6, .int x6), (7, .int (x7 + (1 : Int32)))]) [1, 2, 0] rfl ?_
          exact ih (x7 + (1 : Int32)) (u10, g0.2.1, g0.2.2.1, g0.2.2.2.1, g0.2.2.2.2) h
        · replace h := it_pos c8 h
          refine r_aload_n 0 dX9_findRests_145 rfl ?_
          refine r_iconst (x := (0 : Int32)) dX9_findRests_146 (by decide) ?_
          refine r_iload 1 dX9_findRests_147 rfl ?_
          obtain ⟨q11, h11, h⟩ := bd_some h
          refine b_callS (isC := []) (st := [.int (0 : Int32), .ref ((a0 0) 0)]) (bs1 := [bTrialsG K (a0 0) ((a0 1) 0) ((a0 2) 0) ((a0 3) 0) g0, bFairG K (a0 1) g1, bOrderG K (a0 2) g2, bOrderG K (a0 3) g3, bFairG K a1 g4, bRuleG K a2 g5]) (cTrials_priceOfRests   h11) rfl rfl (Nat.le_of_ble_eq_true rfl) kTrials_priceOfRests (tb_in (i := 10) (j := 27) rfl rfl) (by decide) (by decide) rfl rfl rfl dX9_findRests_149 ?_
          refine r_iload 2 dX9_findRests_152 rfl ?_
          obtain ⟨q12, h12, h⟩ := bd_some h
          refine b_callS (isC := []) (st := [.int q11, .int (0 : Int32), .ref ((a0 0) 0)]) (bs1 := [bTrialsG K (a0 0) ((a0 1) 0) ((a0 2) 0) ((a0 3) 0) g0, bFairG K (a0 1) g1, bOrderG K (a0 2) g2, bOrderG K (a0 3) g3, bFairG K a1 g4, bRuleG K a2 g5]) (cTrials_priceOfRests   h12) rfl rfl (Nat.le_of_ble_eq_true rfl) kTrials_priceOfRests (tb_in (i := 10) (j := 27) rfl rfl) (by decide) (by decide) rfl rfl rfl dX9_findRests_154 ?_
          obtain ⟨q13, h13, h⟩ := bd_some h
          refine b_callV (isC := [0, 1, 2, 3]) (ci := 7)  (st := []) (bs1 := [bTrialsG K (a0 0) ((a0 1) 0) ((a0 2) 0) ((a0 3) 0) q13, bFairG K (a0 1) g1, bOrderG K (a0 2) g2, bOrderG K (a0 3) g3, bFairG K a1 g4, bRuleG K a2 g5]) (cTrials_find (a0 := a0) (g0 := g0) (g1 := g1) (g2 := g2) (g3 := g3) h13) rfl rfl (Nat.le_of_ble_eq_true rfl) kTrials_find (tb_in (i := 10) (j := 20) rfl rfl) (by decide) (by decide) rfl rfl rfl rfl rfl rfl rfl dX9_findRests_157 ?_
          refine r_aload_n 0 dX9_findRests_160 rfl ?_
          refine gTrials_found 0 rfl (tb_in (i := 9) (j := 28) rfl rfl) dX9_findRests_161 ?_
          refine r_iconst (x := (0 : Int32)) dX9_findRests_164 (by decide) ?_
          refine r_dup2 dX9_findRests_165 rfl rfl ?_
          obtain ⟨h14, h⟩ := rq_some h
          refine lTrials_found 0 rfl (inb_in h14) dX9_findRests_166 ?_
          refine r_iconst (x := (1 : Int32)) dX9_findRests_167 (by decide) ?_
          refine r_iadd dX9_findRests_168 ?_
          obtain ⟨h15, h⟩ := rq_some h
          obtain ⟨u15, e15, h⟩ := lt_some h
          refine sTrials_found (bs1 := [bTrials K (a0 0) ((a0 1) 0) ((a0 2) 0) ((a0 3) 0) u15 q13.2.1 q13.2.2.1 q13.2.2.2.1 q13.2.2.2.2, bFairG K (a0 1) g1, bOrderG K (a0 2) g2, bOrderG K (a0 3) g3, bFairG K a1 g4, bRuleG K a2 g5]) 0 e15 rfl (inb_in h15) rfl dX9_findRests_169 ?_
          refine r_iinc (y := (x7 + (1 : Int32))) (lv' := [(7, .int (x7 + (1 : Int32))), (0, .ref ((a0 0) 0)), (6, .int x6)]) 2 dX9_findRests_170 rfl rfl (Nat.le_of_ble_eq_true rfl) rfl ?_
          refine r_goto 116 dX9_findRests_173 (by decide) ?_
          refine r_sub (lv' := [(0, .ref ((a0 0) 0)), (6, .int x6), (7, .int (x7 + (1 : Int32)))]) [1, 2, 0] rfl ?_
          exact ih (x7 + (1 : Int32)) (u15, q13.2.1, q13.2.2.1, q13.2.2.2.1, q13.2.2.2.2) h
      · replace h := it_pos c6 h
        refine r_goto 170 dX9_findRests_133 (by decide) ?_
        refine r_iinc (y := (x7 + (1 : Int32))) (lv' := [(7, .int (x7 + (1 : Int32))), (0, .ref ((a0 0) 0)), (6, .int x6)]) 2 dX9_findRests_170 rfl rfl (Nat.le_of_ble_eq_true rfl) rfl ?_
        refine r_goto 116 dX9_findRests_173 (by decide) ?_
        refine r_sub (lv' := [(0, .ref ((a0 0) 0)), (6, .int x6), (7, .int (x7 + (1 : Int32)))]) [1, 2, 0] rfl ?_
        exact ih (x7 + (1 : Int32)) g0 h
def mTrials_findRestsrr_l107 (g1 : tyFair) (g4 : tyFair) (g5 : tyRule) : Nat → Int32 → tyTrials → Option (tyTrials × tyFair × tyRule)
  | 0, _, _ => none
  | n + 1, x6, g0 => (if (5 : Int32) ≤ x6 then some (g0, g1, g5) else mTrials_findRestsrr_l116 g1 g4 g5 x6 (mTrials_findRestsrr_l107 g1 g4 g5 n) FU (0 : Int32) g0)
set_option maxHeartbeats 4000000 in
set_option maxRecDepth 20000 in
theorem cTrials_findRestsrr_l107 {q : tyTrials × tyFair × tyRule}   : ∀ (n : Nat) (x6 : Int32) (g0 : tyTrials), mTrials_findRestsrr_l107 g1 g4 g5 n x6 g0 = some q → rW l D Z (ty7 K) MTrials_findRestsrr 107 [(0, .ref ((a0 0) 0)), (6, .int x6)] [] (List.flatten [bTrialsG K (a0 0) ((a0 1) 0) ((a0 2) 0) ((a0 3) 0) g0, bFairG K (a0 1) g1, bOrderG K (a0 2) g2, bOrderG K (a0 3) g3, bFairG K a1 g4, bRuleG K a2 g5]) (List.flatten [bTrialsG K (a0 0) ((a0 1) 0) ((a0 2) 0) ((a0 3) 0) q.1, bFairG K (a0 1) q.2.1, bOrderG K (a0 2) g2, bOrderG K (a0 3) g3, bFairG K a1 g4, bRuleG K a2 q.2.2]) none := by
  intro n
  induction n with
  | zero => intro x6 g0 h; unfold mTrials_findRestsrr_l107 at h; cases h
  | succ n ih =>
    intro x6 g0 h
    unfold mTrials_findRestsrr_l107 at h
    refine r_iload 1 dX9_findRests_107 rfl ?_
    refine r_iconst (x := (5 : Int32)) dX9_findRests_109 (by decide) ?_
    refine r_icmp_ge 182 dX9_findRests_110 (by decide) (fun c3 => ?_) (fun c3 => ?_)
    · replace h := it_pos c3 h
      have hq := Option.some.inj h
      subst hq
      exact r_vret rfl dX9_findRests_182
    · replace h := it_neg c3 h
      refine r_iconst (x := (0 : Int32)) dX9_findRests_113 (by decide) ?_
      refine r_istore (lv' := [(7, .int (0 : Int32)), (0, .ref ((a0 0) 0)), (6, .int x6)]) dX9_findRests_114 (Nat.le_of_ble_eq_true rfl) rfl ?_
      refine r_sub (lv' := [(0, .ref ((a0 0) 0)), (6, .int x6), (7, .int (0 : Int32))]) [1, 2, 0] rfl ?_
      exact cTrials_findRestsrr_l116 (g1 := g1) (g4 := g4) (g5 := g5) (ih) FU (0 : Int32) g0 h
def mTrials_findRestsrr_l3 (g4 : tyFair) (x3 : Int32) (x4 : Int32) (x5 : Int32) : Nat → Int32 → tyTrials → tyFair → tyRule → Option (tyTrials × tyFair × tyRule)
  | 0, _, _, _, _ => none
  | n + 1, x6, g0, g1, g5 => (if (25 : Int32) ≤ x6 then (mTrials_find (0 : Int32) (-2 : Int32) (-2 : Int32) g0).bind (fun q2 => mTrials_findRestsrr_l107 g1 g4 g5 FU (0 : Int32) q2) else (mTrials_from g1 g4).bind (fun q16 => (mTrials_priceOfRests (x6 / (5 : Int32))).bind (fun q17 => rq (inb x3 6) (lt (upd q16.2.2.2.2.2.2.1 x3.toNatClampNeg q17) (fun u18 => (mTrials_priceOfRests (x6 - x6 / (5 : Int32) * (5 : Int32))).bind (fun q19 => rq (inb x4 6) (lt (upd u18 x4.toNatClampNeg q19) (fun u20 => (mFair_gor x5 (-1 : Int32) q16.1 q16.2.1 q16.2.2.1 q16.2.2.2.1 q16.2.2.2.2.1 q16.2.2.2.2.2.1 u20 q16.2.2.2.2.2.2.2.2.1 q16.2.2.2.2.2.2.2.2.2.1 q16.2.2.2.2.2.2.2.2.2.2.1 q16.2.2.2.2.2.2.2.2.2.2.2.2.2.1 q16.2.2.2.2.2.2.2.2.2.2.2.2.2.2.1 q16.2.2.2.2.2.2.2.2.2.2.2.2.2.2.2.1 q16.2.2.2.2.2.2.2.2.2.2.2.2.2.2.2.2.1 q16.2.2.2.2.2.2.2.2.2.2.2.2.2.2.2.2.2.1 q16.2.2.2.2.2.2.2.2.2.2.2.2.2.2.2.2.2.2 g5.1 g5.2.1 g5.2.2.1 g5.2.2.2.1 g5.2.2.2.2.1 g5.2.2.2.2.2.1 g5.2.2.2.2.2.2.2.1 g5.2.2.2.2.2.2.2.2.1 g5.2.2.2.2.2.2.2.2.2).bind (fun q21 => rq (inb x3 6) (rq (inb x6 25) (lt (upd g0.2.2.1 x6.toNatClampNeg (q21.2.2.2.2.1 x3.toNatClampNeg)) (fun u23 => rq (inb x4 6) (rq (inb x6 25) (lt (upd g0.2.2.2.1 x6.toNatClampNeg (q21.2.2.2.2.1 x4.toNatClampNeg)) (fun u25 => mTrials_findRestsrr_l3 g4 x3 x4 x5 n (x6 + (1 : Int32)) (g0.1, g0.2.1, u23, u25, g0.2.2.2.2) (q16.1, q16.2.1, q16.2.2.1, q16.2.2.2.1, q21.2.1, q21.2.2.1, u20, q16.2.2.2.2.2.2.2.1, q21.2.2.2.1, q21.2.2.2.2.1, q21.2.2.2.2.2.1, q16.2.2.2.2.2.2.2.2.2.2.2.1, q16.2.2.2.2.2.2.2.2.2.2.2.2.1, q21.2.2.2.2.2.2.1, q16.2.2.2.2.2.2.2.2.2.2.2.2.2.2.1, q21.2.2.2.2.2.2.2.1, q16.2.2.2.2.2.2.2.2.2.2.2.2.2.2.2.2.1, q16.2.2.2.2.2.2.2.2.2.2.2.2.2.2.2.2.2.1, q16.2.2.2.2.2.2.2.2.2.2.2.2.2.2.2.2.2.2) (g5.1, g5.2.1, g5.2.2.1, g5.2.2.2.1, g5.2.2.2.2.1, g5.2.2.2.2.2.1, g5.2.2.2.2.2.2.1, g5.2.2.2.2.2.2.2.1, q21.2.2.2.2.2.2.2.2.1, q21.2.2.2.2.2.2.2.2.2))))))))))))))))
set_option maxHeartbeats 4000000 in
set_option maxRecDepth 20000 in
theorem cTrials_findRestsrr_l3 {q : tyTrials × tyFair × tyRule} {x3 : Int32} {x4 : Int32} {x5 : Int32}  : ∀ (n : Nat) (x6 : Int32) (g0 : tyTrials) (g1 : tyFair) (g5 : tyRule), mTrials_findRestsrr_l3 g4 x3 x4 x5 n x6 g0 g1 g5 = some q → rW l D Z (ty7 K) MTrials_findRestsrr 3 [(0, .ref ((a0 0) 0)), (1, .ref (a1 0)), (2, .ref (a2 0)), (3, .int x3), (4, .int x4), (5, .int x5), (6, .int x6)] [] (List.flatten [bTrialsG K (a0 0) ((a0 1) 0) ((a0 2) 0) ((a0 3) 0) g0, bFairG K (a0 1) g1, bOrderG K (a0 2) g2, bOrderG K (a0 3) g3, bFairG K a1 g4, bRuleG K a2 g5]) (List.flatten [bTrialsG K (a0 0) ((a0 1) 0) ((a0 2) 0) ((a0 3) 0) q.1, bFairG K (a0 1) q.2.1, bOrderG K (a0 2) g2, bOrderG K (a0 3) g3, bFairG K a1 g4, bRuleG K a2 q.2.2]) none := by
  intro n
  induction n with
  | zero => intro x6 g0 g1 g5 h; unfold mTrials_findRestsrr_l3 at h; cases h
  | succ n ih =>
    intro x6 g0 g1 g5 h
    unfold mTrials_findRestsrr_l3 at h
    refine r_iload 6 dX9_findRests_3 rfl ?_
    refine r_bipush (x := (25 : Int32)) dX9_findRests_5 (by decide) ?_
    refine r_icmp_ge 95 dX9_findRests_7 (by decide) (fun c1 => ?_) (fun c1 => ?_)
    · replace h := it_pos c1 h
      refine r_aload_n 0 dX9_findRests_95 rfl ?_
      refine r_iconst (x := (0 : Int32)) dX9_findRests_96 (by decide) ?_
      refine r_bipush (x := (-2 : Int32)) dX9_findRests_97 (by decide) ?_
      refine r_bipush (x := (-2 : Int32)) dX9_findRests_99 (by decide) ?_
      obtain ⟨q2, h2, h⟩ := bd_some h
      refine b_callV (isC := [0, 1, 2, 3]) (ci := 7)  (st := []) (bs1 := [bTrialsG K (a0 0) ((a0 1) 0) ((a0 2) 0) ((a0 3) 0) q2, bFairG K (a0 1) g1, bOrderG K (a0 2) g2, bOrderG K (a0 3) g3, bFairG K a1 g4, bRuleG K a2 g5]) (cTrials_find (a0 := a0) (g0 := g0) (g1 := g1) (g2 := g2) (g3 := g3) h2) rfl rfl (Nat.le_of_ble_eq_true rfl) kTrials_find (tb_in (i := 10) (j := 20) rfl rfl) (by decide) (by decide) rfl rfl rfl rfl rfl rfl rfl dX9_findRests_101 ?_
      refine r_iconst (x := (0 : Int32)) dX9_findRests_104 (by decide) ?_
      refine r_istore (lv' := [(6, .int (0 : Int32)), (0, .ref ((a0 0) 0)), (1, .ref (a1 0)), (2, .ref (a2 0)), (3, .int x3), (4, .int x4), (5, .int x5)]) dX9_findRests_105 (Nat.le_of_ble_eq_true rfl) rfl ?_
      refine r_sub (lv' := [(0, .ref ((a0 0) 0)), (6, .int (0 : Int32))]) [1, 0] rfl ?_
      exact cTrials_findRestsrr_l107 (g1 := g1) (g4 := g4) (g5 := g5)  FU (0 : Int32) q2 h
    · replace h := it_neg c1 h
      refine r_aload_n 0 dX9_findRests_10 rfl ?_
      refine r_aload_n 1 dX9_findRests_11 rfl ?_
      obtain ⟨q16, h16, h⟩ := bd_some h
      refine b_callV (isC := [0, 1, 2, 3, 4]) (ci := 7)  (st := []) (bs1 := [bTrialsG K (a0 0) ((a0 1) 0) ((a0 2) 0) ((a0 3) 0) g0, bFairG K (a0 1) q16, bOrderG K (a0 2) g2, bOrderG K (a0 3) g3, bFairG K a1 g4, bRuleG K a2 g5]) (cTrials_from (a0 := a0) (a1 := a1) (g0 := g0) (g1 := g1) (g2 := g2) (g3 := g3) (g4 := g4) h16) rfl rfl (Nat.le_of_ble_eq_true rfl) kTrials_from (tb_in (i := 10) (j := 8) rfl rfl) (by decide) (by decide) rfl rfl rfl rfl rfl rfl rfl dX9_findRests_12 ?_
      refine gFair_priceN 1 rfl (List.mem_of_getElem? (i := 27) rfl) dX9_findRests_15 ?_
      refine r_iload_n 3 dX9_findRests_18 rfl ?_
      refine r_iload 6 dX9_findRests_19 rfl ?_
      refine r_iconst (x := (5 : Int32)) dX9_findRests_21 (by decide) ?_
      refine r_idiv dX9_findRests_22 (by decide) ?_
      obtain ⟨q17, h17, h⟩ := bd_some h
      refine b_callS (isC := []) (st := [.int x3, .ref ((a0 1) 2)]) (bs1 := [bTrialsG K (a0 0) ((a0 1) 0) ((a0 2) 0) ((a0 3) 0) g0, bFairG K (a0 1) q16, bOrderG K (a0 2) g2, bOrderG K (a0 3) g3, bFairG K a1 g4, bRuleG K a2 g5]) (cTrials_priceOfRests   h17) rfl rfl (Nat.le_of_ble_eq_true rfl) kTrials_priceOfRests (tb_in (i := 10) (j := 27) rfl rfl) (by decide) (by decide) rfl rfl rfl dX9_findRests_23 ?_
      obtain ⟨h18, h⟩ := rq_some h
      obtain ⟨u18, e18, h⟩ := lt_some h
      refine sFair_price (bs1 := [bTrialsG K (a0 0) ((a0 1) 0) ((a0 2) 0) ((a0 3) 0) g0, bFair K (a0 1) q16.1 q16.2.1 q16.2.2.1 q16.2.2.2.1 q16.2.2.2.2.1 q16.2.2.2.2.2.1 u18 q16.2.2.2.2.2.2.2.1 q16.2.2.2.2.2.2.2.2.1 q16.2.2.2.2.2.2.2.2.2.1 q16.2.2.2.2.2.2.2.2.2.2.1 q16.2.2.2.2.2.2.2.2.2.2.2.1 q16.2.2.2.2.2.2.2.2.2.2.2.2.1 q16.2.2.2.2.2.2.2.2.2.2.2.2.2.1 q16.2.2.2.2.2.2.2.2.2.2.2.2.2.2.1 q16.2.2.2.2.2.2.2.2.2.2.2.2.2.2.2.1 q16.2.2.2.2.2.2.2.2.2.2.2.2.2.2.2.2.1 q16.2.2.2.2.2.2.2.2.2.2.2.2.2.2.2.2.2.1 q16.2.2.2.2.2.2.2.2.2.2.2.2.2.2.2.2.2.2, bOrderG K (a0 2) g2, bOrderG K (a0 3) g3, bFairG K a1 g4, bRuleG K a2 g5]) 1 e18 rfl (inb_in h18) rfl dX9_findRests_26 ?_
      refine r_aload_n 0 dX9_findRests_27 rfl ?_
      refine gTrials_fair 0 rfl (tb_in (i := 9) (j := 23) rfl rfl) dX9_findRests_28 ?_
      refine gFair_priceN 1 rfl (List.mem_of_getElem? (i := 27) rfl) dX9_findRests_31 ?_
      refine r_iload 4 dX9_findRests_34 rfl ?_
      refine r_iload 6 dX9_findRests_36 rfl ?_
      refine r_iconst (x := (5 : Int32)) dX9_findRests_38 (by decide) ?_
      refine r_irem dX9_findRests_39 (by decide) ?_
      obtain ⟨q19, h19, h⟩ := bd_some h
      refine b_callS (isC := []) (st := [.int x4, .ref ((a0 1) 2)]) (bs1 := [bTrialsG K (a0 0) ((a0 1) 0) ((a0 2) 0) ((a0 3) 0) g0, bFair K (a0 1) q16.1 q16.2.1 q16.2.2.1 q16.2.2.2.1 q16.2.2.2.2.1 q16.2.2.2.2.2.1 u18 q16.2.2.2.2.2.2.2.1 q16.2.2.2.2.2.2.2.2.1 q16.2.2.2.2.2.2.2.2.2.1 q16.2.2.2.2.2.2.2.2.2.2.1 q16.2.2.2.2.2.2.2.2.2.2.2.1 q16.2.2.2.2.2.2.2.2.2.2.2.2.1 q16.2.2.2.2.2.2.2.2.2.2.2.2.2.1 q16.2.2.2.2.2.2.2.2.2.2.2.2.2.2.1 q16.2.2.2.2.2.2.2.2.2.2.2.2.2.2.2.1 q16.2.2.2.2.2.2.2.2.2.2.2.2.2.2.2.2.1 q16.2.2.2.2.2.2.2.2.2.2.2.2.2.2.2.2.2.1 q16.2.2.2.2.2.2.2.2.2.2.2.2.2.2.2.2.2.2, bOrderG K (a0 2) g2, bOrderG K (a0 3) g3, bFairG K a1 g4, bRuleG K a2 g5]) (cTrials_priceOfRests   h19) rfl rfl (Nat.le_of_ble_eq_true rfl) kTrials_priceOfRests (tb_in (i := 10) (j := 27) rfl rfl) (by decide) (by decide) rfl rfl rfl dX9_findRests_40 ?_
      obtain ⟨h20, h⟩ := rq_some h
      obtain ⟨u20, e20, h⟩ := lt_some h
      refine sFair_price (bs1 := [bTrialsG K (a0 0) ((a0 1) 0) ((a0 2) 0) ((a0 3) 0) g0, bFair K (a0 1) q16.1 q16.2.1 q16.2.2.1 q16.2.2.2.1 q16.2.2.2.2.1 q16.2.2.2.2.2.1 u20 q16.2.2.2.2.2.2.2.1 q16.2.2.2.2.2.2.2.2.1 q16.2.2.2.2.2.2.2.2.2.1 q16.2.2.2.2.2.2.2.2.2.2.1 q16.2.2.2.2.2.2.2.2.2.2.2.1 q16.2.2.2.2.2.2.2.2.2.2.2.2.1 q16.2.2.2.2.2.2.2.2.2.2.2.2.2.1 q16.2.2.2.2.2.2.2.2.2.2.2.2.2.2.1 q16.2.2.2.2.2.2.2.2.2.2.2.2.2.2.2.1 q16.2.2.2.2.2.2.2.2.2.2.2.2.2.2.2.2.1 q16.2.2.2.2.2.2.2.2.2.2.2.2.2.2.2.2.2.1 q16.2.2.2.2.2.2.2.2.2.2.2.2.2.2.2.2.2.2, bOrderG K (a0 2) g2, bOrderG K (a0 3) g3, bFairG K a1 g4, bRuleG K a2 g5]) 1 e20 rfl (inb_in h20) rfl dX9_findRests_43 ?_
      refine r_aload_n 0 dX9_findRests_44 rfl ?_
      refine gTrials_fair 0 rfl (tb_in (i := 9) (j := 23) rfl rfl) dX9_findRests_45 ?_
      refine r_aload_n 2 dX9_findRests_48 rfl ?_
      refine r_iload 5 dX9_findRests_49 rfl ?_
      refine r_iconst (x := (-1 : Int32)) dX9_findRests_51 (by decide) ?_
      obtain ⟨q21, h21, h⟩ := bd_some h
      refine b_callVN (isC := [1, 5]) (ci := 1)  (st := []) (bs1 := [bTrialsG K (a0 0) ((a0 1) 0) ((a0 2) 0) ((a0 3) 0) g0, bFair K (a0 1) q16.1 q16.2.1 q16.2.2.1 q16.2.2.2.1 q21.2.1 q21.2.2.1 u20 q16.2.2.2.2.2.2.2.1 q21.2.2.2.1 q21.2.2.2.2.1 q21.2.2.2.2.2.1 q16.2.2.2.2.2.2.2.2.2.2.2.1 q16.2.2.2.2.2.2.2.2.2.2.2.2.1 q21.2.2.2.2.2.2.1 q16.2.2.2.2.2.2.2.2.2.2.2.2.2.2.1 q21.2.2.2.2.2.2.2.1 q16.2.2.2.2.2.2.2.2.2.2.2.2.2.2.2.2.1 q16.2.2.2.2.2.2.2.2.2.2.2.2.2.2.2.2.2.1 q16.2.2.2.2.2.2.2.2.2.2.2.2.2.2.2.2.2.2, bOrderG K (a0 2) g2, bOrderG K (a0 3) g3, bFairG K a1 g4, bRule K a2 g5.1 g5.2.1 g5.2.2.1 g5.2.2.2.1 g5.2.2.2.2.1 g5.2.2.2.2.2.1 g5.2.2.2.2.2.2.1 g5.2.2.2.2.2.2.2.1 q21.2.2.2.2.2.2.2.2.1 q21.2.2.2.2.2.2.2.2.2]) (cFair_gor (a0 := (a0 1)) (a1 := a2) (z0_lasts := q16.1) (z0_keeps := q16.2.1) (z0_stalls := q16.2.2.1) (z0_buyers := q16.2.2.2.1) (z0_minute := q16.2.2.2.2.1) (z0_goods := q16.2.2.2.2.2.1) (z0_price := u20) (z0_tongue := q16.2.2.2.2.2.2.2.1) (z0_till := q16.2.2.2.2.2.2.2.2.1) (z0_wealth := q16.2.2.2.2.2.2.2.2.2.1) (z0_sold := q16.2.2.2.2.2.2.2.2.2.2.1) (z0_ring := q16.2.2.2.2.2.2.2.2.2.2.2.1) (z0_grudges := q16.2.2.2.2.2.2.2.2.2.2.2.2.1) (z0_purse := q16.2.2.2.2.2.2.2.2.2.2.2.2.2.1) (z0_came := q16.2.2.2.2.2.2.2.2.2.2.2.2.2.2.1) (z0_had := q16.2.2.2.2.2.2.2.2.2.2.2.2.2.2.2.1) (z0_seller := q16.2.2.2.2.2.2.2.2.2.2.2.2.2.2.2.2.1) (z0_praise := q16.2.2.2.2.2.2.2.2.2.2.2.2.2.2.2.2.2.1) (z0_borne := q16.2.2.2.2.2.2.2.2.2.2.2.2.2.2.2.2.2.2) (z1_steps := g5.1) (z1_size := g5.2.1) (z1_sumFrom := g5.2.2.1) (z1_testFrom := g5.2.2.2.1) (z1_testTo := g5.2.2.2.2.1) (z1_clauses := g5.2.2.2.2.2.1) (z1_parts := g5.2.2.2.2.2.2.1) (z1_readsTime := g5.2.2.2.2.2.2.2.1) (z1_words := g5.2.2.2.2.2.2.2.2.1) (z1_stack := g5.2.2.2.2.2.2.2.2.2) h21) rfl rfl (Nat.le_of_ble_eq_true rfl) kFair_gor (List.mem_of_getElem? (i := 57) rfl) (by decide) (by decide) rfl rfl rfl rfl rfl rfl rfl dX9_findRests_52 ?_
      refine r_pop dX9_findRests_55 rfl ?_
      refine r_aload_n 0 dX9_findRests_56 rfl ?_
      refine gTrials_wealthOfOne 0 rfl (tb_in (i := 9) (j := 30) rfl rfl) dX9_findRests_57 ?_
      refine r_iload 6 dX9_findRests_60 rfl ?_
      refine r_aload_n 0 dX9_findRests_62 rfl ?_
      refine gTrials_fair 0 rfl (tb_in (i := 9) (j := 23) rfl rfl) dX9_findRests_63 ?_
      refine gFair_wealthN 1 rfl (List.mem_of_getElem? (i := 32) rfl) dX9_findRests_66 ?_
      refine r_iload_n 3 dX9_findRests_69 rfl ?_
      obtain ⟨h22, h⟩ := rq_some h
      refine lFair_wealth 1 rfl (inb_in h22) dX9_findRests_70 ?_
      obtain ⟨h23, h⟩ := rq_some h
      obtain ⟨u23, e23, h⟩ := lt_some h
      refine sTrials_wealthOfOne (bs1 := [bTrials K (a0 0) ((a0 1) 0) ((a0 2) 0) ((a0 3) 0) g0.1 g0.2.1 u23 g0.2.2.2.1 g0.2.2.2.2, bFair K (a0 1) q16.1 q16.2.1 q16.2.2.1 q16.2.2.2.1 q21.2.1 q21.2.2.1 u20 q16.2.2.2.2.2.2.2.1 q21.2.2.2.1 q21.2.2.2.2.1 q21.2.2.2.2.2.1 q16.2.2.2.2.2.2.2.2.2.2.2.1 q16.2.2.2.2.2.2.2.2.2.2.2.2.1 q21.2.2.2.2.2.2.1 q16.2.2.2.2.2.2.2.2.2.2.2.2.2.2.1 q21.2.2.2.2.2.2.2.1 q16.2.2.2.2.2.2.2.2.2.2.2.2.2.2.2.2.1 q16.2.2.2.2.2.2.2.2.2.2.2.2.2.2.2.2.2.1 q16.2.2.2.2.2.2.2.2.2.2.2.2.2.2.2.2.2.2, bOrderG K (a0 2) g2, bOrderG K (a0 3) g3, bFairG K a1 g4, bRule K a2 g5.1 g5.2.1 g5.2.2.1 g5.2.2.2.1 g5.2.2.2.2.1 g5.2.2.2.2.2.1 g5.2.2.2.2.2.2.1 g5.2.2.2.2.2.2.2.1 q21.2.2.2.2.2.2.2.2.1 q21.2.2.2.2.2.2.2.2.2]) 0 e23 rfl (inb_in h23) rfl dX9_findRests_71 ?_
      refine r_aload_n 0 dX9_findRests_72 rfl ?_
      refine gTrials_wealthOfOther 0 rfl (tb_in (i := 9) (j := 31) rfl rfl) dX9_findRests_73 ?_
      refine r_iload 6 dX9_findRests_76 rfl ?_
      refine r_aload_n 0 dX9_findRests_78 rfl ?_
      refine gTrials_fair 0 rfl (tb_in (i := 9) (j := 23) rfl rfl) dX9_findRests_79 ?_
      refine gFair_wealthN 1 rfl (List.mem_of_getElem? (i := 32) rfl) dX9_findRests_82 ?_
      refine r_iload 4 dX9_findRests_85 rfl ?_
      obtain ⟨h24, h⟩ := rq_some h
      refine lFair_wealth 1 rfl (inb_in h24) dX9_findRests_87 ?_
      obtain ⟨h25, h⟩ := rq_some h
      obtain ⟨u25, e25, h⟩ := lt_some h
      refine sTrials_wealthOfOther (bs1 := [bTrials K (a0 0) ((a0 1) 0) ((a0 2) 0) ((a0 3) 0) g0.1 g0.2.1 u23 u25 g0.2.2.2.2, bFair K (a0 1) q16.1 q16.2.1 q16.2.2.1 q16.2.2.2.1 q21.2.1 q21.2.2.1 u20 q16.2.2.2.2.2.2.2.1 q21.2.2.2.1 q21.2.2.2.2.1 q21.2.2.2.2.2.1 q16.2.2.2.2.2.2.2.2.2.2.2.1 q16.2.2.2.2.2.2.2.2.2.2.2.2.1 q21.2.2.2.2.2.2.1 q16.2.2.2.2.2.2.2.2.2.2.2.2.2.2.1 q21.2.2.2.2.2.2.2.1 q16.2.2.2.2.2.2.2.2.2.2.2.2.2.2.2.2.1 q16.2.2.2.2.2.2.2.2.2.2.2.2.2.2.2.2.2.1 q16.2.2.2.2.2.2.2.2.2.2.2.2.2.2.2.2.2.2, bOrderG K (a0 2) g2, bOrderG K (a0 3) g3, bFairG K a1 g4, bRule K a2 g5.1 g5.2.1 g5.2.2.1 g5.2.2.2.1 g5.2.2.2.2.1 g5.2.2.2.2.2.1 g5.2.2.2.2.2.2.1 g5.2.2.2.2.2.2.2.1 q21.2.2.2.2.2.2.2.2.1 q21.2.2.2.2.2.2.2.2.2]) 0 e25 rfl (inb_in h25) rfl dX9_findRests_88 ?_
      refine r_iinc (y := (x6 + (1 : Int32))) (lv' := [(6, .int (x6 + (1 : Int32))), (0, .ref ((a0 0) 0)), (1, .ref (a1 0)), (2, .ref (a2 0)), (3, .int x3), (4, .int x4), (5, .int x5)]) 6 dX9_findRests_89 rfl rfl (Nat.le_of_ble_eq_true rfl) rfl ?_
      refine r_goto 3 dX9_findRests_92 (by decide) ?_
      refine r_sub (lv' := [(0, .ref ((a0 0) 0)), (1, .ref (a1 0)), (2, .ref (a2 0)), (3, .int x3), (4, .int x4), (5, .int x5), (6, .int (x6 + (1 : Int32)))]) [1, 2, 3, 4, 5, 6, 0] rfl ?_
      exact ih (x6 + (1 : Int32)) (g0.1, g0.2.1, u23, u25, g0.2.2.2.2) (q16.1, q16.2.1, q16.2.2.1, q16.2.2.2.1, q21.2.1, q21.2.2.1, u20, q16.2.2.2.2.2.2.2.1, q21.2.2.2.1, q21.2.2.2.2.1, q21.2.2.2.2.2.1, q16.2.2.2.2.2.2.2.2.2.2.2.1, q16.2.2.2.2.2.2.2.2.2.2.2.2.1, q21.2.2.2.2.2.2.1, q16.2.2.2.2.2.2.2.2.2.2.2.2.2.2.1, q21.2.2.2.2.2.2.2.1, q16.2.2.2.2.2.2.2.2.2.2.2.2.2.2.2.2.1, q16.2.2.2.2.2.2.2.2.2.2.2.2.2.2.2.2.2.1, q16.2.2.2.2.2.2.2.2.2.2.2.2.2.2.2.2.2.2) (g5.1, g5.2.1, g5.2.2.1, g5.2.2.2.1, g5.2.2.2.2.1, g5.2.2.2.2.2.1, g5.2.2.2.2.2.2.1, g5.2.2.2.2.2.2.2.1, q21.2.2.2.2.2.2.2.2.1, q21.2.2.2.2.2.2.2.2.2) h
def mTrials_findRestsrr (x3 : Int32) (x4 : Int32) (x5 : Int32) (g0 : tyTrials) (g1 : tyFair) (g4 : tyFair) (g5 : tyRule) : Option (tyTrials × tyFair × tyRule) := mTrials_findRestsrr_l3 g4 x3 x4 x5 FU (0 : Int32) g0 g1 g5
set_option maxHeartbeats 4000000 in
set_option maxRecDepth 20000 in
theorem cTrials_findRestsrr {q : tyTrials × tyFair × tyRule} {x3 : Int32} {x4 : Int32} {x5 : Int32} (h : mTrials_findRestsrr x3 x4 x5 g0 g1 g4 g5 = some q) : rMet l D Z (ty7 K) MTrials_findRestsrr [.ref ((a0 0) 0), .ref (a1 0), .ref (a2 0), .int x3, .int x4, .int x5] (List.flatten [bTrialsG K (a0 0) ((a0 1) 0) ((a0 2) 0) ((a0 3) 0) g0, bFairG K (a0 1) g1, bOrderG K (a0 2) g2, bOrderG K (a0 3) g3, bFairG K a1 g4, bRuleG K a2 g5]) (List.flatten [bTrialsG K (a0 0) ((a0 1) 0) ((a0 2) 0) ((a0 3) 0) q.1, bFairG K (a0 1) q.2.1, bOrderG K (a0 2) g2, bOrderG K (a0 3) g3, bFairG K a1 g4, bRuleG K a2 q.2.2]) none := by
  refine rMet.of (by decide) rfl (Nat.le_of_ble_eq_true rfl) ?_
  refine r_sub (lv' := [(0, .ref ((a0 0) 0)), (1, .ref (a1 0)), (2, .ref (a2 0)), (3, .int x3), (4, .int x4), (5, .int x5)]) [0, 1, 2, 3, 4, 5] rfl ?_
  unfold mTrials_findRestsrr at h
  refine r_iconst (x := (0 : Int32)) dX9_findRests_0 (by decide) ?_
  refine r_istore (lv' := [(6, .int (0 : Int32)), (0, .ref ((a0 0) 0)), (1, .ref (a1 0)), (2, .ref (a2 0)), (3, .int x3), (4, .int x4), (5, .int x5)]) dX9_findRests_1 (Nat.le_of_ble_eq_true rfl) rfl ?_
  refine r_sub (lv' := [(0, .ref ((a0 0) 0)), (1, .ref (a1 0)), (2, .ref (a2 0)), (3, .int x3), (4, .int x4), (5, .int x5), (6, .int (0 : Int32))]) [1, 2, 3, 4, 5, 6, 0] rfl ?_
  exact cTrials_findRestsrr_l3 (g4 := g4)  FU (0 : Int32) g0 g1 g5 h
end
abbrev MTrials_findRestsrn : rx_M := (RX9, yX9_findRests, cX9_findRests, 8, none, 6)
theorem kTrials_findRestsrn : rKv MTrials_findRestsrn 5 := ⟨tb_in (i := 15) (j := 12) rfl rfl, tb_in (i := 15) (j := 13) rfl rfl, tb_in (i := 10) (j := 11) rfl rfl, tb_in (i := 11) (j := 0) rfl rfl, ⟨by decide, by decide, by decide +kernel⟩, by decide⟩
section
variable {a0 : Nat → Nat → Nat} {a1 : Nat → Nat} {g0 : tyTrials} {g1 : tyFair} {g2 : tyOrder} {g3 : tyOrder} {g4 : tyFair}
def mTrials_findRestsrn_l116 (g1 : tyFair) (g4 : tyFair) (x6 : Int32) (k107 : Int32 → tyTrials → Option (tyTrials × tyFair)) : Nat → Int32 → tyTrials → Option (tyTrials × tyFair)
  | 0, _, _ => none
  | n + 1, x7, g0 => (if (5 : Int32) ≤ x7 then k107 (x6 + (1 : Int32)) g0 else (mTrials_rest x6 x7 g0).bind (fun q5 => (if q5 = 0 then mTrials_findRestsrn_l116 g1 g4 x6 k107 n (x7 + (1 : Int32)) g0 else rq (inb (0 : Int32) 3) ((if (g0.1 (0 : Int32).toNatClampNeg) = 0 then (mTrials_priceOfRests x6).bind (fun q11 => (mTrials_priceOfRests x7).bind (fun q12 => (mTrials_find (0 : Int32) q11 q12 g0).bind (fun q13 => rq (inb (0 : Int32) 3) (rq (inb (0 : Int32) 3) (lt (upd q13.1 (0 : Int32).toNatClampNeg ((q13.1 (0 : Int32).toNatClampNeg) + (1 : Int32))) (fun u15 => mTrials_findRestsrn_l116 g1 g4 x6 k107 n (x7 + (1 : Int32)) (u15, q13.2.1, q13.2.2.1, q13.2.2.2.1, q13.2.2.2.2))))))) else rq (inb (0 : Int32) 3) (rq (inb (0 : Int32) 3) (lt (upd g0.1 (0 : Int32).toNatClampNeg ((g0.1 (0 : Int32).toNatClampNeg) + (1 : Int32))) (fun u10 => mTrials_findRestsrn_l116 g1 g4 x6 k107 n (x7 + (1 : Int32)) (u10, g0.2.1, g0.2.2.1, g0.2.2.2.1, g0.2.2.2.2)))))))))
set_option maxHeartbeats 4000000 in
set_option maxRecDepth 20000 in
theorem cTrials_findRestsrn_l116 {q : tyTrials × tyFair} {x6 : Int32} {k107 : Int32 → tyTrials → Option (tyTrials × tyFair)} (hk107 : ∀ (x6 : Int32) (g0 : tyTrials), k107 x6 g0 = some q → rW l D Z (ty7 K) MTrials_findRestsrn 107 [(0, .ref ((a0 0) 0)), (6, .int x6)] [] (List.flatten [bTrialsG K (a0 0) ((a0 1) 0) ((a0 2) 0) ((a0 3) 0) g0, bFairG K (a0 1) g1, bOrderG K (a0 2) g2, bOrderG K (a0 3) g3, bFairG K a1 g4]) (List.flatten [bTrialsG K (a0 0) ((a0 1) 0) ((a0 2) 0) ((a0 3) 0) q.1, bFairG K (a0 1) q.2, bOrderG K (a0 2) g2, bOrderG K (a0 3) g3, bFairG K a1 g4]) none) : ∀ (n : Nat) (x7 : Int32) (g0 : tyTrials), mTrials_findRestsrn_l116 g1 g4 x6 k107 n x7 g0 = some q → rW l D Z (ty7 K) MTrials_findRestsrn 116 [(0, .ref ((a0 0) 0)), (6, .int x6), (7, .int x7)] [] (List.flatten [bTrialsG K (a0 0) ((a0 1) 0) ((a0 2) 0) ((a0 3) 0) g0, bFairG K (a0 1) g1, bOrderG K (a0 2) g2, bOrderG K (a0 3) g3, bFairG K a1 g4]) (List.flatten [bTrialsG K (a0 0) ((a0 1) 0) ((a0 2) 0) ((a0 3) 0) q.1, bFairG K (a0 1) q.2, bOrderG K (a0 2) g2, bOrderG K (a0 3) g3, bFairG K a1 g4]) none := by
  intro n
  induction n with
  | zero => intro x7 g0 h; unfold mTrials_findRestsrn_l116 at h; cases h
  | succ n ih =>
    intro x7 g0 h
    unfold mTrials_findRestsrn_l116 at h
    refine r_iload 2 dX9_findRests_116 rfl ?_
    refine r_iconst (x := (5 : Int32)) dX9_findRests_118 (by decide) ?_
    refine r_icmp_ge 176 dX9_findRests_119 (by decide) (fun c4 => ?_) (fun c4 => ?_)
    · replace h := it_pos c4 h
      refine r_iinc (y := (x6 + (1 : Int32))) (lv' := [(6, .int (x6 + (1 : Int32))), (0, .ref ((a0 0) 0)), (7, .int x7)]) 1 dX9_findRests_176 rfl rfl (Nat.le_of_ble_eq_true rfl) rfl ?_
      refine r_goto 107 dX9_findRests_179 (by decide) ?_
      refine r_sub (lv' := [(0, .ref ((a0 0) 0)), (6, .int (x6 + (1 : Int32)))]) [1, 0] rfl ?_
      exact hk107 (x6 + (1 : Int32)) g0 h
    · replace h := it_neg c4 h
      refine r_aload_n 0 dX9_findRests_122 rfl ?_
      refine r_iload 1 dX9_findRests_123 rfl ?_
      refine r_iload 2 dX9_findRests_125 rfl ?_
      obtain ⟨q5, h5, h⟩ := bd_some h
      refine b_callV (isC := [0, 1, 2, 3]) (ci := 7)  (st := []) (bs1 := [bTrialsG K (a0 0) ((a0 1) 0) ((a0 2) 0) ((a0 3) 0) g0, bFairG K (a0 1) g1, bOrderG K (a0 2) g2, bOrderG K (a0 3) g3, bFairG K a1 g4]) (cTrials_rest (a0 := a0) (g0 := g0) (g1 := g1) (g2 := g2) (g3 := g3) h5) rfl rfl (Nat.le_of_ble_eq_true rfl) kTrials_rest (tb_in (i := 10) (j := 29) rfl rfl) (by decide) (by decide) rfl rfl rfl rfl rfl rfl rfl dX9_findRests_127 ?_
      refine r_if_ne 136 dX9_findRests_130 (by decide) (fun c6 => ?_) (fun c6 => ?_)
      · replace h := it_neg c6 h
        refine r_aload_n 0 dX9_findRests_136 rfl ?_
        refine gTrials_found 0 rfl (tb_in (i := 9) (j := 28) rfl rfl) dX9_findRests_137 ?_
        refine r_iconst (x := (0 : Int32)) dX9_findRests_140 (by decide) ?_
        obtain ⟨h7, h⟩ := rq_some h
        refine lTrials_found 0 rfl (inb_in h7) dX9_findRests_141 ?_
        refine r_if_ne 160 dX9_findRests_142 (by decide) (fun c8 => ?_) (fun c8 => ?_)
        · replace h := it_neg c8 h
          refine r_aload_n 0 dX9_findRests_160 rfl ?_
          refine gTrials_found 0 rfl (tb_in (i := 9) (j := 28) rfl rfl) dX9_findRests_161 ?_
          refine r_iconst (x := (0 : Int32)) dX9_findRests_164 (by decide) ?_
          refine r_dup2 dX9_findRests_165 rfl rfl ?_
          obtain ⟨h9, h⟩ := rq_some h
          refine lTrials_found 0 rfl (inb_in h9) dX9_findRests_166 ?_
          refine r_iconst (x := (1 : Int32)) dX9_findRests_167 (by decide) ?_
          refine r_iadd dX9_findRests_168 ?_
          obtain ⟨h10, h⟩ := rq_some h
          obtain ⟨u10, e10, h⟩ := lt_some h
          refine sTrials_found (bs1 := [bTrials K (a0 0) ((a0 1) 0) ((a0 2) 0) ((a0 3) 0) u10 g0.2.1 g0.2.2.1 g0.2.2.2.1 g0.2.2.2.2, bFairG K (a0 1) g1, bOrderG K (a0 2) g2, bOrderG K (a0 3) g3, bFairG K a1 g4]) 0 e10 rfl (inb_in h10) rfl dX9_findRests_169 ?_
          refine r_iinc (y := (x7 + (1 : Int32))) (lv' := [(7, .int (x7 + (1 : Int32))), (0, .ref ((a0 0) 0)), (6, .int x6)]) 2 dX9_findRests_170 rfl rfl (Nat.le_of_ble_eq_true rfl) rfl ?_
          refine r_goto 116 dX9_findRests_173 (by decide) ?_
          refine r_sub (lv' := [(0, .ref ((a0 0) 0)), (6, .int x6), (7, .int (x7 + (1 : Int32)))]) [1, 2, 0] rfl ?_
          exact ih (x7 + (1 : Int32)) (u10, g0.2.1, g0.2.2.1, g0.2.2.2.1, g0.2.2.2.2) h
        · replace h := it_pos c8 h
          refine r_aload_n 0 dX9_findRests_145 rfl ?_
          refine r_iconst (x := (0 : Int32)) dX9_findRests_146 (by decide) ?_
          refine r_iload 1 dX9_findRests_147 rfl ?_
          obtain ⟨q11, h11, h⟩ := bd_some h
          refine b_callS (isC := []) (st := [.int (0 : Int32), .ref ((a0 0) 0)]) (bs1 := [bTrialsG K (a0 0) ((a0 1) 0) ((a0 2) 0) ((a0 3) 0) g0, bFairG K (a0 1) g1, bOrderG K (a0 2) g2, bOrderG K (a0 3) g3, bFairG K a1 g4]) (cTrials_priceOfRests   h11) rfl rfl (Nat.le_of_ble_eq_true rfl) kTrials_priceOfRests (tb_in (i := 10) (j := 27) rfl rfl) (by decide) (by decide) rfl rfl rfl dX9_findRests_149 ?_
          refine r_iload 2 dX9_findRests_152 rfl ?_
          obtain ⟨q12, h12, h⟩ := bd_some h
          refine b_callS (isC := []) (st := [.int q11, .int (0 : Int32), .ref ((a0 0) 0)]) (bs1 := [bTrialsG K (a0 0) ((a0 1) 0) ((a0 2) 0) ((a0 3) 0) g0, bFairG K (a0 1) g1, bOrderG K (a0 2) g2, bOrderG K (a0 3) g3, bFairG K a1 g4]) (cTrials_priceOfRests   h12) rfl rfl (Nat.le_of_ble_eq_true rfl) kTrials_priceOfRests (tb_in (i := 10) (j := 27) rfl rfl) (by decide) (by decide) rfl rfl rfl dX9_findRests_154 ?_
          obtain ⟨q13, h13, h⟩ := bd_some h
          refine b_callV (isC := [0, 1, 2, 3]) (ci := 7)  (st := []) (bs1 := [bTrialsG K (a0 0) ((a0 1) 0) ((a0 2) 0) ((a0 3) 0) q13, bFairG K (a0 1) g1, bOrderG K (a0 2) g2, bOrderG K (a0 3) g3, bFairG K a1 g4]) (cTrials_find (a0 := a0) (g0 := g0) (g1 := g1) (g2 := g2) (g3 := g3) h13) rfl rfl (Nat.le_of_ble_eq_true rfl) kTrials_find (tb_in (i := 10) (j := 20) rfl rfl) (by decide) (by decide) rfl rfl rfl rfl rfl rfl rfl dX9_findRests_157 ?_
          refine r_aload_n 0 dX9_findRests_160 rfl ?_
          refine gTrials_found 0 rfl (tb_in (i := 9) (j := 28) rfl rfl) dX9_findRests_161 ?_
          refine r_iconst (x := (0 : Int32)) dX9_findRests_164 (by decide) ?_
          refine r_dup2 dX9_findRests_165 rfl rfl ?_
          obtain ⟨h14, h⟩ := rq_some h
          refine lTrials_found 0 rfl (inb_in h14) dX9_findRests_166 ?_
          refine r_iconst (x := (1 : Int32)) dX9_findRests_167 (by decide) ?_
          refine r_iadd dX9_findRests_168 ?_
          obtain ⟨h15, h⟩ := rq_some h
          obtain ⟨u15, e15, h⟩ := lt_some h
          refine sTrials_found (bs1 := [bTrials K (a0 0) ((a0 1) 0) ((a0 2) 0) ((a0 3) 0) u15 q13.2.1 q13.2.2.1 q13.2.2.2.1 q13.2.2.2.2, bFairG K (a0 1) g1, bOrderG K (a0 2) g2, bOrderG K (a0 3) g3, bFairG K a1 g4]) 0 e15 rfl (inb_in h15) rfl dX9_findRests_169 ?_
          refine r_iinc (y := (x7 + (1 : Int32))) (lv' := [(7, .int (x7 + (1 : Int32))), (0, .ref ((a0 0) 0)), (6, .int x6)]) 2 dX9_findRests_170 rfl rfl (Nat.le_of_ble_eq_true rfl) rfl ?_
          refine r_goto 116 dX9_findRests_173 (by decide) ?_
          refine r_sub (lv' := [(0, .ref ((a0 0) 0)), (6, .int x6), (7, .int (x7 + (1 : Int32)))]) [1, 2, 0] rfl ?_
          exact ih (x7 + (1 : Int32)) (u15, q13.2.1, q13.2.2.1, q13.2.2.2.1, q13.2.2.2.2) h
      · replace h := it_pos c6 h
        refine r_goto 170 dX9_findRests_133 (by decide) ?_
        refine r_iinc (y := (x7 + (1 : Int32))) (lv' := [(7, .int (x7 + (1 : Int32))), (0, .ref ((a0 0) 0)), (6, .int x6)]) 2 dX9_findRests_170 rfl rfl (Nat.le_of_ble_eq_true rfl) rfl ?_
        refine r_goto 116 dX9_findRests_173 (by decide) ?_
        refine r_sub (lv' := [(0, .ref ((a0 0) 0)), (6, .int x6), (7, .int (x7 + (1 : Int32)))]) [1, 2, 0] rfl ?_
        exact ih (x7 + (1 : Int32)) g0 h
def mTrials_findRestsrn_l107 (g1 : tyFair) (g4 : tyFair) : Nat → Int32 → tyTrials → Option (tyTrials × tyFair)
  | 0, _, _ => none
  | n + 1, x6, g0 => (if (5 : Int32) ≤ x6 then some (g0, g1) else mTrials_findRestsrn_l116 g1 g4 x6 (mTrials_findRestsrn_l107 g1 g4 n) FU (0 : Int32) g0)
set_option maxHeartbeats 4000000 in
set_option maxRecDepth 20000 in
theorem cTrials_findRestsrn_l107 {q : tyTrials × tyFair}   : ∀ (n : Nat) (x6 : Int32) (g0 : tyTrials), mTrials_findRestsrn_l107 g1 g4 n x6 g0 = some q → rW l D Z (ty7 K) MTrials_findRestsrn 107 [(0, .ref ((a0 0) 0)), (6, .int x6)] [] (List.flatten [bTrialsG K (a0 0) ((a0 1) 0) ((a0 2) 0) ((a0 3) 0) g0, bFairG K (a0 1) g1, bOrderG K (a0 2) g2, bOrderG K (a0 3) g3, bFairG K a1 g4]) (List.flatten [bTrialsG K (a0 0) ((a0 1) 0) ((a0 2) 0) ((a0 3) 0) q.1, bFairG K (a0 1) q.2, bOrderG K (a0 2) g2, bOrderG K (a0 3) g3, bFairG K a1 g4]) none := by
  intro n
  induction n with
  | zero => intro x6 g0 h; unfold mTrials_findRestsrn_l107 at h; cases h
  | succ n ih =>
    intro x6 g0 h
    unfold mTrials_findRestsrn_l107 at h
    refine r_iload 1 dX9_findRests_107 rfl ?_
    refine r_iconst (x := (5 : Int32)) dX9_findRests_109 (by decide) ?_
    refine r_icmp_ge 182 dX9_findRests_110 (by decide) (fun c3 => ?_) (fun c3 => ?_)
    · replace h := it_pos c3 h
      have hq := Option.some.inj h
      subst hq
      exact r_vret rfl dX9_findRests_182
    · replace h := it_neg c3 h
      refine r_iconst (x := (0 : Int32)) dX9_findRests_113 (by decide) ?_
      refine r_istore (lv' := [(7, .int (0 : Int32)), (0, .ref ((a0 0) 0)), (6, .int x6)]) dX9_findRests_114 (Nat.le_of_ble_eq_true rfl) rfl ?_
      refine r_sub (lv' := [(0, .ref ((a0 0) 0)), (6, .int x6), (7, .int (0 : Int32))]) [1, 2, 0] rfl ?_
      exact cTrials_findRestsrn_l116 (g1 := g1) (g4 := g4) (ih) FU (0 : Int32) g0 h
def mTrials_findRestsrn_l3 (g4 : tyFair) (x3 : Int32) (x4 : Int32) (x5 : Int32) : Nat → Int32 → tyTrials → tyFair → Option (tyTrials × tyFair)
  | 0, _, _, _ => none
  | n + 1, x6, g0, g1 => (if (25 : Int32) ≤ x6 then (mTrials_find (0 : Int32) (-2 : Int32) (-2 : Int32) g0).bind (fun q2 => mTrials_findRestsrn_l107 g1 g4 FU (0 : Int32) q2) else (mTrials_from g1 g4).bind (fun q16 => (mTrials_priceOfRests (x6 / (5 : Int32))).bind (fun q17 => rq (inb x3 6) (lt (upd q16.2.2.2.2.2.2.1 x3.toNatClampNeg q17) (fun u18 => (mTrials_priceOfRests (x6 - x6 / (5 : Int32) * (5 : Int32))).bind (fun q19 => rq (inb x4 6) (lt (upd u18 x4.toNatClampNeg q19) (fun u20 => (mFair_gon x5 (-1 : Int32) q16.1 q16.2.1 q16.2.2.1 q16.2.2.2.1 q16.2.2.2.2.1 q16.2.2.2.2.2.1 u20 q16.2.2.2.2.2.2.2.2.1 q16.2.2.2.2.2.2.2.2.2.1 q16.2.2.2.2.2.2.2.2.2.2.1 q16.2.2.2.2.2.2.2.2.2.2.2.2.2.1 q16.2.2.2.2.2.2.2.2.2.2.2.2.2.2.1 q16.2.2.2.2.2.2.2.2.2.2.2.2.2.2.2.1 q16.2.2.2.2.2.2.2.2.2.2.2.2.2.2.2.2.1 q16.2.2.2.2.2.2.2.2.2.2.2.2.2.2.2.2.2.1).bind (fun q21 => rq (inb x3 6) (rq (inb x6 25) (lt (upd g0.2.2.1 x6.toNatClampNeg (q21.2.2.2.2.1 x3.toNatClampNeg)) (fun u23 => rq (inb x4 6) (rq (inb x6 25) (lt (upd g0.2.2.2.1 x6.toNatClampNeg (q21.2.2.2.2.1 x4.toNatClampNeg)) (fun u25 => mTrials_findRestsrn_l3 g4 x3 x4 x5 n (x6 + (1 : Int32)) (g0.1, g0.2.1, u23, u25, g0.2.2.2.2) (q16.1, q16.2.1, q16.2.2.1, q16.2.2.2.1, q21.2.1, q21.2.2.1, u20, q16.2.2.2.2.2.2.2.1, q21.2.2.2.1, q21.2.2.2.2.1, q21.2.2.2.2.2.1, q16.2.2.2.2.2.2.2.2.2.2.2.1, q16.2.2.2.2.2.2.2.2.2.2.2.2.1, q21.2.2.2.2.2.2.1, q16.2.2.2.2.2.2.2.2.2.2.2.2.2.2.1, q21.2.2.2.2.2.2.2, q16.2.2.2.2.2.2.2.2.2.2.2.2.2.2.2.2.1, q16.2.2.2.2.2.2.2.2.2.2.2.2.2.2.2.2.2.1, q16.2.2.2.2.2.2.2.2.2.2.2.2.2.2.2.2.2.2))))))))))))))))
set_option maxHeartbeats 4000000 in
set_option maxRecDepth 20000 in
theorem cTrials_findRestsrn_l3 {q : tyTrials × tyFair} {x3 : Int32} {x4 : Int32} {x5 : Int32}  : ∀ (n : Nat) (x6 : Int32) (g0 : tyTrials) (g1 : tyFair), mTrials_findRestsrn_l3 g4 x3 x4 x5 n x6 g0 g1 = some q → rW l D Z (ty7 K) MTrials_findRestsrn 3 [(0, .ref ((a0 0) 0)), (1, .ref (a1 0)), (2, .null), (3, .int x3), (4, .int x4), (5, .int x5), (6, .int x6)] [] (List.flatten [bTrialsG K (a0 0) ((a0 1) 0) ((a0 2) 0) ((a0 3) 0) g0, bFairG K (a0 1) g1, bOrderG K (a0 2) g2, bOrderG K (a0 3) g3, bFairG K a1 g4]) (List.flatten [bTrialsG K (a0 0) ((a0 1) 0) ((a0 2) 0) ((a0 3) 0) q.1, bFairG K (a0 1) q.2, bOrderG K (a0 2) g2, bOrderG K (a0 3) g3, bFairG K a1 g4]) none := by
  intro n
  induction n with
  | zero => intro x6 g0 g1 h; unfold mTrials_findRestsrn_l3 at h; cases h
  | succ n ih =>
    intro x6 g0 g1 h
    unfold mTrials_findRestsrn_l3 at h
    refine r_iload 6 dX9_findRests_3 rfl ?_
    refine r_bipush (x := (25 : Int32)) dX9_findRests_5 (by decide) ?_
    refine r_icmp_ge 95 dX9_findRests_7 (by decide) (fun c1 => ?_) (fun c1 => ?_)
    · replace h := it_pos c1 h
      refine r_aload_n 0 dX9_findRests_95 rfl ?_
      refine r_iconst (x := (0 : Int32)) dX9_findRests_96 (by decide) ?_
      refine r_bipush (x := (-2 : Int32)) dX9_findRests_97 (by decide) ?_
      refine r_bipush (x := (-2 : Int32)) dX9_findRests_99 (by decide) ?_
      obtain ⟨q2, h2, h⟩ := bd_some h
      refine b_callV (isC := [0, 1, 2, 3]) (ci := 7)  (st := []) (bs1 := [bTrialsG K (a0 0) ((a0 1) 0) ((a0 2) 0) ((a0 3) 0) q2, bFairG K (a0 1) g1, bOrderG K (a0 2) g2, bOrderG K (a0 3) g3, bFairG K a1 g4]) (cTrials_find (a0 := a0) (g0 := g0) (g1 := g1) (g2 := g2) (g3 := g3) h2) rfl rfl (Nat.le_of_ble_eq_true rfl) kTrials_find (tb_in (i := 10) (j := 20) rfl rfl) (by decide) (by decide) rfl rfl rfl rfl rfl rfl rfl dX9_findRests_101 ?_
      refine r_iconst (x := (0 : Int32)) dX9_findRests_104 (by decide) ?_
      refine r_istore (lv' := [(6, .int (0 : Int32)), (0, .ref ((a0 0) 0)), (1, .ref (a1 0)), (2, .null), (3, .int x3), (4, .int x4), (5, .int x5)]) dX9_findRests_105 (Nat.le_of_ble_eq_true rfl) rfl ?_
      refine r_sub (lv' := [(0, .ref ((a0 0) 0)), (6, .int (0 : Int32))]) [1, 0] rfl ?_
      exact cTrials_findRestsrn_l107 (g1 := g1) (g4 := g4)  FU (0 : Int32) q2 h
    · replace h := it_neg c1 h
      refine r_aload_n 0 dX9_findRests_10 rfl ?_
      refine r_aload_n 1 dX9_findRests_11 rfl ?_
      obtain ⟨q16, h16, h⟩ := bd_some h
      refine b_callV (isC := [0, 1, 2, 3, 4]) (ci := 7)  (st := []) (bs1 := [bTrialsG K (a0 0) ((a0 1) 0) ((a0 2) 0) ((a0 3) 0) g0, bFairG K (a0 1) q16, bOrderG K (a0 2) g2, bOrderG K (a0 3) g3, bFairG K a1 g4]) (cTrials_from (a0 := a0) (a1 := a1) (g0 := g0) (g1 := g1) (g2 := g2) (g3 := g3) (g4 := g4) h16) rfl rfl (Nat.le_of_ble_eq_true rfl) kTrials_from (tb_in (i := 10) (j := 8) rfl rfl) (by decide) (by decide) rfl rfl rfl rfl rfl rfl rfl dX9_findRests_12 ?_
      refine gFair_priceN 1 rfl (List.mem_of_getElem? (i := 27) rfl) dX9_findRests_15 ?_
      refine r_iload_n 3 dX9_findRests_18 rfl ?_
      refine r_iload 6 dX9_findRests_19 rfl ?_
      refine r_iconst (x := (5 : Int32)) dX9_findRests_21 (by decide) ?_
      refine r_idiv dX9_findRests_22 (by decide) ?_
      obtain ⟨q17, h17, h⟩ := bd_some h
      refine b_callS (isC := []) (st := [.int x3, .ref ((a0 1) 2)]) (bs1 := [bTrialsG K (a0 0) ((a0 1) 0) ((a0 2) 0) ((a0 3) 0) g0, bFairG K (a0 1) q16, bOrderG K (a0 2) g2, bOrderG K (a0 3) g3, bFairG K a1 g4]) (cTrials_priceOfRests   h17) rfl rfl (Nat.le_of_ble_eq_true rfl) kTrials_priceOfRests (tb_in (i := 10) (j := 27) rfl rfl) (by decide) (by decide) rfl rfl rfl dX9_findRests_23 ?_
      obtain ⟨h18, h⟩ := rq_some h
      obtain ⟨u18, e18, h⟩ := lt_some h
      refine sFair_price (bs1 := [bTrialsG K (a0 0) ((a0 1) 0) ((a0 2) 0) ((a0 3) 0) g0, bFair K (a0 1) q16.1 q16.2.1 q16.2.2.1 q16.2.2.2.1 q16.2.2.2.2.1 q16.2.2.2.2.2.1 u18 q16.2.2.2.2.2.2.2.1 q16.2.2.2.2.2.2.2.2.1 q16.2.2.2.2.2.2.2.2.2.1 q16.2.2.2.2.2.2.2.2.2.2.1 q16.2.2.2.2.2.2.2.2.2.2.2.1 q16.2.2.2.2.2.2.2.2.2.2.2.2.1 q16.2.2.2.2.2.2.2.2.2.2.2.2.2.1 q16.2.2.2.2.2.2.2.2.2.2.2.2.2.2.1 q16.2.2.2.2.2.2.2.2.2.2.2.2.2.2.2.1 q16.2.2.2.2.2.2.2.2.2.2.2.2.2.2.2.2.1 q16.2.2.2.2.2.2.2.2.2.2.2.2.2.2.2.2.2.1 q16.2.2.2.2.2.2.2.2.2.2.2.2.2.2.2.2.2.2, bOrderG K (a0 2) g2, bOrderG K (a0 3) g3, bFairG K a1 g4]) 1 e18 rfl (inb_in h18) rfl dX9_findRests_26 ?_
      refine r_aload_n 0 dX9_findRests_27 rfl ?_
      refine gTrials_fair 0 rfl (tb_in (i := 9) (j := 23) rfl rfl) dX9_findRests_28 ?_
      refine gFair_priceN 1 rfl (List.mem_of_getElem? (i := 27) rfl) dX9_findRests_31 ?_
      refine r_iload 4 dX9_findRests_34 rfl ?_
      refine r_iload 6 dX9_findRests_36 rfl ?_
      refine r_iconst (x := (5 : Int32)) dX9_findRests_38 (by decide) ?_
      refine r_irem dX9_findRests_39 (by decide) ?_
      obtain ⟨q19, h19, h⟩ := bd_some h
      refine b_callS (isC := []) (st := [.int x4, .ref ((a0 1) 2)]) (bs1 := [bTrialsG K (a0 0) ((a0 1) 0) ((a0 2) 0) ((a0 3) 0) g0, bFair K (a0 1) q16.1 q16.2.1 q16.2.2.1 q16.2.2.2.1 q16.2.2.2.2.1 q16.2.2.2.2.2.1 u18 q16.2.2.2.2.2.2.2.1 q16.2.2.2.2.2.2.2.2.1 q16.2.2.2.2.2.2.2.2.2.1 q16.2.2.2.2.2.2.2.2.2.2.1 q16.2.2.2.2.2.2.2.2.2.2.2.1 q16.2.2.2.2.2.2.2.2.2.2.2.2.1 q16.2.2.2.2.2.2.2.2.2.2.2.2.2.1 q16.2.2.2.2.2.2.2.2.2.2.2.2.2.2.1 q16.2.2.2.2.2.2.2.2.2.2.2.2.2.2.2.1 q16.2.2.2.2.2.2.2.2.2.2.2.2.2.2.2.2.1 q16.2.2.2.2.2.2.2.2.2.2.2.2.2.2.2.2.2.1 q16.2.2.2.2.2.2.2.2.2.2.2.2.2.2.2.2.2.2, bOrderG K (a0 2) g2, bOrderG K (a0 3) g3, bFairG K a1 g4]) (cTrials_priceOfRests   h19) rfl rfl (Nat.le_of_ble_eq_true rfl) kTrials_priceOfRests (tb_in (i := 10) (j := 27) rfl rfl) (by decide) (by decide) rfl rfl rfl dX9_findRests_40 ?_
      obtain ⟨h20, h⟩ := rq_some h
      obtain ⟨u20, e20, h⟩ := lt_some h
      refine sFair_price (bs1 := [bTrialsG K (a0 0) ((a0 1) 0) ((a0 2) 0) ((a0 3) 0) g0, bFair K (a0 1) q16.1 q16.2.1 q16.2.2.1 q16.2.2.2.1 q16.2.2.2.2.1 q16.2.2.2.2.2.1 u20 q16.2.2.2.2.2.2.2.1 q16.2.2.2.2.2.2.2.2.1 q16.2.2.2.2.2.2.2.2.2.1 q16.2.2.2.2.2.2.2.2.2.2.1 q16.2.2.2.2.2.2.2.2.2.2.2.1 q16.2.2.2.2.2.2.2.2.2.2.2.2.1 q16.2.2.2.2.2.2.2.2.2.2.2.2.2.1 q16.2.2.2.2.2.2.2.2.2.2.2.2.2.2.1 q16.2.2.2.2.2.2.2.2.2.2.2.2.2.2.2.1 q16.2.2.2.2.2.2.2.2.2.2.2.2.2.2.2.2.1 q16.2.2.2.2.2.2.2.2.2.2.2.2.2.2.2.2.2.1 q16.2.2.2.2.2.2.2.2.2.2.2.2.2.2.2.2.2.2, bOrderG K (a0 2) g2, bOrderG K (a0 3) g3, bFairG K a1 g4]) 1 e20 rfl (inb_in h20) rfl dX9_findRests_43 ?_
      refine r_aload_n 0 dX9_findRests_44 rfl ?_
      refine gTrials_fair 0 rfl (tb_in (i := 9) (j := 23) rfl rfl) dX9_findRests_45 ?_
      refine r_aload_nN 2 dX9_findRests_48 rfl ?_
      refine r_iload 5 dX9_findRests_49 rfl ?_
      refine r_iconst (x := (-1 : Int32)) dX9_findRests_51 (by decide) ?_
      obtain ⟨q21, h21, h⟩ := bd_some h
      refine b_callVN (isC := [1]) (ci := 1)  (st := []) (bs1 := [bTrialsG K (a0 0) ((a0 1) 0) ((a0 2) 0) ((a0 3) 0) g0, bFair K (a0 1) q16.1 q16.2.1 q16.2.2.1 q16.2.2.2.1 q21.2.1 q21.2.2.1 u20 q16.2.2.2.2.2.2.2.1 q21.2.2.2.1 q21.2.2.2.2.1 q21.2.2.2.2.2.1 q16.2.2.2.2.2.2.2.2.2.2.2.1 q16.2.2.2.2.2.2.2.2.2.2.2.2.1 q21.2.2.2.2.2.2.1 q16.2.2.2.2.2.2.2.2.2.2.2.2.2.2.1 q21.2.2.2.2.2.2.2 q16.2.2.2.2.2.2.2.2.2.2.2.2.2.2.2.2.1 q16.2.2.2.2.2.2.2.2.2.2.2.2.2.2.2.2.2.1 q16.2.2.2.2.2.2.2.2.2.2.2.2.2.2.2.2.2.2, bOrderG K (a0 2) g2, bOrderG K (a0 3) g3, bFairG K a1 g4]) (cFair_gon (a0 := (a0 1)) (z0_lasts := q16.1) (z0_keeps := q16.2.1) (z0_stalls := q16.2.2.1) (z0_buyers := q16.2.2.2.1) (z0_minute := q16.2.2.2.2.1) (z0_goods := q16.2.2.2.2.2.1) (z0_price := u20) (z0_tongue := q16.2.2.2.2.2.2.2.1) (z0_till := q16.2.2.2.2.2.2.2.2.1) (z0_wealth := q16.2.2.2.2.2.2.2.2.2.1) (z0_sold := q16.2.2.2.2.2.2.2.2.2.2.1) (z0_ring := q16.2.2.2.2.2.2.2.2.2.2.2.1) (z0_grudges := q16.2.2.2.2.2.2.2.2.2.2.2.2.1) (z0_purse := q16.2.2.2.2.2.2.2.2.2.2.2.2.2.1) (z0_came := q16.2.2.2.2.2.2.2.2.2.2.2.2.2.2.1) (z0_had := q16.2.2.2.2.2.2.2.2.2.2.2.2.2.2.2.1) (z0_seller := q16.2.2.2.2.2.2.2.2.2.2.2.2.2.2.2.2.1) (z0_praise := q16.2.2.2.2.2.2.2.2.2.2.2.2.2.2.2.2.2.1) (z0_borne := q16.2.2.2.2.2.2.2.2.2.2.2.2.2.2.2.2.2.2) h21) rfl rfl (Nat.le_of_ble_eq_true rfl) kFair_gon (List.mem_of_getElem? (i := 57) rfl) (by decide) (by decide) rfl rfl rfl rfl rfl rfl rfl dX9_findRests_52 ?_
      refine r_pop dX9_findRests_55 rfl ?_
      refine r_aload_n 0 dX9_findRests_56 rfl ?_
      refine gTrials_wealthOfOne 0 rfl (tb_in (i := 9) (j := 30) rfl rfl) dX9_findRests_57 ?_
      refine r_iload 6 dX9_findRests_60 rfl ?_
      refine r_aload_n 0 dX9_findRests_62 rfl ?_
      refine gTrials_fair 0 rfl (tb_in (i := 9) (j := 23) rfl rfl) dX9_findRests_63 ?_
      refine gFair_wealthN 1 rfl (List.mem_of_getElem? (i := 32) rfl) dX9_findRests_66 ?_
      refine r_iload_n 3 dX9_findRests_69 rfl ?_
      obtain ⟨h22, h⟩ := rq_some h
      refine lFair_wealth 1 rfl (inb_in h22) dX9_findRests_70 ?_
      obtain ⟨h23, h⟩ := rq_some h
      obtain ⟨u23, e23, h⟩ := lt_some h
      refine sTrials_wealthOfOne (bs1 := [bTrials K (a0 0) ((a0 1) 0) ((a0 2) 0) ((a0 3) 0) g0.1 g0.2.1 u23 g0.2.2.2.1 g0.2.2.2.2, bFair K (a0 1) q16.1 q16.2.1 q16.2.2.1 q16.2.2.2.1 q21.2.1 q21.2.2.1 u20 q16.2.2.2.2.2.2.2.1 q21.2.2.2.1 q21.2.2.2.2.1 q21.2.2.2.2.2.1 q16.2.2.2.2.2.2.2.2.2.2.2.1 q16.2.2.2.2.2.2.2.2.2.2.2.2.1 q21.2.2.2.2.2.2.1 q16.2.2.2.2.2.2.2.2.2.2.2.2.2.2.1 q21.2.2.2.2.2.2.2 q16.2.2.2.2.2.2.2.2.2.2.2.2.2.2.2.2.1 q16.2.2.2.2.2.2.2.2.2.2.2.2.2.2.2.2.2.1 q16.2.2.2.2.2.2.2.2.2.2.2.2.2.2.2.2.2.2, bOrderG K (a0 2) g2, bOrderG K (a0 3) g3, bFairG K a1 g4]) 0 e23 rfl (inb_in h23) rfl dX9_findRests_71 ?_
      refine r_aload_n 0 dX9_findRests_72 rfl ?_
      refine gTrials_wealthOfOther 0 rfl (tb_in (i := 9) (j := 31) rfl rfl) dX9_findRests_73 ?_
      refine r_iload 6 dX9_findRests_76 rfl ?_
      refine r_aload_n 0 dX9_findRests_78 rfl ?_
      refine gTrials_fair 0 rfl (tb_in (i := 9) (j := 23) rfl rfl) dX9_findRests_79 ?_
      refine gFair_wealthN 1 rfl (List.mem_of_getElem? (i := 32) rfl) dX9_findRests_82 ?_
      refine r_iload 4 dX9_findRests_85 rfl ?_
      obtain ⟨h24, h⟩ := rq_some h
      refine lFair_wealth 1 rfl (inb_in h24) dX9_findRests_87 ?_
      obtain ⟨h25, h⟩ := rq_some h
      obtain ⟨u25, e25, h⟩ := lt_some h
      refine sTrials_wealthOfOther (bs1 := [bTrials K (a0 0) ((a0 1) 0) ((a0 2) 0) ((a0 3) 0) g0.1 g0.2.1 u23 u25 g0.2.2.2.2, bFair K (a0 1) q16.1 q16.2.1 q16.2.2.1 q16.2.2.2.1 q21.2.1 q21.2.2.1 u20 q16.2.2.2.2.2.2.2.1 q21.2.2.2.1 q21.2.2.2.2.1 q21.2.2.2.2.2.1 q16.2.2.2.2.2.2.2.2.2.2.2.1 q16.2.2.2.2.2.2.2.2.2.2.2.2.1 q21.2.2.2.2.2.2.1 q16.2.2.2.2.2.2.2.2.2.2.2.2.2.2.1 q21.2.2.2.2.2.2.2 q16.2.2.2.2.2.2.2.2.2.2.2.2.2.2.2.2.1 q16.2.2.2.2.2.2.2.2.2.2.2.2.2.2.2.2.2.1 q16.2.2.2.2.2.2.2.2.2.2.2.2.2.2.2.2.2.2, bOrderG K (a0 2) g2, bOrderG K (a0 3) g3, bFairG K a1 g4]) 0 e25 rfl (inb_in h25) rfl dX9_findRests_88 ?_
      refine r_iinc (y := (x6 + (1 : Int32))) (lv' := [(6, .int (x6 + (1 : Int32))), (0, .ref ((a0 0) 0)), (1, .ref (a1 0)), (2, .null), (3, .int x3), (4, .int x4), (5, .int x5)]) 6 dX9_findRests_89 rfl rfl (Nat.le_of_ble_eq_true rfl) rfl ?_
      refine r_goto 3 dX9_findRests_92 (by decide) ?_
      refine r_sub (lv' := [(0, .ref ((a0 0) 0)), (1, .ref (a1 0)), (2, .null), (3, .int x3), (4, .int x4), (5, .int x5), (6, .int (x6 + (1 : Int32)))]) [1, 2, 3, 4, 5, 6, 0] rfl ?_
      exact ih (x6 + (1 : Int32)) (g0.1, g0.2.1, u23, u25, g0.2.2.2.2) (q16.1, q16.2.1, q16.2.2.1, q16.2.2.2.1, q21.2.1, q21.2.2.1, u20, q16.2.2.2.2.2.2.2.1, q21.2.2.2.1, q21.2.2.2.2.1, q21.2.2.2.2.2.1, q16.2.2.2.2.2.2.2.2.2.2.2.1, q16.2.2.2.2.2.2.2.2.2.2.2.2.1, q21.2.2.2.2.2.2.1, q16.2.2.2.2.2.2.2.2.2.2.2.2.2.2.1, q21.2.2.2.2.2.2.2, q16.2.2.2.2.2.2.2.2.2.2.2.2.2.2.2.2.1, q16.2.2.2.2.2.2.2.2.2.2.2.2.2.2.2.2.2.1, q16.2.2.2.2.2.2.2.2.2.2.2.2.2.2.2.2.2.2) h
def mTrials_findRestsrn (x3 : Int32) (x4 : Int32) (x5 : Int32) (g0 : tyTrials) (g1 : tyFair) (g4 : tyFair) : Option (tyTrials × tyFair) := mTrials_findRestsrn_l3 g4 x3 x4 x5 FU (0 : Int32) g0 g1
set_option maxHeartbeats 4000000 in
set_option maxRecDepth 20000 in
theorem cTrials_findRestsrn {q : tyTrials × tyFair} {x3 : Int32} {x4 : Int32} {x5 : Int32} (h : mTrials_findRestsrn x3 x4 x5 g0 g1 g4 = some q) : rMet l D Z (ty7 K) MTrials_findRestsrn [.ref ((a0 0) 0), .ref (a1 0), .null, .int x3, .int x4, .int x5] (List.flatten [bTrialsG K (a0 0) ((a0 1) 0) ((a0 2) 0) ((a0 3) 0) g0, bFairG K (a0 1) g1, bOrderG K (a0 2) g2, bOrderG K (a0 3) g3, bFairG K a1 g4]) (List.flatten [bTrialsG K (a0 0) ((a0 1) 0) ((a0 2) 0) ((a0 3) 0) q.1, bFairG K (a0 1) q.2, bOrderG K (a0 2) g2, bOrderG K (a0 3) g3, bFairG K a1 g4]) none := by
  refine rMet.of (by decide) rfl (Nat.le_of_ble_eq_true rfl) ?_
  refine r_sub (lv' := [(0, .ref ((a0 0) 0)), (1, .ref (a1 0)), (2, .null), (3, .int x3), (4, .int x4), (5, .int x5)]) [0, 1, 2, 3, 4, 5] rfl ?_
  unfold mTrials_findRestsrn at h
  refine r_iconst (x := (0 : Int32)) dX9_findRests_0 (by decide) ?_
  refine r_istore (lv' := [(6, .int (0 : Int32)), (0, .ref ((a0 0) 0)), (1, .ref (a1 0)), (2, .null), (3, .int x3), (4, .int x4), (5, .int x5)]) dX9_findRests_1 (Nat.le_of_ble_eq_true rfl) rfl ?_
  refine r_sub (lv' := [(0, .ref ((a0 0) 0)), (1, .ref (a1 0)), (2, .null), (3, .int x3), (4, .int x4), (5, .int x5), (6, .int (0 : Int32))]) [1, 2, 3, 4, 5, 6, 0] rfl ?_
  exact cTrials_findRestsrn_l3 (g4 := g4)  FU (0 : Int32) g0 g1 h
end
theorem dX9_findMakeUp_0 : decode cX9_findMakeUp 0 = .ok (.aload_n 0, 1) := by decide +kernel
theorem dX9_findMakeUp_1 : decode cX9_findMakeUp 1 = .ok (.aload_n 0, 1) := by decide +kernel
theorem dX9_findMakeUp_2 : decode cX9_findMakeUp 2 = .ok (.aload_n 1, 1) := by decide +kernel
theorem dX9_findMakeUp_3 : decode cX9_findMakeUp 3 = .ok (.invokevirtual 66, 3) := by decide +kernel
theorem dX9_findMakeUp_6 : decode cX9_findMakeUp 6 = .ok (.aload_n 2, 1) := by decide +kernel
theorem dX9_findMakeUp_7 : decode cX9_findMakeUp 7 = .ok (.iload_n 3, 1) := by decide +kernel
theorem dX9_findMakeUp_8 : decode cX9_findMakeUp 8 = .ok (.iconst (-1), 1) := by decide +kernel
theorem dX9_findMakeUp_9 : decode cX9_findMakeUp 9 = .ok (.invokevirtual 74, 3) := by decide +kernel
theorem dX9_findMakeUp_12 : decode cX9_findMakeUp 12 = .ok (.bipush (-2), 2) := by decide +kernel
theorem dX9_findMakeUp_14 : decode cX9_findMakeUp 14 = .ok (.bipush (-2), 2) := by decide +kernel
theorem dX9_findMakeUp_16 : decode cX9_findMakeUp 16 = .ok (.invokevirtual 92, 3) := by decide +kernel
theorem dX9_findMakeUp_19 : decode cX9_findMakeUp 19 = .ok (.iconst 0, 1) := by decide +kernel
theorem dX9_findMakeUp_20 : decode cX9_findMakeUp 20 = .ok (.istore 4, 2) := by decide +kernel
theorem dX9_findMakeUp_22 : decode cX9_findMakeUp 22 = .ok (.iload 4, 2) := by decide +kernel
theorem dX9_findMakeUp_24 : decode cX9_findMakeUp 24 = .ok (.aload_n 1, 1) := by decide +kernel
theorem dX9_findMakeUp_25 : decode cX9_findMakeUp 25 = .ok (.getfield 59, 3) := by decide +kernel
theorem dX9_findMakeUp_28 : decode cX9_findMakeUp 28 = .ok (.if_icmp .ge 86, 3) := by decide +kernel
theorem dX9_findMakeUp_31 : decode cX9_findMakeUp 31 = .ok (.iconst 0, 1) := by decide +kernel
theorem dX9_findMakeUp_32 : decode cX9_findMakeUp 32 = .ok (.istore 5, 2) := by decide +kernel
theorem dX9_findMakeUp_34 : decode cX9_findMakeUp 34 = .ok (.iload 5, 2) := by decide +kernel
theorem dX9_findMakeUp_36 : decode cX9_findMakeUp 36 = .ok (.aload_n 1, 1) := by decide +kernel
theorem dX9_findMakeUp_37 : decode cX9_findMakeUp 37 = .ok (.getfield 59, 3) := by decide +kernel
theorem dX9_findMakeUp_40 : decode cX9_findMakeUp 40 = .ok (.if_icmp .ge 68, 3) := by decide +kernel
theorem dX9_findMakeUp_43 : decode cX9_findMakeUp 43 = .ok (.aload_n 1, 1) := by decide +kernel
theorem dX9_findMakeUp_44 : decode cX9_findMakeUp 44 = .ok (.iload 4, 2) := by decide +kernel
theorem dX9_findMakeUp_46 : decode cX9_findMakeUp 46 = .ok (.iload 5, 2) := by decide +kernel
theorem dX9_findMakeUp_48 : decode cX9_findMakeUp 48 = .ok (.invokevirtual 113, 3) := by decide +kernel
theorem dX9_findMakeUp_51 : decode cX9_findMakeUp 51 = .ok (.ifCond .ne 6, 3) := by decide +kernel
theorem dX9_findMakeUp_54 : decode cX9_findMakeUp 54 = .ok (.goto 48, 3) := by decide +kernel
theorem dX9_findMakeUp_57 : decode cX9_findMakeUp 57 = .ok (.aload_n 0, 1) := by decide +kernel
theorem dX9_findMakeUp_58 : decode cX9_findMakeUp 58 = .ok (.aload_n 1, 1) := by decide +kernel
theorem dX9_findMakeUp_59 : decode cX9_findMakeUp 59 = .ok (.invokevirtual 66, 3) := by decide +kernel
theorem dX9_findMakeUp_62 : decode cX9_findMakeUp 62 = .ok (.iload 4, 2) := by decide +kernel
theorem dX9_findMakeUp_64 : decode cX9_findMakeUp 64 = .ok (.iload 5, 2) := by decide +kernel
theorem dX9_findMakeUp_66 : decode cX9_findMakeUp 66 = .ok (.invokevirtual 116, 3) := by decide +kernel
theorem dX9_findMakeUp_69 : decode cX9_findMakeUp 69 = .ok (.aload_n 0, 1) := by decide +kernel
theorem dX9_findMakeUp_70 : decode cX9_findMakeUp 70 = .ok (.getfield 12, 3) := by decide +kernel
theorem dX9_findMakeUp_73 : decode cX9_findMakeUp 73 = .ok (.aload_n 2, 1) := by decide +kernel
theorem dX9_findMakeUp_74 : decode cX9_findMakeUp 74 = .ok (.iload_n 3, 1) := by decide +kernel
theorem dX9_findMakeUp_75 : decode cX9_findMakeUp 75 = .ok (.iconst (-1), 1) := by decide +kernel
theorem dX9_findMakeUp_76 : decode cX9_findMakeUp 76 = .ok (.invokevirtual 74, 3) := by decide +kernel
theorem dX9_findMakeUp_79 : decode cX9_findMakeUp 79 = .ok (.istore 6, 2) := by decide +kernel
theorem dX9_findMakeUp_81 : decode cX9_findMakeUp 81 = .ok (.iload 6, 2) := by decide +kernel
theorem dX9_findMakeUp_83 : decode cX9_findMakeUp 83 = .ok (.aload_n 0, 1) := by decide +kernel
theorem dX9_findMakeUp_84 : decode cX9_findMakeUp 84 = .ok (.getfield 28, 3) := by decide +kernel
theorem dX9_findMakeUp_87 : decode cX9_findMakeUp 87 = .ok (.iconst 0, 1) := by decide +kernel
theorem dX9_findMakeUp_88 : decode cX9_findMakeUp 88 = .ok (.iaload, 1) := by decide +kernel
theorem dX9_findMakeUp_89 : decode cX9_findMakeUp 89 = .ok (.if_icmp .le 13, 3) := by decide +kernel
theorem dX9_findMakeUp_92 : decode cX9_findMakeUp 92 = .ok (.aload_n 0, 1) := by decide +kernel
theorem dX9_findMakeUp_93 : decode cX9_findMakeUp 93 = .ok (.iload 6, 2) := by decide +kernel
theorem dX9_findMakeUp_95 : decode cX9_findMakeUp 95 = .ok (.iload 4, 2) := by decide +kernel
theorem dX9_findMakeUp_97 : decode cX9_findMakeUp 97 = .ok (.iload 5, 2) := by decide +kernel
theorem dX9_findMakeUp_99 : decode cX9_findMakeUp 99 = .ok (.invokevirtual 92, 3) := by decide +kernel
theorem dX9_findMakeUp_102 : decode cX9_findMakeUp 102 = .ok (.iinc 5 1, 3) := by decide +kernel
theorem dX9_findMakeUp_105 : decode cX9_findMakeUp 105 = .ok (.goto (-71), 3) := by decide +kernel
theorem dX9_findMakeUp_108 : decode cX9_findMakeUp 108 = .ok (.iinc 4 1, 3) := by decide +kernel
theorem dX9_findMakeUp_111 : decode cX9_findMakeUp 111 = .ok (.goto (-89), 3) := by decide +kernel
theorem dX9_findMakeUp_114 : decode cX9_findMakeUp 114 = .ok (.return_, 1) := by decide +kernel
abbrev MTrials_findMakeUprr : rx_M := (RX9, yX9_findMakeUp, cX9_findMakeUp, 7, none, 6)
theorem kTrials_findMakeUprr : rKv MTrials_findMakeUprr 3 := ⟨tb_in (i := 15) (j := 18) rfl rfl, tb_in (i := 15) (j := 19) rfl rfl, tb_in (i := 10) (j := 11) rfl rfl, tb_in (i := 11) (j := 1) rfl rfl, ⟨by decide, by decide, by decide +kernel⟩, by decide⟩
section
variable {a0 : Nat → Nat → Nat} {a1 : Nat → Nat} {a2 : Nat → Nat} {g0 : tyTrials} {g1 : tyFair} {g2 : tyOrder} {g3 : tyOrder} {g4 : tyFair} {g5 : tyRule}
def mTrials_findMakeUprr_l34 (g4 : tyFair) (x3 : Int32) (x4 : Int32) (k22 : Int32 → tyTrials → tyFair → tyRule → Option (tyTrials × tyFair × tyRule)) : Nat → Int32 → tyTrials → tyFair → tyRule → Option (tyTrials × tyFair × tyRule)
  | 0, _, _, _, _ => none
  | n + 1, x5, g0, g1, g5 => (if g4.2.2.1 ≤ x5 then k22 (x4 + (1 : Int32)) g0 g1 g5 else (mFair_bears x4 x5 g4.2.2.2.2.2.2.2.2.2.2.2.2.1).bind (fun q6 => (if q6 = 0 then mTrials_findMakeUprr_l34 g4 x3 x4 k22 n (x5 + (1 : Int32)) g0 g1 g5 else (mTrials_from g1 g4).bind (fun q8 => (mFair_flipGrudge x4 x5 q8.2.2.1 q8.2.2.2.2.2.2.2.1 q8.2.2.2.2.2.2.2.2.2.2.2.1 q8.2.2.2.2.2.2.2.2.2.2.2.2.1 q8.2.2.2.2.2.2.2.2.2.2.2.2.2.2.2.2.1 q8.2.2.2.2.2.2.2.2.2.2.2.2.2.2.2.2.2.1 q8.2.2.2.2.2.2.2.2.2.2.2.2.2.2.2.2.2.2).bind (fun q9 => (mFair_gor x3 (-1 : Int32) q8.1 q8.2.1 q8.2.2.1 q8.2.2.2.1 q8.2.2.2.2.1 q8.2.2.2.2.2.1 q8.2.2.2.2.2.2.1 q8.2.2.2.2.2.2.2.2.1 q8.2.2.2.2.2.2.2.2.2.1 q8.2.2.2.2.2.2.2.2.2.2.1 q8.2.2.2.2.2.2.2.2.2.2.2.2.2.1 q8.2.2.2.2.2.2.2.2.2.2.2.2.2.2.1 q8.2.2.2.2.2.2.2.2.2.2.2.2.2.2.2.1 q9.2.1 q9.2.2.1 q9.2.2.2 g5.1 g5.2.1 g5.2.2.1 g5.2.2.2.1 g5.2.2.2.2.1 g5.2.2.2.2.2.1 g5.2.2.2.2.2.2.2.1 g5.2.2.2.2.2.2.2.2.1 g5.2.2.2.2.2.2.2.2.2).bind (fun q10 => rq (inb (0 : Int32) 3) ((if q10.1 ≤ (g0.1 (0 : Int32).toNatClampNeg) then mTrials_findMakeUprr_l34 g4 x3 x4 k22 n (x5 + (1 : Int32)) g0 (q8.1, q8.2.1, q8.2.2.1, q8.2.2.2.1, q10.2.1, q10.2.2.1, q8.2.2.2.2.2.2.1, q8.2.2.2.2.2.2.2.1, q10.2.2.2.1, q10.2.2.2.2.1, q10.2.2.2.2.2.1, q8.2.2.2.2.2.2.2.2.2.2.2.1, q9.1, q10.2.2.2.2.2.2.1, q8.2.2.2.2.2.2.2.2.2.2.2.2.2.2.1, q10.2.2.2.2.2.2.2.1, q9.2.1, q9.2.2.1, q9.2.2.2) (g5.1, g5.2.1, g5.2.2.1, g5.2.2.2.1, g5.2.2.2.2.1, g5.2.2.2.2.2.1, g5.2.2.2.2.2.2.1, g5.2.2.2.2.2.2.2.1, q10.2.2.2.2.2.2.2.2.1, q10.2.2.2.2.2.2.2.2.2) else (mTrials_find q10.1 x4 x5 g0).bind (fun q13 => mTrials_findMakeUprr_l34 g4 x3 x4 k22 n (x5 + (1 : Int32)) q13 (q8.1, q8.2.1, q8.2.2.1, q8.2.2.2.1, q10.2.1, q10.2.2.1, q8.2.2.2.2.2.2.1, q8.2.2.2.2.2.2.2.1, q10.2.2.2.1, q10.2.2.2.2.1, q10.2.2.2.2.2.1, q8.2.2.2.2.2.2.2.2.2.2.2.1, q9.1, q10.2.2.2.2.2.2.1, q8.2.2.2.2.2.2.2.2.2.2.2.2.2.2.1, q10.2.2.2.2.2.2.2.1, q9.2.1, q9.2.2.1, q9.2.2.2) (g5.1, g5.2.1, g5.2.2.1, g5.2.2.2.1, g5.2.2.2.2.1, g5.2.2.2.2.2.1, g5.2.2.2.2.2.2.1, g5.2.2.2.2.2.2.2.1, q10.2.2.2.2.2.2.2.2.1, q10.2.2.2.2.2.2.2.2.2))))))))))
set_option maxHeartbeats 4000000 in
set_option maxRecDepth 20000 in
theorem cTrials_findMakeUprr_l34 {q : tyTrials × tyFair × tyRule} {x3 : Int32} {x4 : Int32} {k22 : Int32 → tyTrials → tyFair → tyRule → Option (tyTrials × tyFair × tyRule)} (hk22 : ∀ (x4 : Int32) (g0 : tyTrials) (g1 : tyFair) (g5 : tyRule), k22 x4 g0 g1 g5 = some q → rW l D Z (ty7 K) MTrials_findMakeUprr 22 [(0, .ref ((a0 0) 0)), (1, .ref (a1 0)), (2, .ref (a2 0)), (3, .int x3), (4, .int x4)] [] (List.flatten [bTrialsG K (a0 0) ((a0 1) 0) ((a0 2) 0) ((a0 3) 0) g0, bFairG K (a0 1) g1, bOrderG K (a0 2) g2, bOrderG K (a0 3) g3, bFairG K a1 g4, bRuleG K a2 g5]) (List.flatten [bTrialsG K (a0 0) ((a0 1) 0) ((a0 2) 0) ((a0 3) 0) q.1, bFairG K (a0 1) q.2.1, bOrderG K (a0 2) g2, bOrderG K (a0 3) g3, bFairG K a1 g4, bRuleG K a2 q.2.2]) none) : ∀ (n : Nat) (x5 : Int32) (g0 : tyTrials) (g1 : tyFair) (g5 : tyRule), mTrials_findMakeUprr_l34 g4 x3 x4 k22 n x5 g0 g1 g5 = some q → rW l D Z (ty7 K) MTrials_findMakeUprr 34 [(0, .ref ((a0 0) 0)), (1, .ref (a1 0)), (2, .ref (a2 0)), (3, .int x3), (4, .int x4), (5, .int x5)] [] (List.flatten [bTrialsG K (a0 0) ((a0 1) 0) ((a0 2) 0) ((a0 3) 0) g0, bFairG K (a0 1) g1, bOrderG K (a0 2) g2, bOrderG K (a0 3) g3, bFairG K a1 g4, bRuleG K a2 g5]) (List.flatten [bTrialsG K (a0 0) ((a0 1) 0) ((a0 2) 0) ((a0 3) 0) q.1, bFairG K (a0 1) q.2.1, bOrderG K (a0 2) g2, bOrderG K (a0 3) g3, bFairG K a1 g4, bRuleG K a2 q.2.2]) none := by
  intro n
  induction n with
  | zero => intro x5 g0 g1 g5 h; unfold mTrials_findMakeUprr_l34 at h; cases h
  | succ n ih =>
    intro x5 g0 g1 g5 h
    unfold mTrials_findMakeUprr_l34 at h
    refine r_iload 5 dX9_findMakeUp_34 rfl ?_
    refine r_aload_n 1 dX9_findMakeUp_36 rfl ?_
    refine gFair_stallsN 4 rfl (List.mem_of_getElem? (i := 16) rfl) dX9_findMakeUp_37 ?_
    refine r_icmp_ge 108 dX9_findMakeUp_40 (by decide) (fun c5 => ?_) (fun c5 => ?_)
    · replace h := it_pos c5 h
      refine r_iinc (y := (x4 + (1 : Int32))) (lv' := [(4, .int (x4 + (1 : Int32))), (0, .ref ((a0 0) 0)), (1, .ref (a1 0)), (2, .ref (a2 0)), (3, .int x3), (5, .int x5)]) 4 dX9_findMakeUp_108 rfl rfl (Nat.le_of_ble_eq_true rfl) rfl ?_
      refine r_goto 22 dX9_findMakeUp_111 (by decide) ?_
      refine r_sub (lv' := [(0, .ref ((a0 0) 0)), (1, .ref (a1 0)), (2, .ref (a2 0)), (3, .int x3), (4, .int (x4 + (1 : Int32)))]) [1, 2, 3, 4, 0] rfl ?_
      exact hk22 (x4 + (1 : Int32)) g0 g1 g5 h
    · replace h := it_neg c5 h
      refine r_aload_n 1 dX9_findMakeUp_43 rfl ?_
      refine r_iload 4 dX9_findMakeUp_44 rfl ?_
      refine r_iload 5 dX9_findMakeUp_46 rfl ?_
      obtain ⟨q6, h6, h⟩ := bd_some h
      refine b_callVN (isC := [4]) (ci := 1)  (st := []) (bs1 := [bTrialsG K (a0 0) ((a0 1) 0) ((a0 2) 0) ((a0 3) 0) g0, bFairG K (a0 1) g1, bOrderG K (a0 2) g2, bOrderG K (a0 3) g3, bFairG K a1 g4, bRuleG K a2 g5]) (cFair_bears (a0 := a1) (z0_lasts := g4.1) (z0_keeps := g4.2.1) (z0_stalls := g4.2.2.1) (z0_buyers := g4.2.2.2.1) (z0_minute := g4.2.2.2.2.1) (z0_goods := g4.2.2.2.2.2.1) (z0_price := g4.2.2.2.2.2.2.1) (z0_tongue := g4.2.2.2.2.2.2.2.1) (z0_till := g4.2.2.2.2.2.2.2.2.1) (z0_wealth := g4.2.2.2.2.2.2.2.2.2.1) (z0_sold := g4.2.2.2.2.2.2.2.2.2.2.1) (z0_ring := g4.2.2.2.2.2.2.2.2.2.2.2.1) (z0_grudges := g4.2.2.2.2.2.2.2.2.2.2.2.2.1) (z0_purse := g4.2.2.2.2.2.2.2.2.2.2.2.2.2.1) (z0_came := g4.2.2.2.2.2.2.2.2.2.2.2.2.2.2.1) (z0_had := g4.2.2.2.2.2.2.2.2.2.2.2.2.2.2.2.1) (z0_seller := g4.2.2.2.2.2.2.2.2.2.2.2.2.2.2.2.2.1) (z0_praise := g4.2.2.2.2.2.2.2.2.2.2.2.2.2.2.2.2.2.1) (z0_borne := g4.2.2.2.2.2.2.2.2.2.2.2.2.2.2.2.2.2.2) h6) rfl rfl (Nat.le_of_ble_eq_true rfl) kFair_bears (List.mem_of_getElem? (i := 68) rfl) (by decide) (by decide) rfl rfl rfl rfl rfl rfl rfl dX9_findMakeUp_48 ?_
      refine r_if_ne 57 dX9_findMakeUp_51 (by decide) (fun c7 => ?_) (fun c7 => ?_)
      · replace h := it_neg c7 h
        refine r_aload_n 0 dX9_findMakeUp_57 rfl ?_
        refine r_aload_n 1 dX9_findMakeUp_58 rfl ?_
        obtain ⟨q8, h8, h⟩ := bd_some h
        refine b_callV (isC := [0, 1, 2, 3, 4]) (ci := 7)  (st := []) (bs1 := [bTrialsG K (a0 0) ((a0 1) 0) ((a0 2) 0) ((a0 3) 0) g0, bFairG K (a0 1) q8, bOrderG K (a0 2) g2, bOrderG K (a0 3) g3, bFairG K a1 g4, bRuleG K a2 g5]) (cTrials_from (a0 := a0) (a1 := a1) (g0 := g0) (g1 := g1) (g2 := g2) (g3 := g3) (g4 := g4) h8) rfl rfl (Nat.le_of_ble_eq_true rfl) kTrials_from (tb_in (i := 10) (j := 8) rfl rfl) (by decide) (by decide) rfl rfl rfl rfl rfl rfl rfl dX9_findMakeUp_59 ?_
        refine r_iload 4 dX9_findMakeUp_62 rfl ?_
        refine r_iload 5 dX9_findMakeUp_64 rfl ?_
        obtain ⟨q9, h9, h⟩ := bd_some h
        refine b_callVN (isC := [1]) (ci := 1)  (st := []) (bs1 := [bTrialsG K (a0 0) ((a0 1) 0) ((a0 2) 0) ((a0 3) 0) g0, bFair K (a0 1) q8.1 q8.2.1 q8.2.2.1 q8.2.2.2.1 q8.2.2.2.2.1 q8.2.2.2.2.2.1 q8.2.2.2.2.2.2.1 q8.2.2.2.2.2.2.2.1 q8.2.2.2.2.2.2.2.2.1 q8.2.2.2.2.2.2.2.2.2.1 q8.2.2.2.2.2.2.2.2.2.2.1 q8.2.2.2.2.2.2.2.2.2.2.2.1 q9.1 q8.2.2.2.2.2.2.2.2.2.2.2.2.2.1 q8.2.2.2.2.2.2.2.2.2.2.2.2.2.2.1 q8.2.2.2.2.2.2.2.2.2.2.2.2.2.2.2.1 q9.2.1 q9.2.2.1 q9.2.2.2, bOrderG K (a0 2) g2, bOrderG K (a0 3) g3, bFairG K a1 g4, bRuleG K a2 g5]) (cFair_flipGrudge (a0 := (a0 1)) (z0_lasts := q8.1) (z0_keeps := q8.2.1) (z0_stalls := q8.2.2.1) (z0_buyers := q8.2.2.2.1) (z0_minute := q8.2.2.2.2.1) (z0_goods := q8.2.2.2.2.2.1) (z0_price := q8.2.2.2.2.2.2.1) (z0_tongue := q8.2.2.2.2.2.2.2.1) (z0_till := q8.2.2.2.2.2.2.2.2.1) (z0_wealth := q8.2.2.2.2.2.2.2.2.2.1) (z0_sold := q8.2.2.2.2.2.2.2.2.2.2.1) (z0_ring := q8.2.2.2.2.2.2.2.2.2.2.2.1) (z0_grudges := q8.2.2.2.2.2.2.2.2.2.2.2.2.1) (z0_purse := q8.2.2.2.2.2.2.2.2.2.2.2.2.2.1) (z0_came := q8.2.2.2.2.2.2.2.2.2.2.2.2.2.2.1) (z0_had := q8.2.2.2.2.2.2.2.2.2.2.2.2.2.2.2.1) (z0_seller := q8.2.2.2.2.2.2.2.2.2.2.2.2.2.2.2.2.1) (z0_praise := q8.2.2.2.2.2.2.2.2.2.2.2.2.2.2.2.2.2.1) (z0_borne := q8.2.2.2.2.2.2.2.2.2.2.2.2.2.2.2.2.2.2) h9) rfl rfl (Nat.le_of_ble_eq_true rfl) kFair_flipGrudge (List.mem_of_getElem? (i := 69) rfl) (by decide) (by decide) rfl rfl rfl rfl rfl rfl rfl dX9_findMakeUp_66 ?_
        refine r_aload_n 0 dX9_findMakeUp_69 rfl ?_
        refine gTrials_fair 0 rfl (tb_in (i := 9) (j := 23) rfl rfl) dX9_findMakeUp_70 ?_
        refine r_aload_n 2 dX9_findMakeUp_73 rfl ?_
        refine r_iload_n 3 dX9_findMakeUp_74 rfl ?_
        refine r_iconst (x := (-1 : Int32)) dX9_findMakeUp_75 (by decide) ?_
        obtain ⟨q10, h10, h⟩ := bd_some h
        refine b_callVN (isC := [1, 5]) (ci := 1)  (st := []) (bs1 := [bTrialsG K (a0 0) ((a0 1) 0) ((a0 2) 0) ((a0 3) 0) g0, bFair K (a0 1) q8.1 q8.2.1 q8.2.2.1 q8.2.2.2.1 q10.2.1 q10.2.2.1 q8.2.2.2.2.2.2.1 q8.2.2.2.2.2.2.2.1 q10.2.2.2.1 q10.2.2.2.2.1 q10.2.2.2.2.2.1 q8.2.2.2.2.2.2.2.2.2.2.2.1 q9.1 q10.2.2.2.2.2.2.1 q8.2.2.2.2.2.2.2.2.2.2.2.2.2.2.1 q10.2.2.2.2.2.2.2.1 q9.2.1 q9.2.2.1 q9.2.2.2, bOrderG K (a0 2) g2, bOrderG K (a0 3) g3, bFairG K a1 g4, bRule K a2 g5.1 g5.2.1 g5.2.2.1 g5.2.2.2.1 g5.2.2.2.2.1 g5.2.2.2.2.2.1 g5.2.2.2.2.2.2.1 g5.2.2.2.2.2.2.2.1 q10.2.2.2.2.2.2.2.2.1 q10.2.2.2.2.2.2.2.2.2]) (cFair_gor (a0 := (a0 1)) (a1 := a2) (z0_lasts := q8.1) (z0_keeps := q8.2.1) (z0_stalls := q8.2.2.1) (z0_buyers := q8.2.2.2.1) (z0_minute := q8.2.2.2.2.1) (z0_goods := q8.2.2.2.2.2.1) (z0_price := q8.2.2.2.2.2.2.1) (z0_tongue := q8.2.2.2.2.2.2.2.1) (z0_till := q8.2.2.2.2.2.2.2.2.1) (z0_wealth := q8.2.2.2.2.2.2.2.2.2.1) (z0_sold := q8.2.2.2.2.2.2.2.2.2.2.1) (z0_ring := q8.2.2.2.2.2.2.2.2.2.2.2.1) (z0_grudges := q9.1) (z0_purse := q8.2.2.2.2.2.2.2.2.2.2.2.2.2.1) (z0_came := q8.2.2.2.2.2.2.2.2.2.2.2.2.2.2.1) (z0_had := q8.2.2.2.2.2.2.2.2.2.2.2.2.2.2.2.1) (z0_seller := q9.2.1) (z0_praise := q9.2.2.1) (z0_borne := q9.2.2.2) (z1_steps := g5.1) (z1_size := g5.2.1) (z1_sumFrom := g5.2.2.1) (z1_testFrom := g5.2.2.2.1) (z1_testTo := g5.2.2.2.2.1) (z1_clauses := g5.2.2.2.2.2.1) (z1_parts := g5.2.2.2.2.2.2.1) (z1_readsTime := g5.2.2.2.2.2.2.2.1) (z1_words := g5.2.2.2.2.2.2.2.2.1) (z1_stack := g5.2.2.2.2.2.2.2.2.2) h10) rfl rfl (Nat.le_of_ble_eq_true rfl) kFair_gor (List.mem_of_getElem? (i := 57) rfl) (by decide) (by decide) rfl rfl rfl rfl rfl rfl rfl dX9_findMakeUp_76 ?_
        refine r_istore (lv' := [(6, .int q10.1), (0, .ref ((a0 0) 0)), (1, .ref (a1 0)), (2, .ref (a2 0)), (3, .int x3), (4, .int x4), (5, .int x5)]) dX9_findMakeUp_79 (Nat.le_of_ble_eq_true rfl) rfl ?_
        refine r_iload 0 dX9_findMakeUp_81 rfl ?_
        refine r_aload_n 1 dX9_findMakeUp_83 rfl ?_
        refine gTrials_found 0 rfl (tb_in (i := 9) (j := 28) rfl rfl) dX9_findMakeUp_84 ?_
        refine r_iconst (x := (0 : Int32)) dX9_findMakeUp_87 (by decide) ?_
        obtain ⟨h11, h⟩ := rq_some h
        refine lTrials_found 0 rfl (inb_in h11) dX9_findMakeUp_88 ?_
        refine r_icmp_le 102 dX9_findMakeUp_89 (by decide) (fun c12 => ?_) (fun c12 => ?_)
        · replace h := it_pos c12 h
          refine r_iinc (y := (x5 + (1 : Int32))) (lv' := [(5, .int (x5 + (1 : Int32))), (6, .int q10.1), (0, .ref ((a0 0) 0)), (1, .ref (a1 0)), (2, .ref (a2 0)), (3, .int x3), (4, .int x4)]) 6 dX9_findMakeUp_102 rfl rfl (Nat.le_of_ble_eq_true rfl) rfl ?_
          refine r_goto 34 dX9_findMakeUp_105 (by decide) ?_
          refine r_sub (lv' := [(0, .ref ((a0 0) 0)), (1, .ref (a1 0)), (2, .ref (a2 0)), (3, .int x3), (4, .int x4), (5, .int (x5 + (1 : Int32)))]) [2, 3, 4, 5, 6, 0] rfl ?_
          exact ih (x5 + (1 : Int32)) g0 (q8.1, q8.2.1, q8.2.2.1, q8.2.2.2.1, q10.2.1, q10.2.2.1, q8.2.2.2.2.2.2.1, q8.2.2.2.2.2.2.2.1, q10.2.2.2.1, q10.2.2.2.2.1, q10.2.2.2.2.2.1, q8.2.2.2.2.2.2.2.2.2.2.2.1, q9.1, q10.2.2.2.2.2.2.1, q8.2.2.2.2.2.2.2.2.2.2.2.2.2.2.1, q10.2.2.2.2.2.2.2.1, q9.2.1, q9.2.2.1, q9.2.2.2) (g5.1, g5.2.1, g5.2.2.1, g5.2.2.2.1, g5.2.2.2.2.1, g5.2.2.2.2.2.1, g5.2.2.2.2.2.2.1, g5.2.2.2.2.2.2.2.1, q10.2.2.2.2.2.2.2.2.1, q10.2.2.2.2.2.2.2.2.2) h
        · replace h := it_neg c12 h
          refine r_aload_n 1 dX9_findMakeUp_92 rfl ?_
          refine r_iload 0 dX9_findMakeUp_93 rfl ?_
          refine r_iload 5 dX9_findMakeUp_95 rfl ?_
          refine r_iload 6 dX9_findMakeUp_97 rfl ?_
          obtain ⟨q13, h13, h⟩ := bd_some h
          refine b_callV (isC := [0, 1, 2, 3]) (ci := 7)  (st := []) (bs1 := [bTrialsG K (a0 0) ((a0 1) 0) ((a0 2) 0) ((a0 3) 0) q13, bFair K (a0 1) q8.1 q8.2.1 q8.2.2.1 q8.2.2.2.1 q10.2.1 q10.2.2.1 q8.2.2.2.2.2.2.1 q8.2.2.2.2.2.2.2.1 q10.2.2.2.1 q10.2.2.2.2.1 q10.2.2.2.2.2.1 q8.2.2.2.2.2.2.2.2.2.2.2.1 q9.1 q10.2.2.2.2.2.2.1 q8.2.2.2.2.2.2.2.2.2.2.2.2.2.2.1 q10.2.2.2.2.2.2.2.1 q9.2.1 q9.2.2.1 q9.2.2.2, bOrderG K (a0 2) g2, bOrderG K (a0 3) g3, bFairG K a1 g4, bRule K a2 g5.1 g5.2.1 g5.2.2.1 g5.2.2.2.1 g5.2.2.2.2.1 g5.2.2.2.2.2.1 g5.2.2.2.2.2.2.1 g5.2.2.2.2.2.2.2.1 q10.2.2.2.2.2.2.2.2.1 q10.2.2.2.2.2.2.2.2.2]) (cTrials_find (a0 := a0) (g0 := g0) (g1 := (q8.1, q8.2.1, q8.2.2.1, q8.2.2.2.1, q10.2.1, q10.2.2.1, q8.2.2.2.2.2.2.1, q8.2.2.2.2.2.2.2.1, q10.2.2.2.1, q10.2.2.2.2.1, q10.2.2.2.2.2.1, q8.2.2.2.2.2.2.2.2.2.2.2.1, q9.1, q10.2.2.2.2.2.2.1, q8.2.2.2.2.2.2.2.2.2.2.2.2.2.2.1, q10.2.2.2.2.2.2.2.1, q9.2.1, q9.2.2.1, q9.2.2.2)) (g2 := g2) (g3 := g3) h13) rfl rfl (Nat.le_of_ble_eq_true rfl) kTrials_find (tb_in (i := 10) (j := 20) rfl rfl) (by decide) (by decide) rfl rfl rfl rfl rfl rfl rfl dX9_findMakeUp_99 ?_
          refine r_iinc (y := (x5 + (1 : Int32))) (lv' := [(5, .int (x5 + (1 : Int32))), (6, .int q10.1), (0, .ref ((a0 0) 0)), (1, .ref (a1 0)), (2, .ref (a2 0)), (3, .int x3), (4, .int x4)]) 6 dX9_findMakeUp_102 rfl rfl (Nat.le_of_ble_eq_true rfl) rfl ?_
          refine r_goto 34 dX9_findMakeUp_105 (by decide) ?_
          refine r_sub (lv' := [(0, .ref ((a0 0) 0)), (1, .ref (a1 0)), (2, .ref (a2 0)), (3, .int x3), (4, .int x4), (5, .int (x5 + (1 : Int32)))]) [2, 3, 4, 5, 6, 0] rfl ?_
          exact ih (x5 + (1 : Int32)) q13 (q8.1, q8.2.1, q8.2.2.1, q8.2.2.2.1, q10.2.1, q10.2.2.1, q8.2.2.2.2.2.2.1, q8.2.2.2.2.2.2.2.1, q10.2.2.2.1, q10.2.2.2.2.1, q10.2.2.2.2.2.1, q8.2.2.2.2.2.2.2.2.2.2.2.1, q9.1, q10.2.2.2.2.2.2.1, q8.2.2.2.2.2.2.2.2.2.2.2.2.2.2.1, q10.2.2.2.2.2.2.2.1, q9.2.1, q9.2.2.1, q9.2.2.2) (g5.1, g5.2.1, g5.2.2.1, g5.2.2.2.1, g5.2.2.2.2.1, g5.2.2.2.2.2.1, g5.2.2.2.2.2.2.1, g5.2.2.2.2.2.2.2.1, q10.2.2.2.2.2.2.2.2.1, q10.2.2.2.2.2.2.2.2.2) h
      · replace h := it_pos c7 h
        refine r_goto 102 dX9_findMakeUp_54 (by decide) ?_
        refine r_iinc (y := (x5 + (1 : Int32))) (lv' := [(5, .int (x5 + (1 : Int32))), (0, .ref ((a0 0) 0)), (1, .ref (a1 0)), (2, .ref (a2 0)), (3, .int x3), (4, .int x4)]) 5 dX9_findMakeUp_102 rfl rfl (Nat.le_of_ble_eq_true rfl) rfl ?_
        refine r_goto 34 dX9_findMakeUp_105 (by decide) ?_
        refine r_sub (lv' := [(0, .ref ((a0 0) 0)), (1, .ref (a1 0)), (2, .ref (a2 0)), (3, .int x3), (4, .int x4), (5, .int (x5 + (1 : Int32)))]) [1, 2, 3, 4, 5, 0] rfl ?_
        exact ih (x5 + (1 : Int32)) g0 g1 g5 h
def mTrials_findMakeUprr_l22 (g4 : tyFair) (x3 : Int32) : Nat → Int32 → tyTrials → tyFair → tyRule → Option (tyTrials × tyFair × tyRule)
  | 0, _, _, _, _ => none
  | n + 1, x4, g0, g1, g5 => (if g4.2.2.1 ≤ x4 then some (g0, g1, g5) else mTrials_findMakeUprr_l34 g4 x3 x4 (mTrials_findMakeUprr_l22 g4 x3 n) FU (0 : Int32) g0 g1 g5)
set_option maxHeartbeats 4000000 in
set_option maxRecDepth 20000 in
theorem cTrials_findMakeUprr_l22 {q : tyTrials × tyFair × tyRule} {x3 : Int32}  : ∀ (n : Nat) (x4 : Int32) (g0 : tyTrials) (g1 : tyFair) (g5 : tyRule), mTrials_findMakeUprr_l22 g4 x3 n x4 g0 g1 g5 = some q → rW l D Z (ty7 K) MTrials_findMakeUprr 22 [(0, .ref ((a0 0) 0)), (1, .ref (a1 0)), (2, .ref (a2 0)), (3, .int x3), (4, .int x4)] [] (List.flatten [bTrialsG K (a0 0) ((a0 1) 0) ((a0 2) 0) ((a0 3) 0) g0, bFairG K (a0 1) g1, bOrderG K (a0 2) g2, bOrderG K (a0 3) g3, bFairG K a1 g4, bRuleG K a2 g5]) (List.flatten [bTrialsG K (a0 0) ((a0 1) 0) ((a0 2) 0) ((a0 3) 0) q.1, bFairG K (a0 1) q.2.1, bOrderG K (a0 2) g2, bOrderG K (a0 3) g3, bFairG K a1 g4, bRuleG K a2 q.2.2]) none := by
  intro n
  induction n with
  | zero => intro x4 g0 g1 g5 h; unfold mTrials_findMakeUprr_l22 at h; cases h
  | succ n ih =>
    intro x4 g0 g1 g5 h
    unfold mTrials_findMakeUprr_l22 at h
    refine r_iload 4 dX9_findMakeUp_22 rfl ?_
    refine r_aload_n 1 dX9_findMakeUp_24 rfl ?_
    refine gFair_stallsN 4 rfl (List.mem_of_getElem? (i := 16) rfl) dX9_findMakeUp_25 ?_
    refine r_icmp_ge 114 dX9_findMakeUp_28 (by decide) (fun c4 => ?_) (fun c4 => ?_)
    · replace h := it_pos c4 h
      have hq := Option.some.inj h
      subst hq
      exact r_vret rfl dX9_findMakeUp_114
    · replace h := it_neg c4 h
      refine r_iconst (x := (0 : Int32)) dX9_findMakeUp_31 (by decide) ?_
      refine r_istore (lv' := [(5, .int (0 : Int32)), (0, .ref ((a0 0) 0)), (1, .ref (a1 0)), (2, .ref (a2 0)), (3, .int x3), (4, .int x4)]) dX9_findMakeUp_32 (Nat.le_of_ble_eq_true rfl) rfl ?_
      refine r_sub (lv' := [(0, .ref ((a0 0) 0)), (1, .ref (a1 0)), (2, .ref (a2 0)), (3, .int x3), (4, .int x4), (5, .int (0 : Int32))]) [1, 2, 3, 4, 5, 0] rfl ?_
      exact cTrials_findMakeUprr_l34 (g4 := g4) (ih) FU (0 : Int32) g0 g1 g5 h
def mTrials_findMakeUprr (x3 : Int32) (g0 : tyTrials) (g1 : tyFair) (g4 : tyFair) (g5 : tyRule) : Option (tyTrials × tyFair × tyRule) := (mTrials_from g1 g4).bind (fun q1 => (mFair_gor x3 (-1 : Int32) q1.1 q1.2.1 q1.2.2.1 q1.2.2.2.1 q1.2.2.2.2.1 q1.2.2.2.2.2.1 q1.2.2.2.2.2.2.1 q1.2.2.2.2.2.2.2.2.1 q1.2.2.2.2.2.2.2.2.2.1 q1.2.2.2.2.2.2.2.2.2.2.1 q1.2.2.2.2.2.2.2.2.2.2.2.2.2.1 q1.2.2.2.2.2.2.2.2.2.2.2.2.2.2.1 q1.2.2.2.2.2.2.2.2.2.2.2.2.2.2.2.1 q1.2.2.2.2.2.2.2.2.2.2.2.2.2.2.2.2.1 q1.2.2.2.2.2.2.2.2.2.2.2.2.2.2.2.2.2.1 q1.2.2.2.2.2.2.2.2.2.2.2.2.2.2.2.2.2.2 g5.1 g5.2.1 g5.2.2.1 g5.2.2.2.1 g5.2.2.2.2.1 g5.2.2.2.2.2.1 g5.2.2.2.2.2.2.2.1 g5.2.2.2.2.2.2.2.2.1 g5.2.2.2.2.2.2.2.2.2).bind (fun q2 => (mTrials_find q2.1 (-2 : Int32) (-2 : Int32) g0).bind (fun q3 => mTrials_findMakeUprr_l22 g4 x3 FU (0 : Int32) q3 (q1.1, q1.2.1, q1.2.2.1, q1.2.2.2.1, q2.2.1, q2.2.2.1, q1.2.2.2.2.2.2.1, q1.2.2.2.2.2.2.2.1, q2.2.2.2.1, q2.2.2.2.2.1, q2.2.2.2.2.2.1, q1.2.2.2.2.2.2.2.2.2.2.2.1, q1.2.2.2.2.2.2.2.2.2.2.2.2.1, q2.2.2.2.2.2.2.1, q1.2.2.2.2.2.2.2.2.2.2.2.2.2.2.1, q2.2.2.2.2.2.2.2.1, q1.2.2.2.2.2.2.2.2.2.2.2.2.2.2.2.2.1, q1.2.2.2.2.2.2.2.2.2.2.2.2.2.2.2.2.2.1, q1.2.2.2.2.2.2.2.2.2.2.2.2.2.2.2.2.2.2) (g5.1, g5.2.1, g5.2.2.1, g5.2.2.2.1, g5.2.2.2.2.1, g5.2.2.2.2.2.1, g5.2.2.2.2.2.2.1, g5.2.2.2.2.2.2.2.1, q2.2.2.2.2.2.2.2.2.1, q2.2.2.2.2.2.2.2.2.2))))
set_option maxHeartbeats 4000000 in
set_option maxRecDepth 20000 in
theorem cTrials_findMakeUprr {q : tyTrials × tyFair × tyRule} {x3 : Int32} (h : mTrials_findMakeUprr x3 g0 g1 g4 g5 = some q) : rMet l D Z (ty7 K) MTrials_findMakeUprr [.ref ((a0 0) 0), .ref (a1 0), .ref (a2 0), .int x3] (List.flatten [bTrialsG K (a0 0) ((a0 1) 0) ((a0 2) 0) ((a0 3) 0) g0, bFairG K (a0 1) g1, bOrderG K (a0 2) g2, bOrderG K (a0 3) g3, bFairG K a1 g4, bRuleG K a2 g5]) (List.flatten [bTrialsG K (a0 0) ((a0 1) 0) ((a0 2) 0) ((a0 3) 0) q.1, bFairG K (a0 1) q.2.1, bOrderG K (a0 2) g2, bOrderG K (a0 3) g3, bFairG K a1 g4, bRuleG K a2 q.2.2]) none := by
  refine rMet.of (by decide) rfl (Nat.le_of_ble_eq_true rfl) ?_
  refine r_sub (lv' := [(0, .ref ((a0 0) 0)), (1, .ref (a1 0)), (2, .ref (a2 0)), (3, .int x3)]) [0, 1, 2, 3] rfl ?_
  unfold mTrials_findMakeUprr at h
  refine r_aload_n 0 dX9_findMakeUp_0 rfl ?_
  refine r_aload_n 0 dX9_findMakeUp_1 rfl ?_
  refine r_aload_n 1 dX9_findMakeUp_2 rfl ?_
  obtain ⟨q1, h1, h⟩ := bd_some h
  refine b_callV (isC := [0, 1, 2, 3, 4]) (ci := 7)  (st := [.ref ((a0 0) 0)]) (bs1 := [bTrialsG K (a0 0) ((a0 1) 0) ((a0 2) 0) ((a0 3) 0) g0, bFairG K (a0 1) q1, bOrderG K (a0 2) g2, bOrderG K (a0 3) g3, bFairG K a1 g4, bRuleG K a2 g5]) (cTrials_from (a0 := a0) (a1 := a1) (g0 := g0) (g1 := g1) (g2 := g2) (g3 := g3) (g4 := g4) h1) rfl rfl (Nat.le_of_ble_eq_true rfl) kTrials_from (tb_in (i := 10) (j := 8) rfl rfl) (by decide) (by decide) rfl rfl rfl rfl rfl rfl rfl dX9_findMakeUp_3 ?_
  refine r_aload_n 2 dX9_findMakeUp_6 rfl ?_
  refine r_iload_n 3 dX9_findMakeUp_7 rfl ?_
  refine r_iconst (x := (-1 : Int32)) dX9_findMakeUp_8 (by decide) ?_
  obtain ⟨q2, h2, h⟩ := bd_some h
  refine b_callVN (isC := [1, 5]) (ci := 1)  (st := [.ref ((a0 0) 0)]) (bs1 := [bTrialsG K (a0 0) ((a0 1) 0) ((a0 2) 0) ((a0 3) 0) g0, bFair K (a0 1) q1.1 q1.2.1 q1.2.2.1 q1.2.2.2.1 q2.2.1 q2.2.2.1 q1.2.2.2.2.2.2.1 q1.2.2.2.2.2.2.2.1 q2.2.2.2.1 q2.2.2.2.2.1 q2.2.2.2.2.2.1 q1.2.2.2.2.2.2.2.2.2.2.2.1 q1.2.2.2.2.2.2.2.2.2.2.2.2.1 q2.2.2.2.2.2.2.1 q1.2.2.2.2.2.2.2.2.2.2.2.2.2.2.1 q2.2.2.2.2.2.2.2.1 q1.2.2.2.2.2.2.2.2.2.2.2.2.2.2.2.2.1 q1.2.2.2.2.2.2.2.2.2.2.2.2.2.2.2.2.2.1 q1.2.2.2.2.2.2.2.2.2.2.2.2.2.2.2.2.2.2, bOrderG K (a0 2) g2, bOrderG K (a0 3) g3, bFairG K a1 g4, bRule K a2 g5.1 g5.2.1 g5.2.2.1 g5.2.2.2.1 g5.2.2.2.2.1 g5.2.2.2.2.2.1 g5.2.2.2.2.2.2.1 g5.2.2.2.2.2.2.2.1 q2.2.2.2.2.2.2.2.2.1 q2.2.2.2.2.2.2.2.2.2]) (cFair_gor (a0 := (a0 1)) (a1 := a2) (z0_lasts := q1.1) (z0_keeps := q1.2.1) (z0_stalls := q1.2.2.1) (z0_buyers := q1.2.2.2.1) (z0_minute := q1.2.2.2.2.1) (z0_goods := q1.2.2.2.2.2.1) (z0_price := q1.2.2.2.2.2.2.1) (z0_tongue := q1.2.2.2.2.2.2.2.1) (z0_till := q1.2.2.2.2.2.2.2.2.1) (z0_wealth := q1.2.2.2.2.2.2.2.2.2.1) (z0_sold := q1.2.2.2.2.2.2.2.2.2.2.1) (z0_ring := q1.2.2.2.2.2.2.2.2.2.2.2.1) (z0_grudges := q1.2.2.2.2.2.2.2.2.2.2.2.2.1) (z0_purse := q1.2.2.2.2.2.2.2.2.2.2.2.2.2.1) (z0_came := q1.2.2.2.2.2.2.2.2.2.2.2.2.2.2.1) (z0_had := q1.2.2.2.2.2.2.2.2.2.2.2.2.2.2.2.1) (z0_seller := q1.2.2.2.2.2.2.2.2.2.2.2.2.2.2.2.2.1) (z0_praise := q1.2.2.2.2.2.2.2.2.2.2.2.2.2.2.2.2.2.1) (z0_borne := q1.2.2.2.2.2.2.2.2.2.2.2.2.2.2.2.2.2.2) (z1_steps := g5.1) (z1_size := g5.2.1) (z1_sumFrom := g5.2.2.1) (z1_testFrom := g5.2.2.2.1) (z1_testTo := g5.2.2.2.2.1) (z1_clauses := g5.2.2.2.2.2.1) (z1_parts := g5.2.2.2.2.2.2.1) (z1_readsTime := g5.2.2.2.2.2.2.2.1) (z1_words := g5.2.2.2.2.2.2.2.2.1) (z1_stack := g5.2.2.2.2.2.2.2.2.2) h2) rfl rfl (Nat.le_of_ble_eq_true rfl) kFair_gor (List.mem_of_getElem? (i := 57) rfl) (by decide) (by decide) rfl rfl rfl rfl rfl rfl rfl dX9_findMakeUp_9 ?_
  refine r_bipush (x := (-2 : Int32)) dX9_findMakeUp_12 (by decide) ?_
  refine r_bipush (x := (-2 : Int32)) dX9_findMakeUp_14 (by decide) ?_
  obtain ⟨q3, h3, h⟩ := bd_some h
  refine b_callV (isC := [0, 1, 2, 3]) (ci := 7)  (st := []) (bs1 := [bTrialsG K (a0 0) ((a0 1) 0) ((a0 2) 0) ((a0 3) 0) q3, bFair K (a0 1) q1.1 q1.2.1 q1.2.2.1 q1.2.2.2.1 q2.2.1 q2.2.2.1 q1.2.2.2.2.2.2.1 q1.2.2.2.2.2.2.2.1 q2.2.2.2.1 q2.2.2.2.2.1 q2.2.2.2.2.2.1 q1.2.2.2.2.2.2.2.2.2.2.2.1 q1.2.2.2.2.2.2.2.2.2.2.2.2.1 q2.2.2.2.2.2.2.1 q1.2.2.2.2.2.2.2.2.2.2.2.2.2.2.1 q2.2.2.2.2.2.2.2.1 q1.2.2.2.2.2.2.2.2.2.2.2.2.2.2.2.2.1 q1.2.2.2.2.2.2.2.2.2.2.2.2.2.2.2.2.2.1 q1.2.2.2.2.2.2.2.2.2.2.2.2.2.2.2.2.2.2, bOrderG K (a0 2) g2, bOrderG K (a0 3) g3, bFairG K a1 g4, bRule K a2 g5.1 g5.2.1 g5.2.2.1 g5.2.2.2.1 g5.2.2.2.2.1 g5.2.2.2.2.2.1 g5.2.2.2.2.2.2.1 g5.2.2.2.2.2.2.2.1 q2.2.2.2.2.2.2.2.2.1 q2.2.2.2.2.2.2.2.2.2]) (cTrials_find (a0 := a0) (g0 := g0) (g1 := (q1.1, q1.2.1, q1.2.2.1, q1.2.2.2.1, q2.2.1, q2.2.2.1, q1.2.2.2.2.2.2.1, q1.2.2.2.2.2.2.2.1, q2.2.2.2.1, q2.2.2.2.2.1, q2.2.2.2.2.2.1, q1.2.2.2.2.2.2.2.2.2.2.2.1, q1.2.2.2.2.2.2.2.2.2.2.2.2.1, q2.2.2.2.2.2.2.1, q1.2.2.2.2.2.2.2.2.2.2.2.2.2.2.1, q2.2.2.2.2.2.2.2.1, q1.2.2.2.2.2.2.2.2.2.2.2.2.2.2.2.2.1, q1.2.2.2.2.2.2.2.2.2.2.2.2.2.2.2.2.2.1, q1.2.2.2.2.2.2.2.2.2.2.2.2.2.2.2.2.2.2)) (g2 := g2) (g3 := g3) h3) rfl rfl (Nat.le_of_ble_eq_true rfl) kTrials_find (tb_in (i := 10) (j := 20) rfl rfl) (by decide) (by decide) rfl rfl rfl rfl rfl rfl rfl dX9_findMakeUp_16 ?_
  refine r_iconst (x := (0 : Int32)) dX9_findMakeUp_19 (by decide) ?_
  refine r_istore (lv' := [(4, .int (0 : Int32)), (0, .ref ((a0 0) 0)), (1, .ref (a1 0)), (2, .ref (a2 0)), (3, .int x3)]) dX9_findMakeUp_20 (Nat.le_of_ble_eq_true rfl) rfl ?_
  refine r_sub (lv' := [(0, .ref ((a0 0) 0)), (1, .ref (a1 0)), (2, .ref (a2 0)), (3, .int x3), (4, .int (0 : Int32))]) [1, 2, 3, 4, 0] rfl ?_
  exact cTrials_findMakeUprr_l22 (g4 := g4)  FU (0 : Int32) q3 (q1.1, q1.2.1, q1.2.2.1, q1.2.2.2.1, q2.2.1, q2.2.2.1, q1.2.2.2.2.2.2.1, q1.2.2.2.2.2.2.2.1, q2.2.2.2.1, q2.2.2.2.2.1, q2.2.2.2.2.2.1, q1.2.2.2.2.2.2.2.2.2.2.2.1, q1.2.2.2.2.2.2.2.2.2.2.2.2.1, q2.2.2.2.2.2.2.1, q1.2.2.2.2.2.2.2.2.2.2.2.2.2.2.1, q2.2.2.2.2.2.2.2.1, q1.2.2.2.2.2.2.2.2.2.2.2.2.2.2.2.2.1, q1.2.2.2.2.2.2.2.2.2.2.2.2.2.2.2.2.2.1, q1.2.2.2.2.2.2.2.2.2.2.2.2.2.2.2.2.2.2) (g5.1, g5.2.1, g5.2.2.1, g5.2.2.2.1, g5.2.2.2.2.1, g5.2.2.2.2.2.1, g5.2.2.2.2.2.2.1, g5.2.2.2.2.2.2.2.1, q2.2.2.2.2.2.2.2.2.1, q2.2.2.2.2.2.2.2.2.2) h
end
end PC3
