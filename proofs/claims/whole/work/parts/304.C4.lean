section PC4
variable {l : Launch} {D : va_G} {Z : (Nat → Nat) × (Nat → Nat)} {K : Nat → ClassId}
abbrev MTrials_findMakeUprn : rx_M := (RX9, yX9_findMakeUp, cX9_findMakeUp, 7, none, 6)
theorem kTrials_findMakeUprn : rKv MTrials_findMakeUprn 3 := ⟨tb_in (i := 15) (j := 18) rfl rfl, tb_in (i := 15) (j := 19) rfl rfl, tb_in (i := 10) (j := 11) rfl rfl, tb_in (i := 11) (j := 1) rfl rfl, ⟨by decide, by decide, by decide +kernel⟩, by decide⟩
section
variable {a0 : Nat → Nat → Nat} {a1 : Nat → Nat} {g0 : tyTrials} {g1 : tyFair} {g2 : tyOrder} {g3 : tyOrder} {g4 : tyFair}
def mTrials_findMakeUprn_l34 (g4 : tyFair) (x3 : Int32) (x4 : Int32) (k22 : Int32 → tyTrials → tyFair → Option (tyTrials × tyFair)) : Nat → Int32 → tyTrials → tyFair → Option (tyTrials × tyFair)
  | 0, _, _, _ => none
  | n + 1, x5, g0, g1 => (if g4.2.2.1 ≤ x5 then k22 (x4 + (1 : Int32)) g0 g1 else (mFair_bears x4 x5 g4.2.2.2.2.2.2.2.2.2.2.2.2.1).bind (fun q6 => (if q6 = 0 then mTrials_findMakeUprn_l34 g4 x3 x4 k22 n (x5 + (1 : Int32)) g0 g1 else (mTrials_from g1 g4).bind (fun q8 => (mFair_flipGrudge x4 x5 q8.2.2.1 q8.2.2.2.2.2.2.2.1 q8.2.2.2.2.2.2.2.2.2.2.2.1 q8.2.2.2.2.2.2.2.2.2.2.2.2.1 q8.2.2.2.2.2.2.2.2.2.2.2.2.2.2.2.2.1 q8.2.2.2.2.2.2.2.2.2.2.2.2.2.2.2.2.2.1 q8.2.2.2.2.2.2.2.2.2.2.2.2.2.2.2.2.2.2).bind (fun q9 => (mFair_gon x3 (-1 : Int32) q8.1 q8.2.1 q8.2.2.1 q8.2.2.2.1 q8.2.2.2.2.1 q8.2.2.2.2.2.1 q8.2.2.2.2.2.2.1 q8.2.2.2.2.2.2.2.2.1 q8.2.2.2.2.2.2.2.2.2.1 q8.2.2.2.2.2.2.2.2.2.2.1 q8.2.2.2.2.2.2.2.2.2.2.2.2.2.1 q8.2.2.2.2.2.2.2.2.2.2.2.2.2.2.1 q8.2.2.2.2.2.2.2.2.2.2.2.2.2.2.2.1 q9.2.1 q9.2.2.1).bind (fun q10 => rq (inb (0 : Int32) 3) ((if q10.1 ≤ (g0.1 (0 : Int32).toNatClampNeg) then mTrials_findMakeUprn_l34 g4 x3 x4 k22 n (x5 + (1 : Int32)) g0 (q8.1, q8.2.1, q8.2.2.1, q8.2.2.2.1, q10.2.1, q10.2.2.1, q8.2.2.2.2.2.2.1, q8.2.2.2.2.2.2.2.1, q10.2.2.2.1, q10.2.2.2.2.1, q10.2.2.2.2.2.1, q8.2.2.2.2.2.2.2.2.2.2.2.1, q9.1, q10.2.2.2.2.2.2.1, q8.2.2.2.2.2.2.2.2.2.2.2.2.2.2.1, q10.2.2.2.2.2.2.2, q9.2.1, q9.2.2.1, q9.2.2.2) else (mTrials_find q10.1 x4 x5 g0).bind (fun q13 => mTrials_findMakeUprn_l34 g4 x3 x4 k22 n (x5 + (1 : Int32)) q13 (q8.1, q8.2.1, q8.2.2.1, q8.2.2.2.1, q10.2.1, q10.2.2.1, q8.2.2.2.2.2.2.1, q8.2.2.2.2.2.2.2.1, q10.2.2.2.1, q10.2.2.2.2.1, q10.2.2.2.2.2.1, q8.2.2.2.2.2.2.2.2.2.2.2.1, q9.1, q10.2.2.2.2.2.2.1, q8.2.2.2.2.2.2.2.2.2.2.2.2.2.2.1, q10.2.2.2.2.2.2.2, q9.2.1, q9.2.2.1, q9.2.2.2))))))))))
set_option maxHeartbeats 4000000 in
set_option maxRecDepth 20000 in
theorem cTrials_findMakeUprn_l34 {q : tyTrials × tyFair} {x3 : Int32} {x4 : Int32} {k22 : Int32 → tyTrials → tyFair → Option (tyTrials × tyFair)} (hk22 : ∀ (x4 : Int32) (g0 : tyTrials) (g1 : tyFair), k22 x4 g0 g1 = some q → rW l D Z (ty7 K) MTrials_findMakeUprn 22 [(0, .ref ((a0 0) 0)), (1, .ref (a1 0)), (2, .null), (3, .int x3), (4, .int x4)] [] (List.flatten [bTrialsG K (a0 0) ((a0 1) 0) ((a0 2) 0) ((a0 3) 0) g0, bFairG K (a0 1) g1, bOrderG K (a0 2) g2, bOrderG K (a0 3) g3, bFairG K a1 g4]) (List.flatten [bTrialsG K (a0 0) ((a0 1) 0) ((a0 2) 0) ((a0 3) 0) q.1, bFairG K (a0 1) q.2, bOrderG K (a0 2) g2, bOrderG K (a0 3) g3, bFairG K a1 g4]) none) : ∀ (n : Nat) (x5 : Int32) (g0 : tyTrials) (g1 : tyFair), mTrials_findMakeUprn_l34 g4 x3 x4 k22 n x5 g0 g1 = some q → rW l D Z (ty7 K) MTrials_findMakeUprn 34 [(0, .ref ((a0 0) 0)), (1, .ref (a1 0)), (2, .null), (3, .int x3), (4, .int x4), (5, .int x5)] [] (List.flatten [bTrialsG K (a0 0) ((a0 1) 0) ((a0 2) 0) ((a0 3) 0) g0, bFairG K (a0 1) g1, bOrderG K (a0 2) g2, bOrderG K (a0 3) g3, bFairG K a1 g4]) (List.flatten [bTrialsG K (a0 0) ((a0 1) 0) ((a0 2) 0) ((a0 3) 0) q.1, bFairG K (a0 1) q.2, bOrderG K (a0 2) g2, bOrderG K (a0 3) g3, bFairG K a1 g4]) none := by
  intro n
  induction n with
  | zero => intro x5 g0 g1 h; unfold mTrials_findMakeUprn_l34 at h; cases h
  | succ n ih =>
    intro x5 g0 g1 h
    unfold mTrials_findMakeUprn_l34 at h
    refine r_iload 5 dX9_findMakeUp_34 rfl ?_
    refine r_aload_n 1 dX9_findMakeUp_36 rfl ?_
    refine gFair_stallsN 4 rfl (List.mem_of_getElem? (i := 16) rfl) dX9_findMakeUp_37 ?_
    refine r_icmp_ge 108 dX9_findMakeUp_40 (by decide) (fun c5 => ?_) (fun c5 => ?_)
    · replace h := it_pos c5 h
      refine r_iinc (y := (x4 + (1 : Int32))) (lv' := [(4, .int (x4 + (1 : Int32))), (0, .ref ((a0 0) 0)), (1, .ref (a1 0)), (2, .null), (3, .int x3), (5, .int x5)]) 4 dX9_findMakeUp_108 rfl rfl (Nat.le_of_ble_eq_true rfl) rfl ?_
      refine r_goto 22 dX9_findMakeUp_111 (by decide) ?_
      refine r_sub (lv' := [(0, .ref ((a0 0) 0)), (1, .ref (a1 0)), (2, .null), (3, .int x3), (4, .int (x4 + (1 : Int32)))]) [1, 2, 3, 4, 0] rfl ?_
      exact hk22 (x4 + (1 : Int32)) g0 g1 h
    · replace h := it_neg c5 h
      refine r_aload_n 1 dX9_findMakeUp_43 rfl ?_
      refine r_iload 4 dX9_findMakeUp_44 rfl ?_
      refine r_iload 5 dX9_findMakeUp_46 rfl ?_
      obtain ⟨q6, h6, h⟩ := bd_some h
      refine b_callVN (isC := [4]) (ci := 1)  (st := []) (bs1 := [bTrialsG K (a0 0) ((a0 1) 0) ((a0 2) 0) ((a0 3) 0) g0, bFairG K (a0 1) g1, bOrderG K (a0 2) g2, bOrderG K (a0 3) g3, bFairG K a1 g4]) (cFair_bears (a0 := a1) (z0_lasts := g4.1) (z0_keeps := g4.2.1) (z0_stalls := g4.2.2.1) (z0_buyers := g4.2.2.2.1) (z0_minute := g4.2.2.2.2.1) (z0_goods := g4.2.2.2.2.2.1) (z0_price := g4.2.2.2.2.2.2.1) (z0_tongue := g4.2.2.2.2.2.2.2.1) (z0_till := g4.2.2.2.2.2.2.2.2.1) (z0_wealth := g4.2.2.2.2.2.2.2.2.2.1) (z0_sold := g4.2.2.2.2.2.2.2.2.2.2.1) (z0_ring := g4.2.2.2.2.2.2.2.2.2.2.2.1) (z0_grudges := g4.2.2.2.2.2.2.2.2.2.2.2.2.1) (z0_purse := g4.2.2.2.2.2.2.2.2.2.2.2.2.2.1) (z0_came := g4.2.2.2.2.2.2.2.2.2.2.2.2.2.2.1) (z0_had := g4.2.2.2.2.2.2.2.2.2.2.2.2.2.2.2.1) (z0_seller := g4.2.2.2.2.2.2.2.2.2.2.2.2.2.2.2.2.1) (z0_praise := g4.2.2.2.2.2.2.2.2.2.2.2.2.2.2.2.2.2.1) (z0_borne := g4.2.2.2.2.2.2.2.2.2.2.2.2.2.2.2.2.2.2) h6) rfl rfl (Nat.le_of_ble_eq_true rfl) kFair_bears (List.mem_of_getElem? (i := 68) rfl) (by decide) (by decide) rfl rfl rfl rfl rfl rfl rfl dX9_findMakeUp_48 ?_
      refine r_if_ne 57 dX9_findMakeUp_51 (by decide) (fun c7 => ?_) (fun c7 => ?_)
      · replace h := it_neg c7 h
        refine r_aload_n 0 dX9_findMakeUp_57 rfl ?_
        refine r_aload_n 1 dX9_findMakeUp_58 rfl ?_
        obtain ⟨q8, h8, h⟩ := bd_some h
        refine b_callV (isC := [0, 1, 2, 3, 4]) (ci := 7)  (st := []) (bs1 := [bTrialsG K (a0 0) ((a0 1) 0) ((a0 2) 0) ((a0 3) 0) g0, bFairG K (a0 1) q8, bOrderG K (a0 2) g2, bOrderG K (a0 3) g3, bFairG K a1 g4]) (cTrials_from (a0 := a0) (a1 := a1) (g0 := g0) (g1 := g1) (g2 := g2) (g3 := g3) (g4 := g4) h8) rfl rfl (Nat.le_of_ble_eq_true rfl) kTrials_from (tb_in (i := 10) (j := 8) rfl rfl) (by decide) (by decide) rfl rfl rfl rfl rfl rfl rfl dX9_findMakeUp_59 ?_
        refine r_iload 4 dX9_findMakeUp_62 rfl ?_
        refine r_iload 5 dX9_findMakeUp_64 rfl ?_
        obtain ⟨q9, h9, h⟩ := bd_some h
        refine b_callVN (isC := [1]) (ci := 1)  (st := []) (bs1 := [bTrialsG K (a0 0) ((a0 1) 0) ((a0 2) 0) ((a0 3) 0) g0, bFair K (a0 1) q8.1 q8.2.1 q8.2.2.1 q8.2.2.2.1 q8.2.2.2.2.1 q8.2.2.2.2.2.1 q8.2.2.2.2.2.2.1 q8.2.2.2.2.2.2.2.1 q8.2.2.2.2.2.2.2.2.1 q8.2.2.2.2.2.2.2.2.2.1 q8.2.2.2.2.2.2.2.2.2.2.1 q8.2.2.2.2.2.2.2.2.2.2.2.1 q9.1 q8.2.2.2.2.2.2.2.2.2.2.2.2.2.1 q8.2.2.2.2.2.2.2.2.2.2.2.2.2.2.1 q8.2.2.2.2.2.2.2.2.2.2.2.2.2.2.2.1 q9.2.1 q9.2.2.1 q9.2.2.2, bOrderG K (a0 2) g2, bOrderG K (a0 3) g3, bFairG K a1 g4]) (cFair_flipGrudge (a0 := (a0 1)) (z0_lasts := q8.1) (z0_keeps := q8.2.1) (z0_stalls := q8.2.2.1) (z0_buyers := q8.2.2.2.1) (z0_minute := q8.2.2.2.2.1) (z0_goods := q8.2.2.2.2.2.1) (z0_price := q8.2.2.2.2.2.2.1) (z0_tongue := q8.2.2.2.2.2.2.2.1) (z0_till := q8.2.2.2.2.2.2.2.2.1) (z0_wealth := q8.2.2.2.2.2.2.2.2.2.1) (z0_sold := q8.2.2.2.2.2.2.2.2.2.2.1) (z0_ring := q8.2.2.2.2.2.2.2.2.2.2.2.1) (z0_grudges := q8.2.2.2.2.2.2.2.2.2.2.2.2.1) (z0_purse := q8.2.2.2.2.2.2.2.2.2.2.2.2.2.1) (z0_came := q8.2.2.2.2.2.2.2.2.2.2.2.2.2.2.1) (z0_had := q8.2.2.2.2.2.2.2.2.2.2.2.2.2.2.2.1) (z0_seller := q8.2.2.2.2.2.2.2.2.2.2.2.2.2.2.2.2.1) (z0_praise := q8.2.2.2.2.2.2.2.2.2.2.2.2.2.2.2.2.2.1) (z0_borne := q8.2.2.2.2.2.2.2.2.2.2.2.2.2.2.2.2.2.2) h9) rfl rfl (Nat.le_of_ble_eq_true rfl) kFair_flipGrudge (List.mem_of_getElem? (i := 69) rfl) (by decide) (by decide) rfl rfl rfl rfl rfl rfl rfl dX9_findMakeUp_66 ?_
        refine r_aload_n 0 dX9_findMakeUp_69 rfl ?_
        refine gTrials_fair 0 rfl (tb_in (i := 9) (j := 23) rfl rfl) dX9_findMakeUp_70 ?_
        refine r_aload_nN 2 dX9_findMakeUp_73 rfl ?_
        refine r_iload_n 3 dX9_findMakeUp_74 rfl ?_
        refine r_iconst (x := (-1 : Int32)) dX9_findMakeUp_75 (by decide) ?_
        obtain ⟨q10, h10, h⟩ := bd_some h
        refine b_callVN (isC := [1]) (ci := 1)  (st := []) (bs1 := [bTrialsG K (a0 0) ((a0 1) 0) ((a0 2) 0) ((a0 3) 0) g0, bFair K (a0 1) q8.1 q8.2.1 q8.2.2.1 q8.2.2.2.1 q10.2.1 q10.2.2.1 q8.2.2.2.2.2.2.1 q8.2.2.2.2.2.2.2.1 q10.2.2.2.1 q10.2.2.2.2.1 q10.2.2.2.2.2.1 q8.2.2.2.2.2.2.2.2.2.2.2.1 q9.1 q10.2.2.2.2.2.2.1 q8.2.2.2.2.2.2.2.2.2.2.2.2.2.2.1 q10.2.2.2.2.2.2.2 q9.2.1 q9.2.2.1 q9.2.2.2, bOrderG K (a0 2) g2, bOrderG K (a0 3) g3, bFairG K a1 g4]) (cFair_gon (a0 := (a0 1)) (z0_lasts := q8.1) (z0_keeps := q8.2.1) (z0_stalls := q8.2.2.1) (z0_buyers := q8.2.2.2.1) (z0_minute := q8.2.2.2.2.1) (z0_goods := q8.2.2.2.2.2.1) (z0_price := q8.2.2.2.2.2.2.1) (z0_tongue := q8.2.2.2.2.2.2.2.1) (z0_till := q8.2.2.2.2.2.2.2.2.1) (z0_wealth := q8.2.2.2.2.2.2.2.2.2.1) (z0_sold := q8.2.2.2.2.2.2.2.2.2.2.1) (z0_ring := q8.2.2.2.2.2.2.2.2.2.2.2.1) (z0_grudges := q9.1) (z0_purse := q8.2.2.2.2.2.2.2.2.2.2.2.2.2.1) (z0_came := q8.2.2.2.2.2.2.2.2.2.2.2.2.2.2.1) (z0_had := q8.2.2.2.2.2.2.2.2.2.2.2.2.2.2.2.1) (z0_seller := q9.2.1) (z0_praise := q9.2.2.1) (z0_borne := q9.2.2.2) h10) rfl rfl (Nat.le_of_ble_eq_true rfl) kFair_gon (List.mem_of_getElem? (i := 57) rfl) (by decide) (by decide) rfl rfl rfl rfl rfl rfl rfl dX9_findMakeUp_76 ?_
        refine r_istore (lv' := [(6, .int q10.1), (0, .ref ((a0 0) 0)), (1, .ref (a1 0)), (2, .null), (3, .int x3), (4, .int x4), (5, .int x5)]) dX9_findMakeUp_79 (Nat.le_of_ble_eq_true rfl) rfl ?_
        refine r_iload 0 dX9_findMakeUp_81 rfl ?_
        refine r_aload_n 1 dX9_findMakeUp_83 rfl ?_
        refine gTrials_found 0 rfl (tb_in (i := 9) (j := 28) rfl rfl) dX9_findMakeUp_84 ?_
        refine r_iconst (x := (0 : Int32)) dX9_findMakeUp_87 (by decide) ?_
        obtain ⟨h11, h⟩ := rq_some h
        refine lTrials_found 0 rfl (inb_in h11) dX9_findMakeUp_88 ?_
        refine r_icmp_le 102 dX9_findMakeUp_89 (by decide) (fun c12 => ?_) (fun c12 => ?_)
        · replace h := it_pos c12 h
          refine r_iinc (y := (x5 + (1 : Int32))) (lv' := [(5, .int (x5 + (1 : Int32))), (6, .int q10.1), (0, .ref ((a0 0) 0)), (1, .ref (a1 0)), (2, .null), (3, .int x3), (4, .int x4)]) 6 dX9_findMakeUp_102 rfl rfl (Nat.le_of_ble_eq_true rfl) rfl ?_
          refine r_goto 34 dX9_findMakeUp_105 (by decide) ?_
          refine r_sub (lv' := [(0, .ref ((a0 0) 0)), (1, .ref (a1 0)), (2, .null), (3, .int x3), (4, .int x4), (5, .int (x5 + (1 : Int32)))]) [2, 3, 4, 5, 6, 0] rfl ?_
          exact ih (x5 + (1 : Int32)) g0 (q8.1, q8.2.1, q8.2.2.1, q8.2.2.2.1, q10.2.1, q10.2.2.1, q8.2.2.2.2.2.2.1, q8.2.2.2.2.2.2.2.1, q10.2.2.2.1, q10.2.2.2.2.1, q10.2.2.2.2.2.1, q8.2.2.2.2.2.2.2.2.2.2.2.1, q9.1, q10.2.2.2.2.2.2.1, q8.2.2.2.2.2.2.2.2.2.2.2.2.2.2.1, q10.2.2.2.2.2.2.2, q9.2.1, q9.2.2.1, q9.2.2.2) h
        · replace h := it_neg c12 h
          refine r_aload_n 1 dX9_findMakeUp_92 rfl ?_
          refine r_iload 0 dX9_findMakeUp_93 rfl ?_
          refine r_iload 5 dX9_findMakeUp_95 rfl ?_
          refine r_iload 6 dX9_findMakeUp_97 rfl ?_
          obtain ⟨q13, h13, h⟩ := bd_some h
          refine b_callV (isC := [0, 1, 2, 3]) (ci := 7)  (st := []) (bs1 := [bTrialsG K (a0 0) ((a0 1) 0) ((a0 2) 0) ((a0 3) 0) q13, bFair K (a0 1) q8.1 q8.2.1 q8.2.2.1 q8.2.2.2.1 q10.2.1 q10.2.2.1 q8.2.2.2.2.2.2.1 q8.2.2.2.2.2.2.2.1 q10.2.2.2.1 q10.2.2.2.2.1 q10.2.2.2.2.2.1 q8.2.2.2.2.2.2.2.2.2.2.2.1 q9.1 q10.2.2.2.2.2.2.1 q8.2.2.2.2.2.2.2.2.2.2.2.2.2.2.1 q10.2.2.2.2.2.2.2 q9.2.1 q9.2.2.1 q9.2.2.2, bOrderG K (a0 2) g2, bOrderG K (a0 3) g3, bFairG K a1 g4]) (cTrials_find (a0 := a0) (g0 := g0) (g1 := (q8.1, q8.2.1, q8.2.2.1, q8.2.2.2.1, q10.2.1, q10.2.2.1, q8.2.2.2.2.2.2.1, q8.2.2.2.2.2.2.2.1, q10.2.2.2.1, q10.2.2.2.2.1, q10.2.2.2.2.2.1, q8.2.2.2.2.2.2.2.2.2.2.2.1, q9.1, q10.2.2.2.2.2.2.1, q8.2.2.2.2.2.2.2.2.2.2.2.2.2.2.1, q10.2.2.2.2.2.2.2, q9.2.1, q9.2.2.1, q9.2.2.2)) (g2 := g2) (g3 := g3) h13) rfl rfl (Nat.le_of_ble_eq_true rfl) kTrials_find (tb_in (i := 10) (j := 20) rfl rfl) (by decide) (by decide) rfl rfl rfl rfl rfl rfl rfl dX9_findMakeUp_99 ?_
          refine r_iinc (y := (x5 + (1 : Int32))) (lv' := [(5, .int (x5 + (1 : Int32))), (6, .int q10.1), (0, .ref ((a0 0) 0)), (1, .ref (a1 0)), (2, .null), (3, .int x3), (4, .int x4)]) 6 dX9_findMakeUp_102 rfl rfl (Nat.le_of_ble_eq_true rfl) rfl ?_
          refine r_goto 34 dX9_findMakeUp_105 (by decide) ?_
          refine r_sub (lv' := [(0, .ref ((a0 0) 0)), (1, .ref (a1 0)), (2, .null), (3, .int x3), (4, .int x4), (5, .int (x5 + (1 : Int32)))]) [2, 3, 4, 5, 6, 0] rfl ?_
          exact ih (x5 + (1 : Int32)) q13 (q8.1, q8.2.1, q8.2.2.1, q8.2.2.2.1, q10.2.1, q10.2.2.1, q8.2.2.2.2.2.2.1, q8.2.2.2.2.2.2.2.1, q10.2.2.2.1, q10.2.2.2.2.1, q10.2.2.2.2.2.1, q8.2.2.2.2.2.2.2.2.2.2.2.1, q9.1, q10.2.2.2.2.2.2.1, q8.2.2.2.2.2.2.2.2.2.2.2.2.2.2.1, q10.2.2.2.2.2.2.2, q9.2.1, q9.2.2.1, q9.2.2.2) h
      · replace h := it_pos c7 h
        refine r_goto 102 dX9_findMakeUp_54 (by decide) ?_
        refine r_iinc (y := (x5 + (1 : Int32))) (lv' := [(5, .int (x5 + (1 : Int32))), (0, .ref ((a0 0) 0)), (1, .ref (a1 0)), (2, .null), (3, .int x3), (4, .int x4)]) 5 dX9_findMakeUp_102 rfl rfl (Nat.le_of_ble_eq_true rfl) rfl ?_
        refine r_goto 34 dX9_findMakeUp_105 (by decide) ?_
        refine r_sub (lv' := [(0, .ref ((a0 0) 0)), (1, .ref (a1 0)), (2, .null), (3, .int x3), (4, .int x4), (5, .int (x5 + (1 : Int32)))]) [1, 2, 3, 4, 5, 0] rfl ?_
        exact ih (x5 + (1 : Int32)) g0 g1 h
def mTrials_findMakeUprn_l22 (g4 : tyFair) (x3 : Int32) : Nat → Int32 → tyTrials → tyFair → Option (tyTrials × tyFair)
  | 0, _, _, _ => none
  | n + 1, x4, g0, g1 => (if g4.2.2.1 ≤ x4 then some (g0, g1) else mTrials_findMakeUprn_l34 g4 x3 x4 (mTrials_findMakeUprn_l22 g4 x3 n) FU (0 : Int32) g0 g1)
set_option maxHeartbeats 4000000 in
set_option maxRecDepth 20000 in
theorem cTrials_findMakeUprn_l22 {q : tyTrials × tyFair} {x3 : Int32}  : ∀ (n : Nat) (x4 : Int32) (g0 : tyTrials) (g1 : tyFair), mTrials_findMakeUprn_l22 g4 x3 n x4 g0 g1 = some q → rW l D Z (ty7 K) MTrials_findMakeUprn 22 [(0, .ref ((a0 0) 0)), (1, .ref (a1 0)), (2, .null), (3, .int x3), (4, .int x4)] [] (List.flatten [bTrialsG K (a0 0) ((a0 1) 0) ((a0 2) 0) ((a0 3) 0) g0, bFairG K (a0 1) g1, bOrderG K (a0 2) g2, bOrderG K (a0 3) g3, bFairG K a1 g4]) (List.flatten [bTrialsG K (a0 0) ((a0 1) 0) ((a0 2) 0) ((a0 3) 0) q.1, bFairG K (a0 1) q.2, bOrderG K (a0 2) g2, bOrderG K (a0 3) g3, bFairG K a1 g4]) none := by
  intro n
  induction n with
  | zero => intro x4 g0 g1 h; unfold mTrials_findMakeUprn_l22 at h; cases h
  | succ n ih =>
    intro x4 g0 g1 h
    unfold mTrials_findMakeUprn_l22 at h
    refine r_iload 4 dX9_findMakeUp_22 rfl ?_
    refine r_aload_n 1 dX9_findMakeUp_24 rfl ?_
    refine gFair_stallsN 4 rfl (List.mem_of_getElem? (i := 16) rfl) dX9_findMakeUp_25 ?_
    refine r_icmp_ge 114 dX9_findMakeUp_28 (by decide) (fun c4 => ?_) (fun c4 => ?_)
    · replace h := it_pos c4 h
      have hq := Option.some.inj h
      subst hq
      exact r_vret rfl dX9_findMakeUp_114
    · replace h := it_neg c4 h
      refine r_iconst (x := (0 : Int32)) dX9_findMakeUp_31 (by decide) ?_
      refine r_istore (lv' := [(5, .int (0 : Int32)), (0, .ref ((a0 0) 0)), (1, .ref (a1 0)), (2, .null), (3, .int x3), (4, .int x4)]) dX9_findMakeUp_32 (Nat.le_of_ble_eq_true rfl) rfl ?_
      refine r_sub (lv' := [(0, .ref ((a0 0) 0)), (1, .ref (a1 0)), (2, .null), (3, .int x3), (4, .int x4), (5, .int (0 : Int32))]) [1, 2, 3, 4, 5, 0] rfl ?_
      exact cTrials_findMakeUprn_l34 (g4 := g4) (ih) FU (0 : Int32) g0 g1 h
def mTrials_findMakeUprn (x3 : Int32) (g0 : tyTrials) (g1 : tyFair) (g4 : tyFair) : Option (tyTrials × tyFair) := (mTrials_from g1 g4).bind (fun q1 => (mFair_gon x3 (-1 : Int32) q1.1 q1.2.1 q1.2.2.1 q1.2.2.2.1 q1.2.2.2.2.1 q1.2.2.2.2.2.1 q1.2.2.2.2.2.2.1 q1.2.2.2.2.2.2.2.2.1 q1.2.2.2.2.2.2.2.2.2.1 q1.2.2.2.2.2.2.2.2.2.2.1 q1.2.2.2.2.2.2.2.2.2.2.2.2.2.1 q1.2.2.2.2.2.2.2.2.2.2.2.2.2.2.1 q1.2.2.2.2.2.2.2.2.2.2.2.2.2.2.2.1 q1.2.2.2.2.2.2.2.2.2.2.2.2.2.2.2.2.1 q1.2.2.2.2.2.2.2.2.2.2.2.2.2.2.2.2.2.1).bind (fun q2 => (mTrials_find q2.1 (-2 : Int32) (-2 : Int32) g0).bind (fun q3 => mTrials_findMakeUprn_l22 g4 x3 FU (0 : Int32) q3 (q1.1, q1.2.1, q1.2.2.1, q1.2.2.2.1, q2.2.1, q2.2.2.1, q1.2.2.2.2.2.2.1, q1.2.2.2.2.2.2.2.1, q2.2.2.2.1, q2.2.2.2.2.1, q2.2.2.2.2.2.1, q1.2.2.2.2.2.2.2.2.2.2.2.1, q1.2.2.2.2.2.2.2.2.2.2.2.2.1, q2.2.2.2.2.2.2.1, q1.2.2.2.2.2.2.2.2.2.2.2.2.2.2.1, q2.2.2.2.2.2.2.2, q1.2.2.2.2.2.2.2.2.2.2.2.2.2.2.2.2.1, q1.2.2.2.2.2.2.2.2.2.2.2.2.2.2.2.2.2.1, q1.2.2.2.2.2.2.2.2.2.2.2.2.2.2.2.2.2.2))))
set_option maxHeartbeats 4000000 in
set_option maxRecDepth 20000 in
theorem cTrials_findMakeUprn {q : tyTrials × tyFair} {x3 : Int32} (h : mTrials_findMakeUprn x3 g0 g1 g4 = some q) : rMet l D Z (ty7 K) MTrials_findMakeUprn [.ref ((a0 0) 0), .ref (a1 0), .null, .int x3] (List.flatten [bTrialsG K (a0 0) ((a0 1) 0) ((a0 2) 0) ((a0 3) 0) g0, bFairG K (a0 1) g1, bOrderG K (a0 2) g2, bOrderG K (a0 3) g3, bFairG K a1 g4]) (List.flatten [bTrialsG K (a0 0) ((a0 1) 0) ((a0 2) 0) ((a0 3) 0) q.1, bFairG K (a0 1) q.2, bOrderG K (a0 2) g2, bOrderG K (a0 3) g3, bFairG K a1 g4]) none := by
  refine rMet.of (by decide) rfl (Nat.le_of_ble_eq_true rfl) ?_
  refine r_sub (lv' := [(0, .ref ((a0 0) 0)), (1, .ref (a1 0)), (2, .null), (3, .int x3)]) [0, 1, 2, 3] rfl ?_
  unfold mTrials_findMakeUprn at h
  refine r_aload_n 0 dX9_findMakeUp_0 rfl ?_
  refine r_aload_n 0 dX9_findMakeUp_1 rfl ?_
  refine r_aload_n 1 dX9_findMakeUp_2 rfl ?_
  obtain ⟨q1, h1, h⟩ := bd_some h
  refine b_callV (isC := [0, 1, 2, 3, 4]) (ci := 7)  (st := [.ref ((a0 0) 0)]) (bs1 := [bTrialsG K (a0 0) ((a0 1) 0) ((a0 2) 0) ((a0 3) 0) g0, bFairG K (a0 1) q1, bOrderG K (a0 2) g2, bOrderG K (a0 3) g3, bFairG K a1 g4]) (cTrials_from (a0 := a0) (a1 := a1) (g0 := g0) (g1 := g1) (g2 := g2) (g3 := g3) (g4 := g4) h1) rfl rfl (Nat.le_of_ble_eq_true rfl) kTrials_from (tb_in (i := 10) (j := 8) rfl rfl) (by decide) (by decide) rfl rfl rfl rfl rfl rfl rfl dX9_findMakeUp_3 ?_
  refine r_aload_nN 2 dX9_findMakeUp_6 rfl ?_
  refine r_iload_n 3 dX9_findMakeUp_7 rfl ?_
  refine r_iconst (x := (-1 : Int32)) dX9_findMakeUp_8 (by decide) ?_
  obtain ⟨q2, h2, h⟩ := bd_some h
  refine b_callVN (isC := [1]) (ci := 1)  (st := [.ref ((a0 0) 0)]) (bs1 := [bTrialsG K (a0 0) ((a0 1) 0) ((a0 2) 0) ((a0 3) 0) g0, bFair K (a0 1) q1.1 q1.2.1 q1.2.2.1 q1.2.2.2.1 q2.2.1 q2.2.2.1 q1.2.2.2.2.2.2.1 q1.2.2.2.2.2.2.2.1 q2.2.2.2.1 q2.2.2.2.2.1 q2.2.2.2.2.2.1 q1.2.2.2.2.2.2.2.2.2.2.2.1 q1.2.2.2.2.2.2.2.2.2.2.2.2.1 q2.2.2.2.2.2.2.1 q1.2.2.2.2.2.2.2.2.2.2.2.2.2.2.1 q2.2.2.2.2.2.2.2 q1.2.2.2.2.2.2.2.2.2.2.2.2.2.2.2.2.1 q1.2.2.2.2.2.2.2.2.2.2.2.2.2.2.2.2.2.1 q1.2.2.2.2.2.2.2.2.2.2.2.2.2.2.2.2.2.2, bOrderG K (a0 2) g2, bOrderG K (a0 3) g3, bFairG K a1 g4]) (cFair_gon (a0 := (a0 1)) (z0_lasts := q1.1) (z0_keeps := q1.2.1) (z0_stalls := q1.2.2.1) (z0_buyers := q1.2.2.2.1) (z0_minute := q1.2.2.2.2.1) (z0_goods := q1.2.2.2.2.2.1) (z0_price := q1.2.2.2.2.2.2.1) (z0_tongue := q1.2.2.2.2.2.2.2.1) (z0_till := q1.2.2.2.2.2.2.2.2.1) (z0_wealth := q1.2.2.2.2.2.2.2.2.2.1) (z0_sold := q1.2.2.2.2.2.2.2.2.2.2.1) (z0_ring := q1.2.2.2.2.2.2.2.2.2.2.2.1) (z0_grudges := q1.2.2.2.2.2.2.2.2.2.2.2.2.1) (z0_purse := q1.2.2.2.2.2.2.2.2.2.2.2.2.2.1) (z0_came := q1.2.2.2.2.2.2.2.2.2.2.2.2.2.2.1) (z0_had := q1.2.2.2.2.2.2.2.2.2.2.2.2.2.2.2.1) (z0_seller := q1.2.2.2.2.2.2.2.2.2.2.2.2.2.2.2.2.1) (z0_praise := q1.2.2.2.2.2.2.2.2.2.2.2.2.2.2.2.2.2.1) (z0_borne := q1.2.2.2.2.2.2.2.2.2.2.2.2.2.2.2.2.2.2) h2) rfl rfl (Nat.le_of_ble_eq_true rfl) kFair_gon (List.mem_of_getElem? (i := 57) rfl) (by decide) (by decide) rfl rfl rfl rfl rfl rfl rfl dX9_findMakeUp_9 ?_
  refine r_bipush (x := (-2 : Int32)) dX9_findMakeUp_12 (by decide) ?_
  refine r_bipush (x := (-2 : Int32)) dX9_findMakeUp_14 (by decide) ?_
  obtain ⟨q3, h3, h⟩ := bd_some h
  refine b_callV (isC := [0, 1, 2, 3]) (ci := 7)  (st := []) (bs1 := [bTrialsG K (a0 0) ((a0 1) 0) ((a0 2) 0) ((a0 3) 0) q3, bFair K (a0 1) q1.1 q1.2.1 q1.2.2.1 q1.2.2.2.1 q2.2.1 q2.2.2.1 q1.2.2.2.2.2.2.1 q1.2.2.2.2.2.2.2.1 q2.2.2.2.1 q2.2.2.2.2.1 q2.2.2.2.2.2.1 q1.2.2.2.2.2.2.2.2.2.2.2.1 q1.2.2.2.2.2.2.2.2.2.2.2.2.1 q2.2.2.2.2.2.2.1 q1.2.2.2.2.2.2.2.2.2.2.2.2.2.2.1 q2.2.2.2.2.2.2.2 q1.2.2.2.2.2.2.2.2.2.2.2.2.2.2.2.2.1 q1.2.2.2.2.2.2.2.2.2.2.2.2.2.2.2.2.2.1 q1.2.2.2.2.2.2.2.2.2.2.2.2.2.2.2.2.2.2, bOrderG K (a0 2) g2, bOrderG K (a0 3) g3, bFairG K a1 g4]) (cTrials_find (a0 := a0) (g0 := g0) (g1 := (q1.1, q1.2.1, q1.2.2.1, q1.2.2.2.1, q2.2.1, q2.2.2.1, q1.2.2.2.2.2.2.1, q1.2.2.2.2.2.2.2.1, q2.2.2.2.1, q2.2.2.2.2.1, q2.2.2.2.2.2.1, q1.2.2.2.2.2.2.2.2.2.2.2.1, q1.2.2.2.2.2.2.2.2.2.2.2.2.1, q2.2.2.2.2.2.2.1, q1.2.2.2.2.2.2.2.2.2.2.2.2.2.2.1, q2.2.2.2.2.2.2.2, q1.2.2.2.2.2.2.2.2.2.2.2.2.2.2.2.2.1, q1.2.2.2.2.2.2.2.2.2.2.2.2.2.2.2.2.2.1, q1.2.2.2.2.2.2.2.2.2.2.2.2.2.2.2.2.2.2)) (g2 := g2) (g3 := g3) h3) rfl rfl (Nat.le_of_ble_eq_true rfl) kTrials_find (tb_in (i := 10) (j := 20) rfl rfl) (by decide) (by decide) rfl rfl rfl rfl rfl rfl rfl dX9_findMakeUp_16 ?_
  refine r_iconst (x := (0 : Int32)) dX9_findMakeUp_19 (by decide) ?_
  refine r_istore (lv' := [(4, .int (0 : Int32)), (0, .ref ((a0 0) 0)), (1, .ref (a1 0)), (2, .null), (3, .int x3)]) dX9_findMakeUp_20 (Nat.le_of_ble_eq_true rfl) rfl ?_
  refine r_sub (lv' := [(0, .ref ((a0 0) 0)), (1, .ref (a1 0)), (2, .null), (3, .int x3), (4, .int (0 : Int32))]) [1, 2, 3, 4, 0] rfl ?_
  exact cTrials_findMakeUprn_l22 (g4 := g4)  FU (0 : Int32) q3 (q1.1, q1.2.1, q1.2.2.1, q1.2.2.2.1, q2.2.1, q2.2.2.1, q1.2.2.2.2.2.2.1, q1.2.2.2.2.2.2.2.1, q2.2.2.2.1, q2.2.2.2.2.1, q2.2.2.2.2.2.1, q1.2.2.2.2.2.2.2.2.2.2.2.1, q1.2.2.2.2.2.2.2.2.2.2.2.2.1, q2.2.2.2.2.2.2.1, q1.2.2.2.2.2.2.2.2.2.2.2.2.2.2.1, q2.2.2.2.2.2.2.2, q1.2.2.2.2.2.2.2.2.2.2.2.2.2.2.2.2.1, q1.2.2.2.2.2.2.2.2.2.2.2.2.2.2.2.2.2.1, q1.2.2.2.2.2.2.2.2.2.2.2.2.2.2.2.2.2.2) h
end
theorem dX9_findAway_0 : decode cX9_findAway 0 = .ok (.aload_n 0, 1) := by decide +kernel
theorem dX9_findAway_1 : decode cX9_findAway 1 = .ok (.iconst (-1), 1) := by decide +kernel
theorem dX9_findAway_2 : decode cX9_findAway 2 = .ok (.aload_n 0, 1) := by decide +kernel
theorem dX9_findAway_3 : decode cX9_findAway 3 = .ok (.aload_n 1, 1) := by decide +kernel
theorem dX9_findAway_4 : decode cX9_findAway 4 = .ok (.invokevirtual 66, 3) := by decide +kernel
theorem dX9_findAway_7 : decode cX9_findAway 7 = .ok (.aload_n 2, 1) := by decide +kernel
theorem dX9_findAway_8 : decode cX9_findAway 8 = .ok (.iload_n 3, 1) := by decide +kernel
theorem dX9_findAway_9 : decode cX9_findAway 9 = .ok (.iconst (-1), 1) := by decide +kernel
theorem dX9_findAway_10 : decode cX9_findAway 10 = .ok (.invokevirtual 74, 3) := by decide +kernel
theorem dX9_findAway_13 : decode cX9_findAway 13 = .ok (.iconst 0, 1) := by decide +kernel
theorem dX9_findAway_14 : decode cX9_findAway 14 = .ok (.invokevirtual 92, 3) := by decide +kernel
theorem dX9_findAway_17 : decode cX9_findAway 17 = .ok (.iconst 0, 1) := by decide +kernel
theorem dX9_findAway_18 : decode cX9_findAway 18 = .ok (.istore 4, 2) := by decide +kernel
theorem dX9_findAway_20 : decode cX9_findAway 20 = .ok (.iload 4, 2) := by decide +kernel
theorem dX9_findAway_22 : decode cX9_findAway 22 = .ok (.aload_n 1, 1) := by decide +kernel
theorem dX9_findAway_23 : decode cX9_findAway 23 = .ok (.getfield 120, 3) := by decide +kernel
theorem dX9_findAway_26 : decode cX9_findAway 26 = .ok (.if_icmp .ge 43, 3) := by decide +kernel
theorem dX9_findAway_29 : decode cX9_findAway 29 = .ok (.aload_n 0, 1) := by decide +kernel
theorem dX9_findAway_30 : decode cX9_findAway 30 = .ok (.aload_n 1, 1) := by decide +kernel
theorem dX9_findAway_31 : decode cX9_findAway 31 = .ok (.invokevirtual 66, 3) := by decide +kernel
theorem dX9_findAway_34 : decode cX9_findAway 34 = .ok (.aload_n 2, 1) := by decide +kernel
theorem dX9_findAway_35 : decode cX9_findAway 35 = .ok (.iload_n 3, 1) := by decide +kernel
theorem dX9_findAway_36 : decode cX9_findAway 36 = .ok (.iload 4, 2) := by decide +kernel
theorem dX9_findAway_38 : decode cX9_findAway 38 = .ok (.invokevirtual 74, 3) := by decide +kernel
theorem dX9_findAway_41 : decode cX9_findAway 41 = .ok (.istore 5, 2) := by decide +kernel
theorem dX9_findAway_43 : decode cX9_findAway 43 = .ok (.iload 5, 2) := by decide +kernel
theorem dX9_findAway_45 : decode cX9_findAway 45 = .ok (.aload_n 0, 1) := by decide +kernel
theorem dX9_findAway_46 : decode cX9_findAway 46 = .ok (.getfield 28, 3) := by decide +kernel
theorem dX9_findAway_49 : decode cX9_findAway 49 = .ok (.iconst 1, 1) := by decide +kernel
theorem dX9_findAway_50 : decode cX9_findAway 50 = .ok (.iaload, 1) := by decide +kernel
theorem dX9_findAway_51 : decode cX9_findAway 51 = .ok (.if_icmp .le 12, 3) := by decide +kernel
theorem dX9_findAway_54 : decode cX9_findAway 54 = .ok (.aload_n 0, 1) := by decide +kernel
theorem dX9_findAway_55 : decode cX9_findAway 55 = .ok (.iload 4, 2) := by decide +kernel
theorem dX9_findAway_57 : decode cX9_findAway 57 = .ok (.iload 5, 2) := by decide +kernel
theorem dX9_findAway_59 : decode cX9_findAway 59 = .ok (.iconst 0, 1) := by decide +kernel
theorem dX9_findAway_60 : decode cX9_findAway 60 = .ok (.invokevirtual 92, 3) := by decide +kernel
theorem dX9_findAway_63 : decode cX9_findAway 63 = .ok (.iinc 4 1, 3) := by decide +kernel
theorem dX9_findAway_66 : decode cX9_findAway 66 = .ok (.goto (-46), 3) := by decide +kernel
theorem dX9_findAway_69 : decode cX9_findAway 69 = .ok (.return_, 1) := by decide +kernel
abbrev MTrials_findAwayrr : rx_M := (RX9, yX9_findAway, cX9_findAway, 6, none, 6)
theorem kTrials_findAwayrr : rKv MTrials_findAwayrr 3 := ⟨tb_in (i := 15) (j := 21) rfl rfl, tb_in (i := 15) (j := 22) rfl rfl, tb_in (i := 10) (j := 11) rfl rfl, tb_in (i := 11) (j := 2) rfl rfl, ⟨by decide, by decide, by decide +kernel⟩, by decide⟩
section
variable {a0 : Nat → Nat → Nat} {a1 : Nat → Nat} {a2 : Nat → Nat} {g0 : tyTrials} {g1 : tyFair} {g2 : tyOrder} {g3 : tyOrder} {g4 : tyFair} {g5 : tyRule}
def mTrials_findAwayrr_l20 (g4 : tyFair) (x3 : Int32) : Nat → Int32 → tyTrials → tyFair → tyRule → Option (tyTrials × tyFair × tyRule)
  | 0, _, _, _, _ => none
  | n + 1, x4, g0, g1, g5 => (if g4.2.2.2.1 ≤ x4 then some (g0, g1, g5) else (mTrials_from g1 g4).bind (fun q5 => (mFair_gor x3 x4 q5.1 q5.2.1 q5.2.2.1 q5.2.2.2.1 q5.2.2.2.2.1 q5.2.2.2.2.2.1 q5.2.2.2.2.2.2.1 q5.2.2.2.2.2.2.2.2.1 q5.2.2.2.2.2.2.2.2.2.1 q5.2.2.2.2.2.2.2.2.2.2.1 q5.2.2.2.2.2.2.2.2.2.2.2.2.2.1 q5.2.2.2.2.2.2.2.2.2.2.2.2.2.2.1 q5.2.2.2.2.2.2.2.2.2.2.2.2.2.2.2.1 q5.2.2.2.2.2.2.2.2.2.2.2.2.2.2.2.2.1 q5.2.2.2.2.2.2.2.2.2.2.2.2.2.2.2.2.2.1 q5.2.2.2.2.2.2.2.2.2.2.2.2.2.2.2.2.2.2 g5.1 g5.2.1 g5.2.2.1 g5.2.2.2.1 g5.2.2.2.2.1 g5.2.2.2.2.2.1 g5.2.2.2.2.2.2.2.1 g5.2.2.2.2.2.2.2.2.1 g5.2.2.2.2.2.2.2.2.2).bind (fun q6 => rq (inb (1 : Int32) 3) ((if q6.1 ≤ (g0.1 (1 : Int32).toNatClampNeg) then mTrials_findAwayrr_l20 g4 x3 n (x4 + (1 : Int32)) g0 (q5.1, q5.2.1, q5.2.2.1, q5.2.2.2.1, q6.2.1, q6.2.2.1, q5.2.2.2.2.2.2.1, q5.2.2.2.2.2.2.2.1, q6.2.2.2.1, q6.2.2.2.2.1, q6.2.2.2.2.2.1, q5.2.2.2.2.2.2.2.2.2.2.2.1, q5.2.2.2.2.2.2.2.2.2.2.2.2.1, q6.2.2.2.2.2.2.1, q5.2.2.2.2.2.2.2.2.2.2.2.2.2.2.1, q6.2.2.2.2.2.2.2.1, q5.2.2.2.2.2.2.2.2.2.2.2.2.2.2.2.2.1, q5.2.2.2.2.2.2.2.2.2.2.2.2.2.2.2.2.2.1, q5.2.2.2.2.2.2.2.2.2.2.2.2.2.2.2.2.2.2) (g5.1, g5.2.1, g5.2.2.1, g5.2.2.2.1, g5.2.2.2.2.1, g5.2.2.2.2.2.1, g5.2.2.2.2.2.2.1, g5.2.2.2.2.2.2.2.1, q6.2.2.2.2.2.2.2.2.1, q6.2.2.2.2.2.2.2.2.2) else (mTrials_find x4 q6.1 (0 : Int32) g0).bind (fun q9 => mTrials_findAwayrr_l20 g4 x3 n (x4 + (1 : Int32)) q9 (q5.1, q5.2.1, q5.2.2.1, q5.2.2.2.1, q6.2.1, q6.2.2.1, q5.2.2.2.2.2.2.1, q5.2.2.2.2.2.2.2.1, q6.2.2.2.1, q6.2.2.2.2.1, q6.2.2.2.2.2.1, q5.2.2.2.2.2.2.2.2.2.2.2.1, q5.2.2.2.2.2.2.2.2.2.2.2.2.1, q6.2.2.2.2.2.2.1, q5.2.2.2.2.2.2.2.2.2.2.2.2.2.2.1, q6.2.2.2.2.2.2.2.1, q5.2.2.2.2.2.2.2.2.2.2.2.2.2.2.2.2.1, q5.2.2.2.2.2.2.2.2.2.2.2.2.2.2.2.2.2.1, q5.2.2.2.2.2.2.2.2.2.2.2.2.2.2.2.2.2.2) (g5.1, g5.2.1, g5.2.2.1, g5.2.2.2.1, g5.2.2.2.2.1, g5.2.2.2.2.2.1, g5.2.2.2.2.2.2.1, g5.2.2.2.2.2.2.2.1, q6.2.2.2.2.2.2.2.2.1, q6.2.2.2.2.2.2.2.2.2)))))))
set_option maxHeartbeats 4000000 in
set_option maxRecDepth 20000 in
theorem cTrials_findAwayrr_l20 {q : tyTrials × tyFair × tyRule} {x3 : Int32}  : ∀ (n : Nat) (x4 : Int32) (g0 : tyTrials) (g1 : tyFair) (g5 : tyRule), mTrials_findAwayrr_l20 g4 x3 n x4 g0 g1 g5 = some q → rW l D Z (ty7 K) MTrials_findAwayrr 20 [(0, .ref ((a0 0) 0)), (1, .ref (a1 0)), (2, .ref (a2 0)), (3, .int x3), (4, .int x4)] [] (List.flatten [bTrialsG K (a0 0) ((a0 1) 0) ((a0 2) 0) ((a0 3) 0) g0, bFairG K (a0 1) g1, bOrderG K (a0 2) g2, bOrderG K (a0 3) g3, bFairG K a1 g4, bRuleG K a2 g5]) (List.flatten [bTrialsG K (a0 0) ((a0 1) 0) ((a0 2) 0) ((a0 3) 0) q.1, bFairG K (a0 1) q.2.1, bOrderG K (a0 2) g2, bOrderG K (a0 3) g3, bFairG K a1 g4, bRuleG K a2 q.2.2]) none := by
  intro n
  induction n with
  | zero => intro x4 g0 g1 g5 h; unfold mTrials_findAwayrr_l20 at h; cases h
  | succ n ih =>
    intro x4 g0 g1 g5 h
    unfold mTrials_findAwayrr_l20 at h
    refine r_iload 4 dX9_findAway_20 rfl ?_
    refine r_aload_n 1 dX9_findAway_22 rfl ?_
    refine gFair_buyersN 4 rfl (List.mem_of_getElem? (i := 18) rfl) dX9_findAway_23 ?_
    refine r_icmp_ge 69 dX9_findAway_26 (by decide) (fun c4 => ?_) (fun c4 => ?_)
    · replace h := it_pos c4 h
      have hq := Option.some.inj h
      subst hq
      exact r_vret rfl dX9_findAway_69
    · replace h := it_neg c4 h
      refine r_aload_n 0 dX9_findAway_29 rfl ?_
      refine r_aload_n 1 dX9_findAway_30 rfl ?_
      obtain ⟨q5, h5, h⟩ := bd_some h
      refine b_callV (isC := [0, 1, 2, 3, 4]) (ci := 7)  (st := []) (bs1 := [bTrialsG K (a0 0) ((a0 1) 0) ((a0 2) 0) ((a0 3) 0) g0, bFairG K (a0 1) q5, bOrderG K (a0 2) g2, bOrderG K (a0 3) g3, bFairG K a1 g4, bRuleG K a2 g5]) (cTrials_from (a0 := a0) (a1 := a1) (g0 := g0) (g1 := g1) (g2 := g2) (g3 := g3) (g4 := g4) h5) rfl rfl (Nat.le_of_ble_eq_true rfl) kTrials_from (tb_in (i := 10) (j := 8) rfl rfl) (by decide) (by decide) rfl rfl rfl rfl rfl rfl rfl dX9_findAway_31 ?_
      refine r_aload_n 2 dX9_findAway_34 rfl ?_
      refine r_iload_n 3 dX9_findAway_35 rfl ?_
      refine r_iload 4 dX9_findAway_36 rfl ?_
      obtain ⟨q6, h6, h⟩ := bd_some h
      refine b_callVN (isC := [1, 5]) (ci := 1)  (st := []) (bs1 := [bTrialsG K (a0 0) ((a0 1) 0) ((a0 2) 0) ((a0 3) 0) g0, bFair K (a0 1) q5.1 q5.2.1 q5.2.2.1 q5.2.2.2.1 q6.2.1 q6.2.2.1 q5.2.2.2.2.2.2.1 q5.2.2.2.2.2.2.2.1 q6.2.2.2.1 q6.2.2.2.2.1 q6.2.2.2.2.2.1 q5.2.2.2.2.2.2.2.2.2.2.2.1 q5.2.2.2.2.2.2.2.2.2.2.2.2.1 q6.2.2.2.2.2.2.1 q5.2.2.2.2.2.2.2.2.2.2.2.2.2.2.1 q6.2.2.2.2.2.2.2.1 q5.2.2.2.2.2.2.2.2.2.2.2.2.2.2.2.2.1 q5.2.2.2.2.2.2.2.2.2.2.2.2.2.2.2.2.2.1 q5.2.2.2.2.2.2.2.2.2.2.2.2.2.2.2.2.2.2, bOrderG K (a0 2) g2, bOrderG K (a0 3) g3, bFairG K a1 g4, bRule K a2 g5.1 g5.2.1 g5.2.2.1 g5.2.2.2.1 g5.2.2.2.2.1 g5.2.2.2.2.2.1 g5.2.2.2.2.2.2.1 g5.2.2.2.2.2.2.2.1 q6.2.2.2.2.2.2.2.2.1 q6.2.2.2.2.2.2.2.2.2]) (cFair_gor (a0 := (a0 1)) (a1 := a2) (z0_lasts := q5.1) (z0_keeps := q5.2.1) (z0_stalls := q5.2.2.1) (z0_buyers := q5.2.2.2.1) (z0_minute := q5.2.2.2.2.1) (z0_goods := q5.2.2.2.2.2.1) (z0_price := q5.2.2.2.2.2.2.1) (z0_tongue := q5.2.2.2.2.2.2.2.1) (z0_till := q5.2.2.2.2.2.2.2.2.1) (z0_wealth := q5.2.2.2.2.2.2.2.2.2.1) (z0_sold := q5.2.2.2.2.2.2.2.2.2.2.1) (z0_ring := q5.2.2.2.2.2.2.2.2.2.2.2.1) (z0_grudges := q5.2.2.2.2.2.2.2.2.2.2.2.2.1) (z0_purse := q5.2.2.2.2.2.2.2.2.2.2.2.2.2.1) (z0_came := q5.2.2.2.2.2.2.2.2.2.2.2.2.2.2.1) (z0_had := q5.2.2.2.2.2.2.2.2.2.2.2.2.2.2.2.1) (z0_seller := q5.2.2.2.2.2.2.2.2.2.2.2.2.2.2.2.2.1) (z0_praise := q5.2.2.2.2.2.2.2.2.2.2.2.2.2.2.2.2.2.1) (z0_borne := q5.2.2.2.2.2.2.2.2.2.2.2.2.2.2.2.2.2.2) (z1_steps := g5.1) (z1_size := g5.2.1) (z1_sumFrom := g5.2.2.1) (z1_testFrom := g5.2.2.2.1) (z1_testTo := g5.2.2.2.2.1) (z1_clauses := g5.2.2.2.2.2.1) (z1_parts := g5.2.2.2.2.2.2.1) (z1_readsTime := g5.2.2.2.2.2.2.2.1) (z1_words := g5.2.2.2.2.2.2.2.2.1) (z1_stack := g5.2.2.2.2.2.2.2.2.2) h6) rfl rfl (Nat.le_of_ble_eq_true rfl) kFair_gor (List.mem_of_getElem? (i := 57) rfl) (by decide) (by decide) rfl rfl rfl rfl rfl rfl rfl dX9_findAway_38 ?_
      refine r_istore (lv' := [(5, .int q6.1), (0, .ref ((a0 0) 0)), (1, .ref (a1 0)), (2, .ref (a2 0)), (3, .int x3), (4, .int x4)]) dX9_findAway_41 (Nat.le_of_ble_eq_true rfl) rfl ?_
      refine r_iload 0 dX9_findAway_43 rfl ?_
      refine r_aload_n 1 dX9_findAway_45 rfl ?_
      refine gTrials_found 0 rfl (tb_in (i := 9) (j := 28) rfl rfl) dX9_findAway_46 ?_
      refine r_iconst (x := (1 : Int32)) dX9_findAway_49 (by decide) ?_
      obtain ⟨h7, h⟩ := rq_some h
      refine lTrials_found 0 rfl (inb_in h7) dX9_findAway_50 ?_
      refine r_icmp_le 63 dX9_findAway_51 (by decide) (fun c8 => ?_) (fun c8 => ?_)
      · replace h := it_pos c8 h
        refine r_iinc (y := (x4 + (1 : Int32))) (lv' := [(4, .int (x4 + (1 : Int32))), (5, .int q6.1), (0, .ref ((a0 0) 0)), (1, .ref (a1 0)), (2, .ref (a2 0)), (3, .int x3)]) 5 dX9_findAway_63 rfl rfl (Nat.le_of_ble_eq_true rfl) rfl ?_
        refine r_goto 20 dX9_findAway_66 (by decide) ?_
        refine r_sub (lv' := [(0, .ref ((a0 0) 0)), (1, .ref (a1 0)), (2, .ref (a2 0)), (3, .int x3), (4, .int (x4 + (1 : Int32)))]) [2, 3, 4, 5, 0] rfl ?_
        exact ih (x4 + (1 : Int32)) g0 (q5.1, q5.2.1, q5.2.2.1, q5.2.2.2.1, q6.2.1, q6.2.2.1, q5.2.2.2.2.2.2.1, q5.2.2.2.2.2.2.2.1, q6.2.2.2.1, q6.2.2.2.2.1, q6.2.2.2.2.2.1, q5.2.2.2.2.2.2.2.2.2.2.2.1, q5.2.2.2.2.2.2.2.2.2.2.2.2.1, q6.2.2.2.2.2.2.1, q5.2.2.2.2.2.2.2.2.2.2.2.2.2.2.1, q6.2.2.2.2.2.2.2.1, q5.2.2.2.2.2.2.2.2.2.2.2.2.2.2.2.2.1, q5.2.2.2.2.2.2.2.2.2.2.2.2.2.2.2.2.2.1, q5.2.2.2.2.2.2.2.2.2.2.2.2.2.2.2.2.2.2) (g5.1, g5.2.1, g5.2.2.1, g5.2.2.2.1, g5.2.2.2.2.1, g5.2.2.2.2.2.1, g5.2.2.2.2.2.2.1, g5.2.2.2.2.2.2.2.1, q6.2.2.2.2.2.2.2.2.1, q6.2.2.2.2.2.2.2.2.2) h
      · replace h := it_neg c8 h
        refine r_aload_n 1 dX9_findAway_54 rfl ?_
        refine r_iload 5 dX9_findAway_55 rfl ?_
        refine r_iload 0 dX9_findAway_57 rfl ?_
        refine r_iconst (x := (0 : Int32)) dX9_findAway_59 (by decide) ?_
        obtain ⟨q9, h9, h⟩ := bd_some h
        refine b_callV (isC := [0, 1, 2, 3]) (ci := 7)  (st := []) (bs1 := [bTrialsG K (a0 0) ((a0 1) 0) ((a0 2) 0) ((a0 3) 0) q9, bFair K (a0 1) q5.1 q5.2.1 q5.2.2.1 q5.2.2.2.1 q6.2.1 q6.2.2.1 q5.2.2.2.2.2.2.1 q5.2.2.2.2.2.2.2.1 q6.2.2.2.1 q6.2.2.2.2.1 q6.2.2.2.2.2.1 q5.2.2.2.2.2.2.2.2.2.2.2.1 q5.2.2.2.2.2.2.2.2.2.2.2.2.1 q6.2.2.2.2.2.2.1 q5.2.2.2.2.2.2.2.2.2.2.2.2.2.2.1 q6.2.2.2.2.2.2.2.1 q5.2.2.2.2.2.2.2.2.2.2.2.2.2.2.2.2.1 q5.2.2.2.2.2.2.2.2.2.2.2.2.2.2.2.2.2.1 q5.2.2.2.2.2.2.2.2.2.2.2.2.2.2.2.2.2.2, bOrderG K (a0 2) g2, bOrderG K (a0 3) g3, bFairG K a1 g4, bRule K a2 g5.1 g5.2.1 g5.2.2.1 g5.2.2.2.1 g5.2.2.2.2.1 g5.2.2.2.2.2.1 g5.2.2.2.2.2.2.1 g5.2.2.2.2.2.2.2.1 q6.2.2.2.2.2.2.2.2.1 q6.2.2.2.2.2.2.2.2.2]) (cTrials_find (a0 := a0) (g0 := g0) (g1 := (q5.1, q5.2.1, q5.2.2.1, q5.2.2.2.1, q6.2.1, q6.2.2.1, q5.2.2.2.2.2.2.1, q5.2.2.2.2.2.2.2.1, q6.2.2.2.1, q6.2.2.2.2.1, q6.2.2.2.2.2.1, q5.2.2.2.2.2.2.2.2.2.2.2.1, q5.2.2.2.2.2.2.2.2.2.2.2.2.1, q6.2.2.2.2.2.2.1, q5.2.2.2.2.2.2.2.2.2.2.2.2.2.2.1, q6.2.2.2.2.2.2.2.1, q5.2.2.2.2.2.2.2.2.2.2.2.2.2.2.2.2.1, q5.2.2.2.2.2.2.2.2.2.2.2.2.2.2.2.2.2.1, q5.2.2.2.2.2.2.2.2.2.2.2.2.2.2.2.2.2.2)) (g2 := g2) (g3 := g3) h9) rfl rfl (Nat.le_of_ble_eq_true rfl) kTrials_find (tb_in (i := 10) (j := 20) rfl rfl) (by decide) (by decide) rfl rfl rfl rfl rfl rfl rfl dX9_findAway_60 ?_
        refine r_iinc (y := (x4 + (1 : Int32))) (lv' := [(4, .int (x4 + (1 : Int32))), (5, .int q6.1), (0, .ref ((a0 0) 0)), (1, .ref (a1 0)), (2, .ref (a2 0)), (3, .int x3)]) 5 dX9_findAway_63 rfl rfl (Nat.le_of_ble_eq_true rfl) rfl ?_
        refine r_goto 20 dX9_findAway_66 (by decide) ?_
        refine r_sub (lv' := [(0, .ref ((a0 0) 0)), (1, .ref (a1 0)), (2, .ref (a2 0)), (3, .int x3), (4, .int (x4 + (1 : Int32)))]) [2, 3, 4, 5, 0] rfl ?_
        exact ih (x4 + (1 : Int32)) q9 (q5.1, q5.2.1, q5.2.2.1, q5.2.2.2.1, q6.2.1, q6.2.2.1, q5.2.2.2.2.2.2.1, q5.2.2.2.2.2.2.2.1, q6.2.2.2.1, q6.2.2.2.2.1, q6.2.2.2.2.2.1, q5.2.2.2.2.2.2.2.2.2.2.2.1, q5.2.2.2.2.2.2.2.2.2.2.2.2.1, q6.2.2.2.2.2.2.1, q5.2.2.2.2.2.2.2.2.2.2.2.2.2.2.1, q6.2.2.2.2.2.2.2.1, q5.2.2.2.2.2.2.2.2.2.2.2.2.2.2.2.2.1, q5.2.2.2.2.2.2.2.2.2.2.2.2.2.2.2.2.2.1, q5.2.2.2.2.2.2.2.2.2.2.2.2.2.2.2.2.2.2) (g5.1, g5.2.1, g5.2.2.1, g5.2.2.2.1, g5.2.2.2.2.1, g5.2.2.2.2.2.1, g5.2.2.2.2.2.2.1, g5.2.2.2.2.2.2.2.1, q6.2.2.2.2.2.2.2.2.1, q6.2.2.2.2.2.2.2.2.2) h
def mTrials_findAwayrr (x3 : Int32) (g0 : tyTrials) (g1 : tyFair) (g4 : tyFair) (g5 : tyRule) : Option (tyTrials × tyFair × tyRule) := (mTrials_from g1 g4).bind (fun q1 => (mFair_gor x3 (-1 : Int32) q1.1 q1.2.1 q1.2.2.1 q1.2.2.2.1 q1.2.2.2.2.1 q1.2.2.2.2.2.1 q1.2.2.2.2.2.2.1 q1.2.2.2.2.2.2.2.2.1 q1.2.2.2.2.2.2.2.2.2.1 q1.2.2.2.2.2.2.2.2.2.2.1 q1.2.2.2.2.2.2.2.2.2.2.2.2.2.1 q1.2.2.2.2.2.2.2.2.2.2.2.2.2.2.1 q1.2.2.2.2.2.2.2.2.2.2.2.2.2.2.2.1 q1.2.2.2.2.2.2.2.2.2.2.2.2.2.2.2.2.1 q1.2.2.2.2.2.2.2.2.2.2.2.2.2.2.2.2.2.1 q1.2.2.2.2.2.2.2.2.2.2.2.2.2.2.2.2.2.2 g5.1 g5.2.1 g5.2.2.1 g5.2.2.2.1 g5.2.2.2.2.1 g5.2.2.2.2.2.1 g5.2.2.2.2.2.2.2.1 g5.2.2.2.2.2.2.2.2.1 g5.2.2.2.2.2.2.2.2.2).bind (fun q2 => (mTrials_find (-1 : Int32) q2.1 (0 : Int32) g0).bind (fun q3 => mTrials_findAwayrr_l20 g4 x3 FU (0 : Int32) q3 (q1.1, q1.2.1, q1.2.2.1, q1.2.2.2.1, q2.2.1, q2.2.2.1, q1.2.2.2.2.2.2.1, q1.2.2.2.2.2.2.2.1, q2.2.2.2.1, q2.2.2.2.2.1, q2.2.2.2.2.2.1, q1.2.2.2.2.2.2.2.2.2.2.2.1, q1.2.2.2.2.2.2.2.2.2.2.2.2.1, q2.2.2.2.2.2.2.1, q1.2.2.2.2.2.2.2.2.2.2.2.2.2.2.1, q2.2.2.2.2.2.2.2.1, q1.2.2.2.2.2.2.2.2.2.2.2.2.2.2.2.2.1, q1.2.2.2.2.2.2.2.2.2.2.2.2.2.2.2.2.2.1, q1.2.2.2.2.2.2.2.2.2.2.2.2.2.2.2.2.2.2) (g5.1, g5.2.1, g5.2.2.1, g5.2.2.2.1, g5.2.2.2.2.1, g5.2.2.2.2.2.1, g5.2.2.2.2.2.2.1, g5.2.2.2.2.2.2.2.1, q2.2.2.2.2.2.2.2.2.1, q2.2.2.2.2.2.2.2.2.2))))
set_option maxHeartbeats 4000000 in
set_option maxRecDepth 20000 in
theorem cTrials_findAwayrr {q : tyTrials × tyFair × tyRule} {x3 : Int32} (h : mTrials_findAwayrr x3 g0 g1 g4 g5 = some q) : rMet l D Z (ty7 K) MTrials_findAwayrr [.ref ((a0 0) 0), .ref (a1 0), .ref (a2 0), .int x3] (List.flatten [bTrialsG K (a0 0) ((a0 1) 0) ((a0 2) 0) ((a0 3) 0) g0, bFairG K (a0 1) g1, bOrderG K (a0 2) g2, bOrderG K (a0 3) g3, bFairG K a1 g4, bRuleG K a2 g5]) (List.flatten [bTrialsG K (a0 0) ((a0 1) 0) ((a0 2) 0) ((a0 3) 0) q.1, bFairG K (a0 1) q.2.1, bOrderG K (a0 2) g2, bOrderG K (a0 3) g3, bFairG K a1 g4, bRuleG K a2 q.2.2]) none := by
  refine rMet.of (by decide) rfl (Nat.le_of_ble_eq_true rfl) ?_
  refine r_sub (lv' := [(0, .ref ((a0 0) 0)), (1, .ref (a1 0)), (2, .ref (a2 0)), (3, .int x3)]) [0, 1, 2, 3] rfl ?_
  unfold mTrials_findAwayrr at h
  refine r_aload_n 0 dX9_findAway_0 rfl ?_
  refine r_iconst (x := (-1 : Int32)) dX9_findAway_1 (by decide) ?_
  refine r_aload_n 0 dX9_findAway_2 rfl ?_
  refine r_aload_n 1 dX9_findAway_3 rfl ?_
  obtain ⟨q1, h1, h⟩ := bd_some h
  refine b_callV (isC := [0, 1, 2, 3, 4]) (ci := 7)  (st := [.int (-1 : Int32), .ref ((a0 0) 0)]) (bs1 := [bTrialsG K (a0 0) ((a0 1) 0) ((a0 2) 0) ((a0 3) 0) g0, bFairG K (a0 1) q1, bOrderG K (a0 2) g2, bOrderG K (a0 3) g3, bFairG K a1 g4, bRuleG K a2 g5]) (cTrials_from (a0 := a0) (a1 := a1) (g0 := g0) (g1 := g1) (g2 := g2) (g3 := g3) (g4 := g4) h1) rfl rfl (Nat.le_of_ble_eq_true rfl) kTrials_from (tb_in (i := 10) (j := 8) rfl rfl) (by decide) (by decide) rfl rfl rfl rfl rfl rfl rfl dX9_findAway_4 ?_
  refine r_aload_n 2 dX9_findAway_7 rfl ?_
  refine r_iload_n 3 dX9_findAway_8 rfl ?_
  refine r_iconst (x := (-1 : Int32)) dX9_findAway_9 (by decide) ?_
  obtain ⟨q2, h2, h⟩ := bd_some h
  refine b_callVN (isC := [1, 5]) (ci := 1)  (st := [.int (-1 : Int32), .ref ((a0 0) 0)]) (bs1 := [bTrialsG K (a0 0) ((a0 1) 0) ((a0 2) 0) ((a0 3) 0) g0, bFair K (a0 1) q1.1 q1.2.1 q1.2.2.1 q1.2.2.2.1 q2.2.1 q2.2.2.1 q1.2.2.2.2.2.2.1 q1.2.2.2.2.2.2.2.1 q2.2.2.2.1 q2.2.2.2.2.1 q2.2.2.2.2.2.1 q1.2.2.2.2.2.2.2.2.2.2.2.1 q1.2.2.2.2.2.2.2.2.2.2.2.2.1 q2.2.2.2.2.2.2.1 q1.2.2.2.2.2.2.2.2.2.2.2.2.2.2.1 q2.2.2.2.2.2.2.2.1 q1.2.2.2.2.2.2.2.2.2.2.2.2.2.2.2.2.1 q1.2.2.2.2.2.2.2.2.2.2.2.2.2.2.2.2.2.1 q1.2.2.2.2.2.2.2.2.2.2.2.2.2.2.2.2.2.2, bOrderG K (a0 2) g2, bOrderG K (a0 3) g3, bFairG K a1 g4, bRule K a2 g5.1 g5.2.1 g5.2.2.1 g5.2.2.2.1 g5.2.2.2.2.1 g5.2.2.2.2.2.1 g5.2.2.2.2.2.2.1 g5.2.2.2.2.2.2.2.1 q2.2.2.2.2.2.2.2.2.1 q2.2.2.2.2.2.2.2.2.2]) (cFair_gor (a0 := (a0 1)) (a1 := a2) (z0_lasts := q1.1) (z0_keeps := q1.2.1) (z0_stalls := q1.2.2.1) (z0_buyers := q1.2.2.2.1) (z0_minute := q1.2.2.2.2.1) (z0_goods := q1.2.2.2.2.2.1) (z0_price := q1.2.2.2.2.2.2.1) (z0_tongue := q1.2.2.2.2.2.2.2.1) (z0_till := q1.2.2.2.2.2.2.2.2.1) (z0_wealth := q1.2.2.2.2.2.2.2.2.2.1) (z0_sold := q1.2.2.2.2.2.2.2.2.2.2.1) (z0_ring := q1.2.2.2.2.2.2.2.2.2.2.2.1) (z0_grudges := q1.2.2.2.2.2.2.2.2.2.2.2.2.1) (z0_purse := q1.2.2.2.2.2.2.2.2.2.2.2.2.2.1) (z0_came := q1.2.2.2.2.2.2.2.2.2.2.2.2.2.2.1) (z0_had := q1.2.2.2.2.2.2.2.2.2.2.2.2.2.2.2.1) (z0_seller := q1.2.2.2.2.2.2.2.2.2.2.2.2.2.2.2.2.1) (z0_praise := q1.2.2.2.2.2.2.2.2.2.2.2.2.2.2.2.2.2.1) (z0_borne := q1.2.2.2.2.2.2.2.2.2.2.2.2.2.2.2.2.2.2) (z1_steps := g5.1) (z1_size := g5.2.1) (z1_sumFrom := g5.2.2.1) (z1_testFrom := g5.2.2.2.1) (z1_testTo := g5.2.2.2.2.1) (z1_clauses := g5.2.2.2.2.2.1) (z1_parts := g5.2.2.2.2.2.2.1) (z1_readsTime := g5.2.2.2.2.2.2.2.1) (z1_words := g5.2.2.2.2.2.2.2.2.1) (z1_stack := g5.2.2.2.2.2.2.2.2.2) h2) rfl rfl (Nat.le_of_ble_eq_true rfl) kFair_gor (List.mem_of_getElem? (i := 57) rfl) (by decide) (by decide) rfl rfl rfl rfl rfl rfl rfl dX9_findAway_10 ?_
  refine r_iconst (x := (0 : Int32)) dX9_findAway_13 (by decide) ?_
  obtain ⟨q3, h3, h⟩ := bd_some h
  refine b_callV (isC := [0, 1, 2, 3]) (ci := 7)  (st := []) (bs1 := [bTrialsG K (a0 0) ((a0 1) 0) ((a0 2) 0) ((a0 3) 0) q3, bFair K (a0 1) q1.1 q1.2.1 q1.2.2.1 q1.2.2.2.1 q2.2.1 q2.2.2.1 q1.2.2.2.2.2.2.1 q1.2.2.2.2.2.2.2.1 q2.2.2.2.1 q2.2.2.2.2.1 q2.2.2.2.2.2.1 q1.2.2.2.2.2.2.2.2.2.2.2.1 q1.2.2.2.2.2.2.2.2.2.2.2.2.1 q2.2.2.2.2.2.2.1 q1.2.2.2.2.2.2.2.2.2.2.2.2.2.2.1 q2.2.2.2.2.2.2.2.1 q1.2.2.2.2.2.2.2.2.2.2.2.2.2.2.2.2.1 q1.2.2.2.2.2.2.2.2.2.2.2.2.2.2.2.2.2.1 q1.2.2.2.2.2.2.2.2.2.2.2.2.2.2.2.2.2.2, bOrderG K (a0 2) g2, bOrderG K (a0 3) g3, bFairG K a1 g4, bRule K a2 g5.1 g5.2.1 g5.2.2.1 g5.2.2.2.1 g5.2.2.2.2.1 g5.2.2.2.2.2.1 g5.2.2.2.2.2.2.1 g5.2.2.2.2.2.2.2.1 q2.2.2.2.2.2.2.2.2.1 q2.2.2.2.2.2.2.2.2.2]) (cTrials_find (a0 := a0) (g0 := g0) (g1 := (q1.1, q1.2.1, q1.2.2.1, q1.2.2.2.1, q2.2.1, q2.2.2.1, q1.2.2.2.2.2.2.1, q1.2.2.2.2.2.2.2.1, q2.2.2.2.1, q2.2.2.2.2.1, q2.2.2.2.2.2.1, q1.2.2.2.2.2.2.2.2.2.2.2.1, q1.2.2.2.2.2.2.2.2.2.2.2.2.1, q2.2.2.2.2.2.2.1, q1.2.2.2.2.2.2.2.2.2.2.2.2.2.2.1, q2.2.2.2.2.2.2.2.1, q1.2.2.2.2.2.2.2.2.2.2.2.2.2.2.2.2.1, q1.2.2.2.2.2.2.2.2.2.2.2.2.2.2.2.2.2.1, q1.2.2.2.2.2.2.2.2.2.2.2.2.2.2.2.2.2.2)) (g2 := g2) (g3 := g3) h3) rfl rfl (Nat.le_of_ble_eq_true rfl) kTrials_find (tb_in (i := 10) (j := 20) rfl rfl) (by decide) (by decide) rfl rfl rfl rfl rfl rfl rfl dX9_findAway_14 ?_
  refine r_iconst (x := (0 : Int32)) dX9_findAway_17 (by decide) ?_
  refine r_istore (lv' := [(4, .int (0 : Int32)), (0, .ref ((a0 0) 0)), (1, .ref (a1 0)), (2, .ref (a2 0)), (3, .int x3)]) dX9_findAway_18 (Nat.le_of_ble_eq_true rfl) rfl ?_
  refine r_sub (lv' := [(0, .ref ((a0 0) 0)), (1, .ref (a1 0)), (2, .ref (a2 0)), (3, .int x3), (4, .int (0 : Int32))]) [1, 2, 3, 4, 0] rfl ?_
  exact cTrials_findAwayrr_l20 (g4 := g4)  FU (0 : Int32) q3 (q1.1, q1.2.1, q1.2.2.1, q1.2.2.2.1, q2.2.1, q2.2.2.1, q1.2.2.2.2.2.2.1, q1.2.2.2.2.2.2.2.1, q2.2.2.2.1, q2.2.2.2.2.1, q2.2.2.2.2.2.1, q1.2.2.2.2.2.2.2.2.2.2.2.1, q1.2.2.2.2.2.2.2.2.2.2.2.2.1, q2.2.2.2.2.2.2.1, q1.2.2.2.2.2.2.2.2.2.2.2.2.2.2.1, q2.2.2.2.2.2.2.2.1, q1.2.2.2.2.2.2.2.2.2.2.2.2.2.2.2.2.1, q1.2.2.2.2.2.2.2.2.2.2.2.2.2.2.2.2.2.1, q1.2.2.2.2.2.2.2.2.2.2.2.2.2.2.2.2.2.2) (g5.1, g5.2.1, g5.2.2.1, g5.2.2.2.1, g5.2.2.2.2.1, g5.2.2.2.2.2.1, g5.2.2.2.2.2.2.1, g5.2.2.2.2.2.2.2.1, q2.2.2.2.2.2.2.2.2.1, q2.2.2.2.2.2.2.2.2.2) h
end
abbrev MTrials_findAwayrn : rx_M := (RX9, yX9_findAway, cX9_findAway, 6, none, 6)
theorem kTrials_findAwayrn : rKv MTrials_findAwayrn 3 := ⟨tb_in (i := 15) (j := 21) rfl rfl, tb_in (i := 15) (j := 22) rfl rfl, tb_in (i := 10) (j := 11) rfl rfl, tb_in (i := 11) (j := 2) rfl rfl, ⟨by decide, by decide, by decide +kernel⟩, by decide⟩
section
variable {a0 : Nat → Nat → Nat} {a1 : Nat → Nat} {g0 : tyTrials} {g1 : tyFair} {g2 : tyOrder} {g3 : tyOrder} {g4 : tyFair}
def mTrials_findAwayrn_l20 (g4 : tyFair) (x3 : Int32) : Nat → Int32 → tyTrials → tyFair → Option (tyTrials × tyFair)
  | 0, _, _, _ => none
  | n + 1, x4, g0, g1 => (if g4.2.2.2.1 ≤ x4 then some (g0, g1) else (mTrials_from g1 g4).bind (fun q5 => (mFair_gon x3 x4 q5.1 q5.2.1 q5.2.2.1 q5.2.2.2.1 q5.2.2.2.2.1 q5.2.2.2.2.2.1 q5.2.2.2.2.2.2.1 q5.2.2.2.2.2.2.2.2.1 q5.2.2.2.2.2.2.2.2.2.1 q5.2.2.2.2.2.2.2.2.2.2.1 q5.2.2.2.2.2.2.2.2.2.2.2.2.2.1 q5.2.2.2.2.2.2.2.2.2.2.2.2.2.2.1 q5.2.2.2.2.2.2.2.2.2.2.2.2.2.2.2.1 q5.2.2.2.2.2.2.2.2.2.2.2.2.2.2.2.2.1 q5.2.2.2.2.2.2.2.2.2.2.2.2.2.2.2.2.2.1).bind (fun q6 => rq (inb (1 : Int32) 3) ((if q6.1 ≤ (g0.1 (1 : Int32).toNatClampNeg) then mTrials_findAwayrn_l20 g4 x3 n (x4 + (1 : Int32)) g0 (q5.1, q5.2.1, q5.2.2.1, q5.2.2.2.1, q6.2.1, q6.2.2.1, q5.2.2.2.2.2.2.1, q5.2.2.2.2.2.2.2.1, q6.2.2.2.1, q6.2.2.2.2.1, q6.2.2.2.2.2.1, q5.2.2.2.2.2.2.2.2.2.2.2.1, q5.2.2.2.2.2.2.2.2.2.2.2.2.1, q6.2.2.2.2.2.2.1, q5.2.2.2.2.2.2.2.2.2.2.2.2.2.2.1, q6.2.2.2.2.2.2.2, q5.2.2.2.2.2.2.2.2.2.2.2.2.2.2.2.2.1, q5.2.2.2.2.2.2.2.2.2.2.2.2.2.2.2.2.2.1, q5.2.2.2.2.2.2.2.2.2.2.2.2.2.2.2.2.2.2) else (mTrials_find x4 q6.1 (0 : Int32) g0).bind (fun q9 => mTrials_findAwayrn_l20 g4 x3 n (x4 + (1 : Int32)) q9 (q5.1, q5.2.1, q5.2.2.1, q5.2.2.2.1, q6.2.1, q6.2.2.1, q5.2.2.2.2.2.2.1, q5.2.2.2.2.2.2.2.1, q6.2.2.2.1, q6.2.2.2.2.1, q6.2.2.2.2.2.1, q5.2.2.2.2.2.2.2.2.2.2.2.1, q5.2.2.2.2.2.2.2.2.2.2.2.2.1, q6.2.2.2.2.2.2.1, q5.2.2.2.2.2.2.2.2.2.2.2.2.2.2.1, q6.2.2.2.2.2.2.2, q5.2.2.2.2.2.2.2.2.2.2.2.2.2.2.2.2.1, q5.2.2.2.2.2.2.2.2.2.2.2.2.2.2.2.2.2.1, q5.2.2.2.2.2.2.2.2.2.2.2.2.2.2.2.2.2.2)))))))
set_option maxHeartbeats 4000000 in
set_option maxRecDepth 20000 in
theorem cTrials_findAwayrn_l20 {q : tyTrials × tyFair} {x3 : Int32}  : ∀ (n : Nat) (x4 : Int32) (g0 : tyTrials) (g1 : tyFair), mTrials_findAwayrn_l20 g4 x3 n x4 g0 g1 = some q → rW l D Z (ty7 K) MTrials_findAwayrn 20 [(0, .ref ((a0 0) 0)), (1, .ref (a1 0)), (2, .null), (3, .int x3), (4, .int x4)] [] (List.flatten [bTrialsG K (a0 0) ((a0 1) 0) ((a0 2) 0) ((a0 3) 0) g0, bFairG K (a0 1) g1, bOrderG K (a0 2) g2, bOrderG K (a0 3) g3, bFairG K a1 g4]) (List.flatten [bTrialsG K (a0 0) ((a0 1) 0) ((a0 2) 0) ((a0 3) 0) q.1, bFairG K (a0 1) q.2, bOrderG K (a0 2) g2, bOrderG K (a0 3) g3, bFairG K a1 g4]) none := by
  intro n
  induction n with
  | zero => intro x4 g0 g1 h; unfold mTrials_findAwayrn_l20 at h; cases h
  | succ n ih =>
    intro x4 g0 g1 h
    unfold mTrials_findAwayrn_l20 at h
    refine r_iload 4 dX9_findAway_20 rfl ?_
    refine r_aload_n 1 dX9_findAway_22 rfl ?_
    refine gFair_buyersN 4 rfl (List.mem_of_getElem? (i := 18) rfl) dX9_findAway_23 ?_
    refine r_icmp_ge 69 dX9_findAway_26 (by decide) (fun c4 => ?_) (fun c4 => ?_)
    · replace h := it_pos c4 h
      have hq := Option.some.inj h
      subst hq
      exact r_vret rfl dX9_findAway_69
    · replace h := it_neg c4 h
      refine r_aload_n 0 dX9_findAway_29 rfl ?_
      refine r_aload_n 1 dX9_findAway_30 rfl ?_
      obtain ⟨q5, h5, h⟩ := bd_some h
      refine b_callV (isC := [0, 1, 2, 3, 4]) (ci := 7)  (st := []) (bs1 := [bTrialsG K (a0 0) ((a0 1) 0) ((a0 2) 0) ((a0 3) 0) g0, bFairG K (a0 1) q5, bOrderG K (a0 2) g2, bOrderG K (a0 3) g3, bFairG K a1 g4]) (cTrials_from (a0 := a0) (a1 := a1) (g0 := g0) (g1 := g1) (g2 := g2) (g3 := g3) (g4 := g4) h5) rfl rfl (Nat.le_of_ble_eq_true rfl) kTrials_from (tb_in (i := 10) (j := 8) rfl rfl) (by decide) (by decide) rfl rfl rfl rfl rfl rfl rfl dX9_findAway_31 ?_
      refine r_aload_nN 2 dX9_findAway_34 rfl ?_
      refine r_iload_n 3 dX9_findAway_35 rfl ?_
      refine r_iload 4 dX9_findAway_36 rfl ?_
      obtain ⟨q6, h6, h⟩ := bd_some h
      refine b_callVN (isC := [1]) (ci := 1)  (st := []) (bs1 := [bTrialsG K (a0 0) ((a0 1) 0) ((a0 2) 0) ((a0 3) 0) g0, bFair K (a0 1) q5.1 q5.2.1 q5.2.2.1 q5.2.2.2.1 q6.2.1 q6.2.2.1 q5.2.2.2.2.2.2.1 q5.2.2.2.2.2.2.2.1 q6.2.2.2.1 q6.2.2.2.2.1 q6.2.2.2.2.2.1 q5.2.2.2.2.2.2.2.2.2.2.2.1 q5.2.2.2.2.2.2.2.2.2.2.2.2.1 q6.2.2.2.2.2.2.1 q5.2.2.2.2.2.2.2.2.2.2.2.2.2.2.1 q6.2.2.2.2.2.2.2 q5.2.2.2.2.2.2.2.2.2.2.2.2.2.2.2.2.1 q5.2.2.2.2.2.2.2.2.2.2.2.2.2.2.2.2.2.1 q5.2.2.2.2.2.2.2.2.2.2.2.2.2.2.2.2.2.2, bOrderG K (a0 2) g2, bOrderG K (a0 3) g3, bFairG K a1 g4]) (cFair_gon (a0 := (a0 1)) (z0_lasts := q5.1) (z0_keeps := q5.2.1) (z0_stalls := q5.2.2.1) (z0_buyers := q5.2.2.2.1) (z0_minute := q5.2.2.2.2.1) (z0_goods := q5.2.2.2.2.2.1) (z0_price := q5.2.2.2.2.2.2.1) (z0_tongue := q5.2.2.2.2.2.2.2.1) (z0_till := q5.2.2.2.2.2.2.2.2.1) (z0_wealth := q5.2.2.2.2.2.2.2.2.2.1) (z0_sold := q5.2.2.2.2.2.2.2.2.2.2.1) (z0_ring := q5.2.2.2.2.2.2.2.2.2.2.2.1) (z0_grudges := q5.2.2.2.2.2.2.2.2.2.2.2.2.1) (z0_purse := q5.2.2.2.2.2.2.2.2.2.2.2.2.2.1) (z0_came := q5.2.2.2.2.2.2.2.2.2.2.2.2.2.2.1) (z0_had := q5.2.2.2.2.2.2.2.2.2.2.2.2.2.2.2.1) (z0_seller := q5.2.2.2.2.2.2.2.2.2.2.2.2.2.2.2.2.1) (z0_praise := q5.2.2.2.2.2.2.2.2.2.2.2.2.2.2.2.2.2.1) (z0_borne := q5.2.2.2.2.2.2.2.2.2.2.2.2.2.2.2.2.2.2) h6) rfl rfl (Nat.le_of_ble_eq_true rfl) kFair_gon (List.mem_of_getElem? (i := 57) rfl) (by decide) (by decide) rfl rfl rfl rfl rfl rfl rfl dX9_findAway_38 ?_
      refine r_istore (lv' := [(5, .int q6.1), (0, .ref ((a0 0) 0)), (1, .ref (a1 0)), (2, .null), (3, .int x3), (4, .int x4)]) dX9_findAway_41 (Nat.le_of_ble_eq_true rfl) rfl ?_
      refine r_iload 0 dX9_findAway_43 rfl ?_
      refine r_aload_n 1 dX9_findAway_45 rfl ?_
      refine gTrials_found 0 rfl (tb_in (i := 9) (j := 28) rfl rfl) dX9_findAway_46 ?_
      refine r_iconst (x := (1 : Int32)) dX9_findAway_49 (by decide) ?_
      obtain ⟨h7, h⟩ := rq_some h
      refine lTrials_found 0 rfl (inb_in h7) dX9_findAway_50 ?_
      refine r_icmp_le 63 dX9_findAway_51 (by decide) (fun c8 => ?_) (fun c8 => ?_)
      · replace h := it_pos c8 h
        refine r_iinc (y := (x4 + (1 : Int32))) (lv' := [(4, .int (x4 + (1 : Int32))), (5, .int q6.1), (0, .ref ((a0 0) 0)), (1, .ref (a1 0)), (2, .null), (3, .int x3)]) 5 dX9_findAway_63 rfl rfl (Nat.le_of_ble_eq_true rfl) rfl ?_
        refine r_goto 20 dX9_findAway_66 (by decide) ?_
        refine r_sub (lv' := [(0, .ref ((a0 0) 0)), (1, .ref (a1 0)), (2, .null), (3, .int x3), (4, .int (x4 + (1 : Int32)))]) [2, 3, 4, 5, 0] rfl ?_
        exact ih (x4 + (1 : Int32)) g0 (q5.1, q5.2.1, q5.2.2.1, q5.2.2.2.1, q6.2.1, q6.2.2.1, q5.2.2.2.2.2.2.1, q5.2.2.2.2.2.2.2.1, q6.2.2.2.1, q6.2.2.2.2.1, q6.2.2.2.2.2.1, q5.2.2.2.2.2.2.2.2.2.2.2.1, q5.2.2.2.2.2.2.2.2.2.2.2.2.1, q6.2.2.2.2.2.2.1, q5.2.2.2.2.2.2.2.2.2.2.2.2.2.2.1, q6.2.2.2.2.2.2.2, q5.2.2.2.2.2.2.2.2.2.2.2.2.2.2.2.2.1, q5.2.2.2.2.2.2.2.2.2.2.2.2.2.2.2.2.2.1, q5.2.2.2.2.2.2.2.2.2.2.2.2.2.2.2.2.2.2) h
      · replace h := it_neg c8 h
        refine r_aload_n 1 dX9_findAway_54 rfl ?_
        refine r_iload 5 dX9_findAway_55 rfl ?_
        refine r_iload 0 dX9_findAway_57 rfl ?_
        refine r_iconst (x := (0 : Int32)) dX9_findAway_59 (by decide) ?_
        obtain ⟨q9, h9, h⟩ := bd_some h
        refine b_callV (isC := [0, 1, 2, 3]) (ci := 7)  (st := []) (bs1 := [bTrialsG K (a0 0) ((a0 1) 0) ((a0 2) 0) ((a0 3) 0) q9, bFair K (a0 1) q5.1 q5.2.1 q5.2.2.1 q5.2.2.2.1 q6.2.1 q6.2.2.1 q5.2.2.2.2.2.2.1 q5.2.2.2.2.2.2.2.1 q6.2.2.2.1 q6.2.2.2.2.1 q6.2.2.2.2.2.1 q5.2.2.2.2.2.2.2.2.2.2.2.1 q5.2.2.2.2.2.2.2.2.2.2.2.2.1 q6.2.2.2.2.2.2.1 q5.2.2.2.2.2.2.2.2.2.2.2.2.2.2.1 q6.2.2.2.2.2.2.2 q5.2.2.2.2.2.2.2.2.2.2.2.2.2.2.2.2.1 q5.2.2.2.2.2.2.2.2.2.2.2.2.2.2.2.2.2.1 q5.2.2.2.2.2.2.2.2.2.2.2.2.2.2.2.2.2.2, bOrderG K (a0 2) g2, bOrderG K (a0 3) g3, bFairG K a1 g4]) (cTrials_find (a0 := a0) (g0 := g0) (g1 := (q5.1, q5.2.1, q5.2.2.1, q5.2.2.2.1, q6.2.1, q6.2.2.1, q5.2.2.2.2.2.2.1, q5.2.2.2.2.2.2.2.1, q6.2.2.2.1, q6.2.2.2.2.1, q6.2.2.2.2.2.1, q5.2.2.2.2.2.2.2.2.2.2.2.1, q5.2.2.2.2.2.2.2.2.2.2.2.2.1, q6.2.2.2.2.2.2.1, q5.2.2.2.2.2.2.2.2.2.2.2.2.2.2.1, q6.2.2.2.2.2.2.2, q5.2.2.2.2.2.2.2.2.2.2.2.2.2.2.2.2.1, q5.2.2.2.2.2.2.2.2.2.2.2.2.2.2.2.2.2.1, q5.2.2.2.2.2.2.2.2.2.2.2.2.2.2.2.2.2.2)) (g2 := g2) (g3 := g3) h9) rfl rfl (Nat.le_of_ble_eq_true rfl) kTrials_find (tb_in (i := 10) (j := 20) rfl rfl) (by decide) (by decide) rfl rfl rfl rfl rfl rfl rfl dX9_findAway_60 ?_
        refine r_iinc (y := (x4 + (1 : Int32))) (lv' := [(4, .int (x4 + (1 : Int32))), (5, .int q6.1), (0, .ref ((a0 0) 0)), (1, .ref (a1 0)), (2, .null), (3, .int x3)]) 5 dX9_findAway_63 rfl rfl (Nat.le_of_ble_eq_true rfl) rfl ?_
        refine r_goto 20 dX9_findAway_66 (by decide) ?_
        refine r_sub (lv' := [(0, .ref ((a0 0) 0)), (1, .ref (a1 0)), (2, .null), (3, .int x3), (4, .int (x4 + (1 : Int32)))]) [2, 3, 4, 5, 0] rfl ?_
        exact ih (x4 + (1 : Int32)) q9 (q5.1, q5.2.1, q5.2.2.1, q5.2.2.2.1, q6.2.1, q6.2.2.1, q5.2.2.2.2.2.2.1, q5.2.2.2.2.2.2.2.1, q6.2.2.2.1, q6.2.2.2.2.1, q6.2.2.2.2.2.1, q5.2.2.2.2.2.2.2.2.2.2.2.1, q5.2.2.2.2.2.2.2.2.2.2.2.2.1, q6.2.2.2.2.2.2.1, q5.2.2.2.2.2.2.2.2.2.2.2.2.2.2.1, q6.2.2.2.2.2.2.2, q5.2.2.2.2.2.2.2.2.2.2.2.2.2.2.2.2.1, q5.2.2.2.2.2.2.2.2.2.2.2.2.2.2.2.2.2.1, q5.2.2.2.2.2.2.2.2.2.2.2.2.2.2.2.2.2.2) h
def mTrials_findAwayrn (x3 : Int32) (g0 : tyTrials) (g1 : tyFair) (g4 : tyFair) : Option (tyTrials × tyFair) := (mTrials_from g1 g4).bind (fun q1 => (mFair_gon x3 (-1 : Int32) q1.1 q1.2.1 q1.2.2.1 q1.2.2.2.1 q1.2.2.2.2.1 q1.2.2.2.2.2.1 q1.2.2.2.2.2.2.1 q1.2.2.2.2.2.2.2.2.1 q1.2.2.2.2.2.2.2.2.2.1 q1.2.2.2.2.2.2.2.2.2.2.1 q1.2.2.2.2.2.2.2.2.2.2.2.2.2.1 q1.2.2.2.2.2.2.2.2.2.2.2.2.2.2.1 q1.2.2.2.2.2.2.2.2.2.2.2.2.2.2.2.1 q1.2.2.2.2.2.2.2.2.2.2.2.2.2.2.2.2.1 q1.2.2.2.2.2.2.2.2.2.2.2.2.2.2.2.2.2.1).bind (fun q2 => (mTrials_find (-1 : Int32) q2.1 (0 : Int32) g0).bind (fun q3 => mTrials_findAwayrn_l20 g4 x3 FU (0 : Int32) q3 (q1.1, q1.2.1, q1.2.2.1, q1.2.2.2.1, q2.2.1, q2.2.2.1, q1.2.2.2.2.2.2.1, q1.2.2.2.2.2.2.2.1, q2.2.2.2.1, q2.2.2.2.2.1, q2.2.2.2.2.2.1, q1.2.2.2.2.2.2.2.2.2.2.2.1, q1.2.2.2.2.2.2.2.2.2.2.2.2.1, q2.2.2.2.2.2.2.1, q1.2.2.2.2.2.2.2.2.2.2.2.2.2.2.1, q2.2.2.2.2.2.2.2, q1.2.2.2.2.2.2.2.2.2.2.2.2.2.2.2.2.1, q1.2.2.2.2.2.2.2.2.2.2.2.2.2.2.2.2.2.1, q1.2.2.2.2.2.2.2.2.2.2.2.2.2.2.2.2.2.2))))
set_option maxHeartbeats 4000000 in
set_option maxRecDepth 20000 in
theorem cTrials_findAwayrn {q : tyTrials × tyFair} {x3 : Int32} (h : mTrials_findAwayrn x3 g0 g1 g4 = some q) : rMet l D Z (ty7 K) MTrials_findAwayrn [.ref ((a0 0) 0), .ref (a1 0), .null, .int x3] (List.flatten [bTrialsG K (a0 0) ((a0 1) 0) ((a0 2) 0) ((a0 3) 0) g0, bFairG K (a0 1) g1, bOrderG K (a0 2) g2, bOrderG K (a0 3) g3, bFairG K a1 g4]) (List.flatten [bTrialsG K (a0 0) ((a0 1) 0) ((a0 2) 0) ((a0 3) 0) q.1, bFairG K (a0 1) q.2, bOrderG K (a0 2) g2, bOrderG K (a0 3) g3, bFairG K a1 g4]) none := by
  refine rMet.of (by decide) rfl (Nat.le_of_ble_eq_true rfl) ?_
  refine r_sub (lv' := [(0, .ref ((a0 0) 0)), (1, .ref (a1 0)), (2, .null), (3, .int x3)]) [0, 1, 2, 3] rfl ?_
  unfold mTrials_findAwayrn at h
  refine r_aload_n 0 dX9_findAway_0 rfl ?_
  refine r_iconst (x := (-1 : Int32)) dX9_findAway_1 (by decide) ?_
  refine r_aload_n 0 dX9_findAway_2 rfl ?_
  refine r_aload_n 1 dX9_findAway_3 rfl ?_
  obtain ⟨q1, h1, h⟩ := bd_some h
  refine b_callV (isC := [0, 1, 2, 3, 4]) (ci := 7)  (st := [.int (-1 : Int32), .ref ((a0 0) 0)]) (bs1 := [bTrialsG K (a0 0) ((a0 1) 0) ((a0 2) 0) ((a0 3) 0) g0, bFairG K (a0 1) q1, bOrderG K (a0 2) g2, bOrderG K (a0 3) g3, bFairG K a1 g4]) (cTrials_from (a0 := a0) (a1 := a1) (g0 := g0) (g1 := g1) (g2 := g2) (g3 := g3) (g4 := g4) h1) rfl rfl (Nat.le_of_ble_eq_true rfl) kTrials_from (tb_in (i := 10) (j := 8) rfl rfl) (by decide) (by decide) rfl rfl rfl rfl rfl rfl rfl dX9_findAway_4 ?_
  refine r_aload_nN 2 dX9_findAway_7 rfl ?_
  refine r_iload_n 3 dX9_findAway_8 rfl ?_
  refine r_iconst (x := (-1 : Int32)) dX9_findAway_9 (by decide) ?_
  obtain ⟨q2, h2, h⟩ := bd_some h
  refine b_callVN (isC := [1]) (ci := 1)  (st := [.int (-1 : Int32), .ref ((a0 0) 0)]) (bs1 := [bTrialsG K (a0 0) ((a0 1) 0) ((a0 2) 0) ((a0 3) 0) g0, bFair K (a0 1) q1.1 q1.2.1 q1.2.2.1 q1.2.2.2.1 q2.2.1 q2.2.2.1 q1.2.2.2.2.2.2.1 q1.2.2.2.2.2.2.2.1 q2.2.2.2.1 q2.2.2.2.2.1 q2.2.2.2.2.2.1 q1.2.2.2.2.2.2.2.2.2.2.2.1 q1.2.2.2.2.2.2.2.2.2.2.2.2.1 q2.2.2.2.2.2.2.1 q1.2.2.2.2.2.2.2.2.2.2.2.2.2.2.1 q2.2.2.2.2.2.2.2 q1.2.2.2.2.2.2.2.2.2.2.2.2.2.2.2.2.1 q1.2.2.2.2.2.2.2.2.2.2.2.2.2.2.2.2.2.1 q1.2.2.2.2.2.2.2.2.2.2.2.2.2.2.2.2.2.2, bOrderG K (a0 2) g2, bOrderG K (a0 3) g3, bFairG K a1 g4]) (cFair_gon (a0 := (a0 1)) (z0_lasts := q1.1) (z0_keeps := q1.2.1) (z0_stalls := q1.2.2.1) (z0_buyers := q1.2.2.2.1) (z0_minute := q1.2.2.2.2.1) (z0_goods := q1.2.2.2.2.2.1) (z0_price := q1.2.2.2.2.2.2.1) (z0_tongue := q1.2.2.2.2.2.2.2.1) (z0_till := q1.2.2.2.2.2.2.2.2.1) (z0_wealth := q1.2.2.2.2.2.2.2.2.2.1) (z0_sold := q1.2.2.2.2.2.2.2.2.2.2.1) (z0_ring := q1.2.2.2.2.2.2.2.2.2.2.2.1) (z0_grudges := q1.2.2.2.2.2.2.2.2.2.2.2.2.1) (z0_purse := q1.2.2.2.2.2.2.2.2.2.2.2.2.2.1) (z0_came := q1.2.2.2.2.2.2.2.2.2.2.2.2.2.2.1) (z0_had := q1.2.2.2.2.2.2.2.2.2.2.2.2.2.2.2.1) (z0_seller := q1.2.2.2.2.2.2.2.2.2.2.2.2.2.2.2.2.1) (z0_praise := q1.2.2.2.2.2.2.2.2.2.2.2.2.2.2.2.2.2.1) (z0_borne := q1.2.2.2.2.2.2.2.2.2.2.2.2.2.2.2.2.2.2) h2) rfl rfl (Nat.le_of_ble_eq_true rfl) kFair_gon (List.mem_of_getElem? (i := 57) rfl) (by decide) (by decide) rfl rfl rfl rfl rfl rfl rfl dX9_findAway_10 ?_
  refine r_iconst (x := (0 : Int32)) dX9_findAway_13 (by decide) ?_
  obtain ⟨q3, h3, h⟩ := bd_some h
  refine b_callV (isC := [0, 1, 2, 3]) (ci := 7)  (st := []) (bs1 := [bTrialsG K (a0 0) ((a0 1) 0) ((a0 2) 0) ((a0 3) 0) q3, bFair K (a0 1) q1.1 q1.2.1 q1.2.2.1 q1.2.2.2.1 q2.2.1 q2.2.2.1 q1.2.2.2.2.2.2.1 q1.2.2.2.2.2.2.2.1 q2.2.2.2.1 q2.2.2.2.2.1 q2.2.2.2.2.2.1 q1.2.2.2.2.2.2.2.2.2.2.2.1 q1.2.2.2.2.2.2.2.2.2.2.2.2.1 q2.2.2.2.2.2.2.1 q1.2.2.2.2.2.2.2.2.2.2.2.2.2.2.1 q2.2.2.2.2.2.2.2 q1.2.2.2.2.2.2.2.2.2.2.2.2.2.2.2.2.1 q1.2.2.2.2.2.2.2.2.2.2.2.2.2.2.2.2.2.1 q1.2.2.2.2.2.2.2.2.2.2.2.2.2.2.2.2.2.2, bOrderG K (a0 2) g2, bOrderG K (a0 3) g3, bFairG K a1 g4]) (cTrials_find (a0 := a0) (g0 := g0) (g1 := (q1.1, q1.2.1, q1.2.2.1, q1.2.2.2.1, q2.2.1, q2.2.2.1, q1.2.2.2.2.2.2.1, q1.2.2.2.2.2.2.2.1, q2.2.2.2.1, q2.2.2.2.2.1, q2.2.2.2.2.2.1, q1.2.2.2.2.2.2.2.2.2.2.2.1, q1.2.2.2.2.2.2.2.2.2.2.2.2.1, q2.2.2.2.2.2.2.1, q1.2.2.2.2.2.2.2.2.2.2.2.2.2.2.1, q2.2.2.2.2.2.2.2, q1.2.2.2.2.2.2.2.2.2.2.2.2.2.2.2.2.1, q1.2.2.2.2.2.2.2.2.2.2.2.2.2.2.2.2.2.1, q1.2.2.2.2.2.2.2.2.2.2.2.2.2.2.2.2.2.2)) (g2 := g2) (g3 := g3) h3) rfl rfl (Nat.le_of_ble_eq_true rfl) kTrials_find (tb_in (i := 10) (j := 20) rfl rfl) (by decide) (by decide) rfl rfl rfl rfl rfl rfl rfl dX9_findAway_14 ?_
  refine r_iconst (x := (0 : Int32)) dX9_findAway_17 (by decide) ?_
  refine r_istore (lv' := [(4, .int (0 : Int32)), (0, .ref ((a0 0) 0)), (1, .ref (a1 0)), (2, .null), (3, .int x3)]) dX9_findAway_18 (Nat.le_of_ble_eq_true rfl) rfl ?_
  refine r_sub (lv' := [(0, .ref ((a0 0) 0)), (1, .ref (a1 0)), (2, .null), (3, .int x3), (4, .int (0 : Int32))]) [1, 2, 3, 4, 0] rfl ?_
  exact cTrials_findAwayrn_l20 (g4 := g4)  FU (0 : Int32) q3 (q1.1, q1.2.1, q1.2.2.1, q1.2.2.2.1, q2.2.1, q2.2.2.1, q1.2.2.2.2.2.2.1, q1.2.2.2.2.2.2.2.1, q2.2.2.2.1, q2.2.2.2.2.1, q2.2.2.2.2.2.1, q1.2.2.2.2.2.2.2.2.2.2.2.1, q1.2.2.2.2.2.2.2.2.2.2.2.2.1, q2.2.2.2.2.2.2.1, q1.2.2.2.2.2.2.2.2.2.2.2.2.2.2.1, q2.2.2.2.2.2.2.2, q1.2.2.2.2.2.2.2.2.2.2.2.2.2.2.2.2.1, q1.2.2.2.2.2.2.2.2.2.2.2.2.2.2.2.2.2.1, q1.2.2.2.2.2.2.2.2.2.2.2.2.2.2.2.2.2.2) h
end
theorem dX9_findSwaps_0 : decode cX9_findSwaps 0 = .ok (.aload_n 0, 1) := by decide +kernel
theorem dX9_findSwaps_1 : decode cX9_findSwaps 1 = .ok (.aload_n 1, 1) := by decide +kernel
theorem dX9_findSwaps_2 : decode cX9_findSwaps 2 = .ok (.invokevirtual 66, 3) := by decide +kernel
theorem dX9_findSwaps_5 : decode cX9_findSwaps 5 = .ok (.aload_n 2, 1) := by decide +kernel
theorem dX9_findSwaps_6 : decode cX9_findSwaps 6 = .ok (.iload_n 3, 1) := by decide +kernel
theorem dX9_findSwaps_7 : decode cX9_findSwaps 7 = .ok (.iconst (-1), 1) := by decide +kernel
theorem dX9_findSwaps_8 : decode cX9_findSwaps 8 = .ok (.invokevirtual 74, 3) := by decide +kernel
theorem dX9_findSwaps_11 : decode cX9_findSwaps 11 = .ok (.pop, 1) := by decide +kernel
theorem dX9_findSwaps_12 : decode cX9_findSwaps 12 = .ok (.aload_n 0, 1) := by decide +kernel
theorem dX9_findSwaps_13 : decode cX9_findSwaps 13 = .ok (.getfield 12, 3) := by decide +kernel
theorem dX9_findSwaps_16 : decode cX9_findSwaps 16 = .ok (.getfield 99, 3) := by decide +kernel
theorem dX9_findSwaps_19 : decode cX9_findSwaps 19 = .ok (.iconst 0, 1) := by decide +kernel
theorem dX9_findSwaps_20 : decode cX9_findSwaps 20 = .ok (.aload_n 0, 1) := by decide +kernel
theorem dX9_findSwaps_21 : decode cX9_findSwaps 21 = .ok (.getfield 32, 3) := by decide +kernel
theorem dX9_findSwaps_24 : decode cX9_findSwaps 24 = .ok (.iconst 0, 1) := by decide +kernel
theorem dX9_findSwaps_25 : decode cX9_findSwaps 25 = .ok (.bipush 6, 2) := by decide +kernel
theorem dX9_findSwaps_27 : decode cX9_findSwaps 27 = .ok (.invokestatic 123, 3) := by decide +kernel
theorem dX9_findSwaps_30 : decode cX9_findSwaps 30 = .ok (.aload_n 0, 1) := by decide +kernel
theorem dX9_findSwaps_31 : decode cX9_findSwaps 31 = .ok (.iconst 0, 1) := by decide +kernel
theorem dX9_findSwaps_32 : decode cX9_findSwaps 32 = .ok (.bipush (-2), 2) := by decide +kernel
theorem dX9_findSwaps_34 : decode cX9_findSwaps 34 = .ok (.bipush (-2), 2) := by decide +kernel
theorem dX9_findSwaps_36 : decode cX9_findSwaps 36 = .ok (.invokevirtual 92, 3) := by decide +kernel
theorem dX9_findSwaps_39 : decode cX9_findSwaps 39 = .ok (.iconst 0, 1) := by decide +kernel
theorem dX9_findSwaps_40 : decode cX9_findSwaps 40 = .ok (.istore 4, 2) := by decide +kernel
theorem dX9_findSwaps_42 : decode cX9_findSwaps 42 = .ok (.iload 4, 2) := by decide +kernel
theorem dX9_findSwaps_44 : decode cX9_findSwaps 44 = .ok (.aload_n 1, 1) := by decide +kernel
theorem dX9_findSwaps_45 : decode cX9_findSwaps 45 = .ok (.getfield 59, 3) := by decide +kernel
theorem dX9_findSwaps_48 : decode cX9_findSwaps 48 = .ok (.if_icmp .ge 124, 3) := by decide +kernel
theorem dX9_findSwaps_51 : decode cX9_findSwaps 51 = .ok (.iload 4, 2) := by decide +kernel
theorem dX9_findSwaps_53 : decode cX9_findSwaps 53 = .ok (.iconst 1, 1) := by decide +kernel
theorem dX9_findSwaps_54 : decode cX9_findSwaps 54 = .ok (.iadd, 1) := by decide +kernel
theorem dX9_findSwaps_55 : decode cX9_findSwaps 55 = .ok (.istore 5, 2) := by decide +kernel
theorem dX9_findSwaps_57 : decode cX9_findSwaps 57 = .ok (.iload 5, 2) := by decide +kernel
theorem dX9_findSwaps_59 : decode cX9_findSwaps 59 = .ok (.aload_n 1, 1) := by decide +kernel
theorem dX9_findSwaps_60 : decode cX9_findSwaps 60 = .ok (.getfield 59, 3) := by decide +kernel
theorem dX9_findSwaps_63 : decode cX9_findSwaps 63 = .ok (.if_icmp .ge 103, 3) := by decide +kernel
theorem dX9_findSwaps_66 : decode cX9_findSwaps 66 = .ok (.aload_n 0, 1) := by decide +kernel
theorem dX9_findSwaps_67 : decode cX9_findSwaps 67 = .ok (.aload_n 1, 1) := by decide +kernel
theorem dX9_findSwaps_68 : decode cX9_findSwaps 68 = .ok (.invokevirtual 66, 3) := by decide +kernel
theorem dX9_findSwaps_71 : decode cX9_findSwaps 71 = .ok (.iload 4, 2) := by decide +kernel
theorem dX9_findSwaps_73 : decode cX9_findSwaps 73 = .ok (.iload 5, 2) := by decide +kernel
theorem dX9_findSwaps_75 : decode cX9_findSwaps 75 = .ok (.invokevirtual 129, 3) := by decide +kernel
theorem dX9_findSwaps_78 : decode cX9_findSwaps 78 = .ok (.aload_n 0, 1) := by decide +kernel
theorem dX9_findSwaps_79 : decode cX9_findSwaps 79 = .ok (.getfield 12, 3) := by decide +kernel
theorem dX9_findSwaps_82 : decode cX9_findSwaps 82 = .ok (.aload_n 2, 1) := by decide +kernel
theorem dX9_findSwaps_83 : decode cX9_findSwaps 83 = .ok (.iload_n 3, 1) := by decide +kernel
theorem dX9_findSwaps_84 : decode cX9_findSwaps 84 = .ok (.iconst (-1), 1) := by decide +kernel
theorem dX9_findSwaps_85 : decode cX9_findSwaps 85 = .ok (.invokevirtual 74, 3) := by decide +kernel
theorem dX9_findSwaps_88 : decode cX9_findSwaps 88 = .ok (.pop, 1) := by decide +kernel
theorem dX9_findSwaps_89 : decode cX9_findSwaps 89 = .ok (.aload_n 0, 1) := by decide +kernel
theorem dX9_findSwaps_90 : decode cX9_findSwaps 90 = .ok (.getfield 12, 3) := by decide +kernel
theorem dX9_findSwaps_93 : decode cX9_findSwaps 93 = .ok (.getfield 99, 3) := by decide +kernel
theorem dX9_findSwaps_96 : decode cX9_findSwaps 96 = .ok (.iload 4, 2) := by decide +kernel
theorem dX9_findSwaps_98 : decode cX9_findSwaps 98 = .ok (.iaload, 1) := by decide +kernel
theorem dX9_findSwaps_99 : decode cX9_findSwaps 99 = .ok (.aload_n 0, 1) := by decide +kernel
theorem dX9_findSwaps_100 : decode cX9_findSwaps 100 = .ok (.getfield 32, 3) := by decide +kernel
theorem dX9_findSwaps_103 : decode cX9_findSwaps 103 = .ok (.iload 4, 2) := by decide +kernel
theorem dX9_findSwaps_105 : decode cX9_findSwaps 105 = .ok (.iaload, 1) := by decide +kernel
theorem dX9_findSwaps_106 : decode cX9_findSwaps 106 = .ok (.if_icmp .le 54, 3) := by decide +kernel
theorem dX9_findSwaps_109 : decode cX9_findSwaps 109 = .ok (.aload_n 0, 1) := by decide +kernel
theorem dX9_findSwaps_110 : decode cX9_findSwaps 110 = .ok (.getfield 12, 3) := by decide +kernel
theorem dX9_findSwaps_113 : decode cX9_findSwaps 113 = .ok (.getfield 99, 3) := by decide +kernel
theorem dX9_findSwaps_116 : decode cX9_findSwaps 116 = .ok (.iload 5, 2) := by decide +kernel
theorem dX9_findSwaps_118 : decode cX9_findSwaps 118 = .ok (.iaload, 1) := by decide +kernel
theorem dX9_findSwaps_119 : decode cX9_findSwaps 119 = .ok (.aload_n 0, 1) := by decide +kernel
theorem dX9_findSwaps_120 : decode cX9_findSwaps 120 = .ok (.getfield 32, 3) := by decide +kernel
theorem dX9_findSwaps_123 : decode cX9_findSwaps 123 = .ok (.iload 5, 2) := by decide +kernel
theorem dX9_findSwaps_125 : decode cX9_findSwaps 125 = .ok (.iaload, 1) := by decide +kernel
theorem dX9_findSwaps_126 : decode cX9_findSwaps 126 = .ok (.if_icmp .gt 6, 3) := by decide +kernel
theorem dX9_findSwaps_129 : decode cX9_findSwaps 129 = .ok (.goto 31, 3) := by decide +kernel
theorem dX9_findSwaps_132 : decode cX9_findSwaps 132 = .ok (.aload_n 0, 1) := by decide +kernel
theorem dX9_findSwaps_133 : decode cX9_findSwaps 133 = .ok (.getfield 28, 3) := by decide +kernel
theorem dX9_findSwaps_136 : decode cX9_findSwaps 136 = .ok (.iconst 0, 1) := by decide +kernel
theorem dX9_findSwaps_137 : decode cX9_findSwaps 137 = .ok (.iaload, 1) := by decide +kernel
theorem dX9_findSwaps_138 : decode cX9_findSwaps 138 = .ok (.ifCond .ne 12, 3) := by decide +kernel
theorem dX9_findSwaps_141 : decode cX9_findSwaps 141 = .ok (.aload_n 0, 1) := by decide +kernel
theorem dX9_findSwaps_142 : decode cX9_findSwaps 142 = .ok (.iconst 0, 1) := by decide +kernel
theorem dX9_findSwaps_143 : decode cX9_findSwaps 143 = .ok (.iload 4, 2) := by decide +kernel
theorem dX9_findSwaps_145 : decode cX9_findSwaps 145 = .ok (.iload 5, 2) := by decide +kernel
theorem dX9_findSwaps_147 : decode cX9_findSwaps 147 = .ok (.invokevirtual 92, 3) := by decide +kernel
theorem dX9_findSwaps_150 : decode cX9_findSwaps 150 = .ok (.aload_n 0, 1) := by decide +kernel
theorem dX9_findSwaps_151 : decode cX9_findSwaps 151 = .ok (.getfield 28, 3) := by decide +kernel
theorem dX9_findSwaps_154 : decode cX9_findSwaps 154 = .ok (.iconst 0, 1) := by decide +kernel
theorem dX9_findSwaps_155 : decode cX9_findSwaps 155 = .ok (.dup2, 1) := by decide +kernel
theorem dX9_findSwaps_156 : decode cX9_findSwaps 156 = .ok (.iaload, 1) := by decide +kernel
theorem dX9_findSwaps_157 : decode cX9_findSwaps 157 = .ok (.iconst 1, 1) := by decide +kernel
theorem dX9_findSwaps_158 : decode cX9_findSwaps 158 = .ok (.iadd, 1) := by decide +kernel
theorem dX9_findSwaps_159 : decode cX9_findSwaps 159 = .ok (.iastore, 1) := by decide +kernel
theorem dX9_findSwaps_160 : decode cX9_findSwaps 160 = .ok (.iinc 5 1, 3) := by decide +kernel
theorem dX9_findSwaps_163 : decode cX9_findSwaps 163 = .ok (.goto (-106), 3) := by decide +kernel
theorem dX9_findSwaps_166 : decode cX9_findSwaps 166 = .ok (.iinc 4 1, 3) := by decide +kernel
theorem dX9_findSwaps_169 : decode cX9_findSwaps 169 = .ok (.goto (-127), 3) := by decide +kernel
theorem dX9_findSwaps_172 : decode cX9_findSwaps 172 = .ok (.return_, 1) := by decide +kernel
abbrev MTrials_findSwapsrr : rx_M := (RX9, yX9_findSwaps, cX9_findSwaps, 6, none, 6)
theorem kTrials_findSwapsrr : rKv MTrials_findSwapsrr 3 := ⟨tb_in (i := 15) (j := 24) rfl rfl, tb_in (i := 15) (j := 25) rfl rfl, tb_in (i := 10) (j := 11) rfl rfl, tb_in (i := 11) (j := 6) rfl rfl, ⟨by decide, by decide, by decide +kernel⟩, by decide⟩
section
variable {a0 : Nat → Nat → Nat} {a1 : Nat → Nat} {a2 : Nat → Nat} {g0 : tyTrials} {g1 : tyFair} {g2 : tyOrder} {g3 : tyOrder} {g4 : tyFair} {g5 : tyRule}
def mTrials_findSwapsrr_l57 (g4 : tyFair) (x3 : Int32) (x4 : Int32) (k42 : Int32 → tyTrials → tyFair → tyRule → Option (tyTrials × tyFair × tyRule)) : Nat → Int32 → tyTrials → tyFair → tyRule → Option (tyTrials × tyFair × tyRule)
  | 0, _, _, _, _ => none
  | n + 1, x5, g0, g1, g5 => (if g4.2.2.1 ≤ x5 then k42 (x4 + (1 : Int32)) g0 g1 g5 else (mTrials_from g1 g4).bind (fun q8 => (mFair_swapPlaces x4 x5 q8.2.2.1 q8.2.2.2.2.2.2.2.1 q8.2.2.2.2.2.2.2.2.2.2.2.1 q8.2.2.2.2.2.2.2.2.2.2.2.2.1 q8.2.2.2.2.2.2.2.2.2.2.2.2.2.2.2.2.1 q8.2.2.2.2.2.2.2.2.2.2.2.2.2.2.2.2.2.1 q8.2.2.2.2.2.2.2.2.2.2.2.2.2.2.2.2.2.2).bind (fun q9 => (mFair_gor x3 (-1 : Int32) q8.1 q8.2.1 q8.2.2.1 q8.2.2.2.1 q8.2.2.2.2.1 q8.2.2.2.2.2.1 q8.2.2.2.2.2.2.1 q8.2.2.2.2.2.2.2.2.1 q8.2.2.2.2.2.2.2.2.2.1 q8.2.2.2.2.2.2.2.2.2.2.1 q8.2.2.2.2.2.2.2.2.2.2.2.2.2.1 q8.2.2.2.2.2.2.2.2.2.2.2.2.2.2.1 q8.2.2.2.2.2.2.2.2.2.2.2.2.2.2.2.1 q9.2.1 q9.2.2.1 q9.2.2.2 g5.1 g5.2.1 g5.2.2.1 g5.2.2.2.1 g5.2.2.2.2.1 g5.2.2.2.2.2.1 g5.2.2.2.2.2.2.2.1 g5.2.2.2.2.2.2.2.2.1 g5.2.2.2.2.2.2.2.2.2).bind (fun q10 => rq (inb x4 6) (rq (inb x4 6) ((if (q10.2.2.2.2.1 x4.toNatClampNeg) ≤ (g0.2.1 x4.toNatClampNeg) then mTrials_findSwapsrr_l57 g4 x3 x4 k42 n (x5 + (1 : Int32)) g0 (q8.1, q8.2.1, q8.2.2.1, q8.2.2.2.1, q10.2.1, q10.2.2.1, q8.2.2.2.2.2.2.1, q8.2.2.2.2.2.2.2.1, q10.2.2.2.1, q10.2.2.2.2.1, q10.2.2.2.2.2.1, q9.1, q8.2.2.2.2.2.2.2.2.2.2.2.2.1, q10.2.2.2.2.2.2.1, q8.2.2.2.2.2.2.2.2.2.2.2.2.2.2.1, q10.2.2.2.2.2.2.2.1, q9.2.1, q9.2.2.1, q9.2.2.2) (g5.1, g5.2.1, g5.2.2.1, g5.2.2.2.1, g5.2.2.2.2.1, g5.2.2.2.2.2.1, g5.2.2.2.2.2.2.1, g5.2.2.2.2.2.2.2.1, q10.2.2.2.2.2.2.2.2.1, q10.2.2.2.2.2.2.2.2.2) else rq (inb x5 6) (rq (inb x5 6) ((if (g0.2.1 x5.toNatClampNeg) < (q10.2.2.2.2.1 x5.toNatClampNeg) then rq (inb (0 : Int32) 3) ((if (g0.1 (0 : Int32).toNatClampNeg) = 0 then (mTrials_find (0 : Int32) x4 x5 g0).bind (fun q21 => rq (inb (0 : Int32) 3) (rq (inb (0 : Int32) 3) (lt (upd q21.1 (0 : Int32).toNatClampNeg ((q21.1 (0 : Int32).toNatClampNeg) + (1 : Int32))) (fun u23 => mTrials_findSwapsrr_l57 g4 x3 x4 k42 n (x5 + (1 : Int32)) (u23, q21.2.1, q21.2.2.1, q21.2.2.2.1, q21.2.2.2.2) (q8.1, q8.2.1, q8.2.2.1, q8.2.2.2.1, q10.2.1, q10.2.2.1, q8.2.2.2.2.2.2.1, q8.2.2.2.2.2.2.2.1, q10.2.2.2.1, q10.2.2.2.2.1, q10.2.2.2.2.2.1, q9.1, q8.2.2.2.2.2.2.2.2.2.2.2.2.1, q10.2.2.2.2.2.2.1, q8.2.2.2.2.2.2.2.2.2.2.2.2.2.2.1, q10.2.2.2.2.2.2.2.1, q9.2.1, q9.2.2.1, q9.2.2.2) (g5.1, g5.2.1, g5.2.2.1, g5.2.2.2.1, g5.2.2.2.2.1, g5.2.2.2.2.2.1, g5.2.2.2.2.2.2.1, g5.2.2.2.2.2.2.2.1, q10.2.2.2.2.2.2.2.2.1, q10.2.2.2.2.2.2.2.2.2))))) else rq (inb (0 : Int32) 3) (rq (inb (0 : Int32) 3) (lt (upd g0.1 (0 : Int32).toNatClampNeg ((g0.1 (0 : Int32).toNatClampNeg) + (1 : Int32))) (fun u20 => mTrials_findSwapsrr_l57 g4 x3 x4 k42 n (x5 + (1 : Int32)) (u20, g0.2.1, g0.2.2.1, g0.2.2.2.1, g0.2.2.2.2) (q8.1, q8.2.1, q8.2.2.1, q8.2.2.2.1, q10.2.1, q10.2.2.1, q8.2.2.2.2.2.2.1, q8.2.2.2.2.2.2.2.1, q10.2.2.2.1, q10.2.2.2.2.1, q10.2.2.2.2.2.1, q9.1, q8.2.2.2.2.2.2.2.2.2.2.2.2.1, q10.2.2.2.2.2.2.1, q8.2.2.2.2.2.2.2.2.2.2.2.2.2.2.1, q10.2.2.2.2.2.2.2.1, q9.2.1, q9.2.2.1, q9.2.2.2) (g5.1, g5.2.1, g5.2.2.1, g5.2.2.2.1, g5.2.2.2.2.1, g5.2.2.2.2.2.1, g5.2.2.2.2.2.2.1, g5.2.2.2.2.2.2.2.1, q10.2.2.2.2.2.2.2.2.1, q10.2.2.2.2.2.2.2.2.2)))))) else mTrials_findSwapsrr_l57 g4 x3 x4 k42 n (x5 + (1 : Int32)) g0 (q8.1, q8.2.1, q8.2.2.1, q8.2.2.2.1, q10.2.1, q10.2.2.1, q8.2.2.2.2.2.2.1, q8.2.2.2.2.2.2.2.1, q10.2.2.2.1, q10.2.2.2.2.1, q10.2.2.2.2.2.1, q9.1, q8.2.2.2.2.2.2.2.2.2.2.2.2.1, q10.2.2.2.2.2.2.1, q8.2.2.2.2.2.2.2.2.2.2.2.2.2.2.1, q10.2.2.2.2.2.2.2.1, q9.2.1, q9.2.2.1, q9.2.2.2) (g5.1, g5.2.1, g5.2.2.1, g5.2.2.2.1, g5.2.2.2.2.1, g5.2.2.2.2.2.1, g5.2.2.2.2.2.2.1, g5.2.2.2.2.2.2.2.1, q10.2.2.2.2.2.2.2.2.1, q10.2.2.2.2.2.2.2.2.2)))))))))))
set_option maxHeartbeats 4000000 in
set_option maxRecDepth 20000 in
theorem cTrials_findSwapsrr_l57 {q : tyTrials × tyFair × tyRule} {x3 : Int32} {x4 : Int32} {k42 : Int32 → tyTrials → tyFair → tyRule → Option (tyTrials × tyFair × tyRule)} (hk42 : ∀ (x4 : Int32) (g0 : tyTrials) (g1 : tyFair) (g5 : tyRule), k42 x4 g0 g1 g5 = some q → rW l D Z (ty7 K) MTrials_findSwapsrr 42 [(0, .ref ((a0 0) 0)), (1, .ref (a1 0)), (2, .ref (a2 0)), (3, .int x3), (4, .int x4)] [] (List.flatten [bTrialsG K (a0 0) ((a0 1) 0) ((a0 2) 0) ((a0 3) 0) g0, bFairG K (a0 1) g1, bOrderG K (a0 2) g2, bOrderG K (a0 3) g3, bFairG K a1 g4, bRuleG K a2 g5]) (List.flatten [bTrialsG K (a0 0) ((a0 1) 0) ((a0 2) 0) ((a0 3) 0) q.1, bFairG K (a0 1) q.2.1, bOrderG K (a0 2) g2, bOrderG K (a0 3) g3, bFairG K a1 g4, bRuleG K a2 q.2.2]) none) : ∀ (n : Nat) (x5 : Int32) (g0 : tyTrials) (g1 : tyFair) (g5 : tyRule), mTrials_findSwapsrr_l57 g4 x3 x4 k42 n x5 g0 g1 g5 = some q → rW l D Z (ty7 K) MTrials_findSwapsrr 57 [(0, .ref ((a0 0) 0)), (1, .ref (a1 0)), (2, .ref (a2 0)), (3, .int x3), (4, .int x4), (5, .int x5)] [] (List.flatten [bTrialsG K (a0 0) ((a0 1) 0) ((a0 2) 0) ((a0 3) 0) g0, bFairG K (a0 1) g1, bOrderG K (a0 2) g2, bOrderG K (a0 3) g3, bFairG K a1 g4, bRuleG K a2 g5]) (List.flatten [bTrialsG K (a0 0) ((a0 1) 0) ((a0 2) 0) ((a0 3) 0) q.1, bFairG K (a0 1) q.2.1, bOrderG K (a0 2) g2, bOrderG K (a0 3) g3, bFairG K a1 g4, bRuleG K a2 q.2.2]) none := by
  intro n
  induction n with
  | zero => intro x5 g0 g1 g5 h; unfold mTrials_findSwapsrr_l57 at h; cases h
  | succ n ih =>
    intro x5 g0 g1 g5 h
    unfold mTrials_findSwapsrr_l57 at h
    refine r_iload 5 dX9_findSwaps_57 rfl ?_
    refine r_aload_n 1 dX9_findSwaps_59 rfl ?_
    refine gFair_stallsN 4 rfl (List.mem_of_getElem? (i := 16) rfl) dX9_findSwaps_60 ?_
    refine r_icmp_ge 166 dX9_findSwaps_63 (by decide) (fun c7 => ?_) (fun c7 => ?_)
    · replace h := it_pos c7 h
      refine r_iinc (y := (x4 + (1 : Int32))) (lv' := [(4, .int (x4 + (1 : Int32))), (0, .ref ((a0 0) 0)), (1, .ref (a1 0)), (2, .ref (a2 0)), (3, .int x3), (5, .int x5)]) 4 dX9_findSwaps_166 rfl rfl (Nat.le_of_ble_eq_true rfl) rfl ?_
      refine r_goto 42 dX9_findSwaps_169 (by decide) ?_
      refine r_sub (lv' := [(0, .ref ((a0 0) 0)), (1, .ref (a1 0)), (2, .ref (a2 0)), (3, .int x3), (4, .int (x4 + (1 : Int32)))]) [1, 2, 3, 4, 0] rfl ?_
      exact hk42 (x4 + (1 : Int32)) g0 g1 g5 h
    · replace h := it_neg c7 h
      refine r_aload_n 0 dX9_findSwaps_66 rfl ?_
      refine r_aload_n 1 dX9_findSwaps_67 rfl ?_
      obtain ⟨q8, h8, h⟩ := bd_some h
      refine b_callV (isC := [0, 1, 2, 3, 4]) (ci := 7)  (st := []) (bs1 := [bTrialsG K (a0 0) ((a0 1) 0) ((a0 2) 0) ((a0 3) 0) g0, bFairG K (a0 1) q8, bOrderG K (a0 2) g2, bOrderG K (a0 3) g3, bFairG K a1 g4, bRuleG K a2 g5]) (cTrials_from (a0 := a0) (a1 := a1) (g0 := g0) (g1 := g1) (g2 := g2) (g3 := g3) (g4 := g4) h8) rfl rfl (Nat.le_of_ble_eq_true rfl) kTrials_from (tb_in (i := 10) (j := 8) rfl rfl) (by decide) (by decide) rfl rfl rfl rfl rfl rfl rfl dX9_findSwaps_68 ?_
      refine r_iload 4 dX9_findSwaps_71 rfl ?_
      refine r_iload 5 dX9_findSwaps_73 rfl ?_
      obtain ⟨q9, h9, h⟩ := bd_some h
      refine b_callVN (isC := [1]) (ci := 1)  (st := []) (bs1 := [bTrialsG K (a0 0) ((a0 1) 0) ((a0 2) 0) ((a0 3) 0) g0, bFair K (a0 1) q8.1 q8.2.1 q8.2.2.1 q8.2.2.2.1 q8.2.2.2.2.1 q8.2.2.2.2.2.1 q8.2.2.2.2.2.2.1 q8.2.2.2.2.2.2.2.1 q8.2.2.2.2.2.2.2.2.1 q8.2.2.2.2.2.2.2.2.2.1 q8.2.2.2.2.2.2.2.2.2.2.1 q9.1 q8.2.2.2.2.2.2.2.2.2.2.2.2.1 q8.2.2.2.2.2.2.2.2.2.2.2.2.2.1 q8.2.2.2.2.2.2.2.2.2.2.2.2.2.2.1 q8.2.2.2.2.2.2.2.2.2.2.2.2.2.2.2.1 q9.2.1 q9.2.2.1 q9.2.2.2, bOrderG K (a0 2) g2, bOrderG K (a0 3) g3, bFairG K a1 g4, bRuleG K a2 g5]) (cFair_swapPlaces (a0 := (a0 1)) (z0_lasts := q8.1) (z0_keeps := q8.2.1) (z0_stalls := q8.2.2.1) (z0_buyers := q8.2.2.2.1) (z0_minute := q8.2.2.2.2.1) (z0_goods := q8.2.2.2.2.2.1) (z0_price := q8.2.2.2.2.2.2.1) (z0_tongue := q8.2.2.2.2.2.2.2.1) (z0_till := q8.2.2.2.2.2.2.2.2.1) (z0_wealth := q8.2.2.2.2.2.2.2.2.2.1) (z0_sold := q8.2.2.2.2.2.2.2.2.2.2.1) (z0_ring := q8.2.2.2.2.2.2.2.2.2.2.2.1) (z0_grudges := q8.2.2.2.2.2.2.2.2.2.2.2.2.1) (z0_purse := q8.2.2.2.2.2.2.2.2.2.2.2.2.2.1) (z0_came := q8.2.2.2.2.2.2.2.2.2.2.2.2.2.2.1) (z0_had := q8.2.2.2.2.2.2.2.2.2.2.2.2.2.2.2.1) (z0_seller := q8.2.2.2.2.2.2.2.2.2.2.2.2.2.2.2.2.1) (z0_praise := q8.2.2.2.2.2.2.2.2.2.2.2.2.2.2.2.2.2.1) (z0_borne := q8.2.2.2.2.2.2.2.2.2.2.2.2.2.2.2.2.2.2) h9) rfl rfl (Nat.le_of_ble_eq_true rfl) kFair_swapPlaces (List.mem_of_getElem? (i := 72) rfl) (by decide) (by decide) rfl rfl rfl rfl rfl rfl rfl dX9_findSwaps_75 ?_
      refine r_aload_n 0 dX9_findSwaps_78 rfl ?_
      refine gTrials_fair 0 rfl (tb_in (i := 9) (j := 23) rfl rfl) dX9_findSwaps_79 ?_
      refine r_aload_n 2 dX9_findSwaps_82 rfl ?_
      refine r_iload_n 3 dX9_findSwaps_83 rfl ?_
      refine r_iconst (x := (-1 : Int32)) dX9_findSwaps_84 (by decide) ?_
      obtain ⟨q10, h10, h⟩ := bd_some h
      refine b_callVN (isC := [1, 5]) (ci := 1)  (st := []) (bs1 := [bTrialsG K (a0 0) ((a0 1) 0) ((a0 2) 0) ((a0 3) 0) g0, bFair K (a0 1) q8.1 q8.2.1 q8.2.2.1 q8.2.2.2.1 q10.2.1 q10.2.2.1 q8.2.2.2.2.2.2.1 q8.2.2.2.2.2.2.2.1 q10.2.2.2.1 q10.2.2.2.2.1 q10.2.2.2.2.2.1 q9.1 q8.2.2.2.2.2.2.2.2.2.2.2.2.1 q10.2.2.2.2.2.2.1 q8.2.2.2.2.2.2.2.2.2.2.2.2.2.2.1 q10.2.2.2.2.2.2.2.1 q9.2.1 q9.2.2.1 q9.2.2.2, bOrderG K (a0 2) g2, bOrderG K (a0 3) g3, bFairG K a1 g4, bRule K a2 g5.1 g5.2.1 g5.2.2.1 g5.2.2.2.1 g5.2.2.2.2.1 g5.2.2.2.2.2.1 g5.2.2.2.2.2.2.1 g5.2.2.2.2.2.2.2.1 q10.2.2.2.2.2.2.2.2.1 q10.2.2.2.2.2.2.2.2.2]) (cFair_gor (a0 := (a0 1)) (a1 := a2) (z0_lasts := q8.1) (z0_keeps := q8.2.1) (z0_stalls := q8.2.2.1) (z0_buyers := q8.2.2.2.1) (z0_minute := q8.2.2.2.2.1) (z0_goods := q8.2.2.2.2.2.1) (z0_price := q8.2.2.2.2.2.2.1) (z0_tongue := q8.2.2.2.2.2.2.2.1) (z0_till := q8.2.2.2.2.2.2.2.2.1) (z0_wealth := q8.2.2.2.2.2.2.2.2.2.1) (z0_sold := q8.2.2.2.2.2.2.2.2.2.2.1) (z0_ring := q9.1) (z0_grudges := q8.2.2.2.2.2.2.2.2.2.2.2.2.1) (z0_purse := q8.2.2.2.2.2.2.2.2.2.2.2.2.2.1) (z0_came := q8.2.2.2.2.2.2.2.2.2.2.2.2.2.2.1) (z0_had := q8.2.2.2.2.2.2.2.2.2.2.2.2.2.2.2.1) (z0_seller := q9.2.1) (z0_praise := q9.2.2.1) (z0_borne := q9.2.2.2) (z1_steps := g5.1) (z1_size := g5.2.1) (z1_sumFrom := g5.2.2.1) (z1_testFrom := g5.2.2.2.1) (z1_testTo := g5.2.2.2.2.1) (z1_clauses := g5.2.2.2.2.2.1) (z1_parts := g5.2.2.2.2.2.2.1) (z1_readsTime := g5.2.2.2.2.2.2.2.1) (z1_words := g5.2.2.2.2.2.2.2.2.1) (z1_stack := g5.2.2.2.2.2.2.2.2.2) h10) rfl rfl (Nat.le_of_ble_eq_true rfl) kFair_gor (List.mem_of_getElem? (i := 57) rfl) (by decide) (by decide) rfl rfl rfl rfl rfl rfl rfl dX9_findSwaps_85 ?_
      refine r_pop dX9_findSwaps_88 rfl ?_
      refine r_aload_n 0 dX9_findSwaps_89 rfl ?_
      refine gTrials_fair 0 rfl (tb_in (i := 9) (j := 23) rfl rfl) dX9_findSwaps_90 ?_
      refine gFair_wealthN 1 rfl (List.mem_of_getElem? (i := 32) rfl) dX9_findSwaps_93 ?_
      refine r_iload 4 dX9_findSwaps_96 rfl ?_
      obtain ⟨h11, h⟩ := rq_some h
      refine lFair_wealth 1 rfl (inb_in h11) dX9_findSwaps_98 ?_
      refine r_aload_n 0 dX9_findSwaps_99 rfl ?_
      refine gTrials_wealthBefore 0 rfl (tb_in (i := 9) (j := 29) rfl rfl) dX9_findSwaps_100 ?_
      refine r_iload 4 dX9_findSwaps_103 rfl ?_
      obtain ⟨h12, h⟩ := rq_some h
      refine lTrials_wealthBefore 0 rfl (inb_in h12) dX9_findSwaps_105 ?_
      refine r_icmp_le 160 dX9_findSwaps_106 (by decide) (fun c13 => ?_) (fun c13 => ?_)
      · replace h := it_pos c13 h
        refine r_iinc (y := (x5 + (1 : Int32))) (lv' := [(5, .int (x5 + (1 : Int32))), (0, .ref ((a0 0) 0)), (1, .ref (a1 0)), (2, .ref (a2 0)), (3, .int x3), (4, .int x4)]) 5 dX9_findSwaps_160 rfl rfl (Nat.le_of_ble_eq_true rfl) rfl ?_
        refine r_goto 57 dX9_findSwaps_163 (by decide) ?_
        refine r_sub (lv' := [(0, .ref ((a0 0) 0)), (1, .ref (a1 0)), (2, .ref (a2 0)), (3, .int x3), (4, .int x4), (5, .int (x5 + (1 : Int32)))]) [1, 2, 3, 4, 5, 0] rfl ?_
        exact ih (x5 + (1 : Int32)) g0 (q8.1, q8.2.1, q8.2.2.1, q8.2.2.2.1, q10.2.1, q10.2.2.1, q8.2.2.2.2.2.2.1, q8.2.2.2.2.2.2.2.1, q10.2.2.2.1, q10.2.2.2.2.1, q10.2.2.2.2.2.1, q9.1, q8.2.2.2.2.2.2.2.2.2.2.2.2.1, q10.2.2.2.2.2.2.1, q8.2.2.2.2.2.2.2.2.2.2.2.2.2.2.1, q10.2.2.2.2.2.2.2.1, q9.2.1, q9.2.2.1, q9.2.2.2) (g5.1, g5.2.1, g5.2.2.1, g5.2.2.2.1, g5.2.2.2.2.1, g5.2.2.2.2.2.1, g5.2.2.2.2.2.2.1, g5.2.2.2.2.2.2.2.1, q10.2.2.2.2.2.2.2.2.1, q10.2.2.2.2.2.2.2.2.2) h
      · replace h := it_neg c13 h
        refine r_aload_n 0 dX9_findSwaps_109 rfl ?_
        refine gTrials_fair 0 rfl (tb_in (i := 9) (j := 23) rfl rfl) dX9_findSwaps_110 ?_
        refine gFair_wealthN 1 rfl (List.mem_of_getElem? (i := 32) rfl) dX9_findSwaps_113 ?_
        refine r_iload 5 dX9_findSwaps_116 rfl ?_
        obtain ⟨h14, h⟩ := rq_some h
        refine lFair_wealth 1 rfl (inb_in h14) dX9_findSwaps_118 ?_
        refine r_aload_n 0 dX9_findSwaps_119 rfl ?_
        refine gTrials_wealthBefore 0 rfl (tb_in (i := 9) (j := 29) rfl rfl) dX9_findSwaps_120 ?_
        refine r_iload 5 dX9_findSwaps_123 rfl ?_
        obtain ⟨h15, h⟩ := rq_some h
        refine lTrials_wealthBefore 0 rfl (inb_in h15) dX9_findSwaps_125 ?_
        refine r_icmp_gt 132 dX9_findSwaps_126 (by decide) (fun c16 => ?_) (fun c16 => ?_)
        · replace h := it_pos c16 h
          refine r_aload_n 0 dX9_findSwaps_132 rfl ?_
          refine gTrials_found 0 rfl (tb_in (i := 9) (j := 28) rfl rfl) dX9_findSwaps_133 ?_
          refine r_iconst (x := (0 : Int32)) dX9_findSwaps_136 (by decide) ?_
          obtain ⟨h17, h⟩ := rq_some h
          refine lTrials_found 0 rfl (inb_in h17) dX9_findSwaps_137 ?_
          refine r_if_ne 150 dX9_findSwaps_138 (by decide) (fun c18 => ?_) (fun c18 => ?_)
          · replace h := it_neg c18 h
            refine r_aload_n 0 dX9_findSwaps_150 rfl ?_
            refine gTrials_found 0 rfl (tb_in (i := 9) (j := 28) rfl rfl) dX9_findSwaps_151 ?_
            refine r_iconst (x := (0 : Int32)) dX9_findSwaps_154 (by decide) ?_
            refine r_dup2 dX9_findSwaps_155 rfl rfl ?_
            obtain ⟨h19, h⟩ := rq_some h
            refine lTrials_found 0 rfl (inb_in h19) dX9_findSwaps_156 ?_
            refine r_iconst (x := (1 : Int32)) dX9_findSwaps_157 (by decide) ?_
            refine r_iadd dX9_findSwaps_158 ?_
            obtain ⟨h20, h⟩ := rq_some h
            obtain ⟨u20, e20, h⟩ := lt_some h
            refine sTrials_found (bs1 := [bTrials K (a0 0) ((a0 1) 0) ((a0 2) 0) ((a0 3) 0) u20 g0.2.1 g0.2.2.1 g0.2.2.2.1 g0.2.2.2.2, bFair K (a0 1) q8.1 q8.2.1 q8.2.2.1 q8.2.2.2.1 q10.2.1 q10.2.2.1 q8.2.2.2.2.2.2.1 q8.2.2.2.2.2.2.2.1 q10.2.2.2.1 q10.2.2.2.2.1 q10.2.2.2.2.2.1 q9.1 q8.2.2.2.2.2.2.2.2.2.2.2.2.1 q10.2.2.2.2.2.2.1 q8.2.2.2.2.2.2.2.2.2.2.2.2.2.2.1 q10.2.2.2.2.2.2.2.1 q9.2.1 q9.2.2.1 q9.2.2.2, bOrderG K (a0 2) g2, bOrderG K (a0 3) g3, bFairG K a1 g4, bRule K a2 g5.1 g5.2.1 g5.2.2.1 g5.2.2.2.1 g5.2.2.2.2.1 g5.2.2.2.2.2.1 g5.2.2.2.2.2.2.1 g5.2.2.2.2.2.2.2.1 q10.2.2.2.2.2.2.2.2.1 q10.2.2.2.2.2.2.2.2.2]) 0 e20 rfl (inb_in h20) rfl dX9_findSwaps_159 ?_
            refine r_iinc (y := (x5 + (1 : Int32))) (lv' := [(5, .int (x5 + (1 : Int32))), (0, .ref ((a0 0) 0)), (1, .ref (a1 0)), (2, .ref (a2 0)), (3, .int x3), (4, .int x4)]) 5 dX9_findSwaps_160 rfl rfl (Nat.le_of_ble_eq_true rfl) rfl ?_
            refine r_goto 57 dX9_findSwaps_163 (by decide) ?_
            refine r_sub (lv' := [(0, .ref ((a0 0) 0)), (1, .ref (a1 0)), (2, .ref (a2 0)), (3, .int x3), (4, .int x4), (5, .int (x5 + (1 : Int32)))]) [1, 2, 3, 4, 5, 0] rfl ?_
            exact ih (x5 + (1 : Int32)) (u20, g0.2.1, g0.2.2.1, g0.2.2.2.1, g0.2.2.2.2) (q8.1, q8.2.1, q8.2.2.1, q8.2.2.2.1, q10.2.1, q10.2.2.1, q8.2.2.2.2.2.2.1, q8.2.2.2.2.2.2.2.1, q10.2.2.2.1, q10.2.2.2.2.1, q10.2.2.2.2.2.1, q9.1, q8.2.2.2.2.2.2.2.2.2.2.2.2.1, q10.2.2.2.2.2.2.1, q8.2.2.2.2.2.2.2.2.2.2.2.2.2.2.1, q10.2.2.2.2.2.2.2.1, q9.2.1, q9.2.2.1, q9.2.2.2) (g5.1, g5.2.1, g5.2.2.1, g5.2.2.2.1, g5.2.2.2.2.1, g5.2.2.2.2.2.1, g5.2.2.2.2.2.2.1, g5.2.2.2.2.2.2.2.1, q10.2.2.2.2.2.2.2.2.1, q10.2.2.2.2.2.2.2.2.2) h
          · replace h := it_pos c18 h
            refine r_aload_n 0 dX9_findSwaps_141 rfl ?_
            refine r_iconst (x := (0 : Int32)) dX9_findSwaps_142 (by decide) ?_
            refine r_iload 4 dX9_findSwaps_143 rfl ?_
            refine r_iload 5 dX9_findSwaps_145 rfl ?_
            obtain ⟨q21, h21, h⟩ := bd_some h
            refine b_callV (isC := [0, 1, 2, 3]) (ci := 7)  (st := []) (bs1 := [bTrialsG K (a0 0) ((a0 1) 0) ((a0 2) 0) ((a0 3) 0) q21, bFair K (a0 1) q8.1 q8.2.1 q8.2.2.1 q8.2.2.2.1 q10.2.1 q10.2.2.1 q8.2.2.2.2.2.2.1 q8.2.2.2.2.2.2.2.1 q10.2.2.2.1 q10.2.2.2.2.1 q10.2.2.2.2.2.1 q9.1 q8.2.2.2.2.2.2.2.2.2.2.2.2.1 q10.2.2.2.2.2.2.1 q8.2.2.2.2.2.2.2.2.2.2.2.2.2.2.1 q10.2.2.2.2.2.2.2.1 q9.2.1 q9.2.2.1 q9.2.2.2, bOrderG K (a0 2) g2, bOrderG K (a0 3) g3, bFairG K a1 g4, bRule K a2 g5.1 g5.2.1 g5.2.2.1 g5.2.2.2.1 g5.2.2.2.2.1 g5.2.2.2.2.2.1 g5.2.2.2.2.2.2.1 g5.2.2.2.2.2.2.2.1 q10.2.2.2.2.2.2.2.2.1 q10.2.2.2.2.2.2.2.2.2]) (cTrials_find (a0 := a0) (g0 := g0) (g1 := (q8.1, q8.2.1, q8.2.2.1, q8.2.2.2.1, q10.2.1, q10.2.2.1, q8.2.2.2.2.2.2.1, q8.2.2.2.2.2.2.2.1, q10.2.2.2.1, q10.2.2.2.2.1, q10.2.2.2.2.2.1, q9.1, q8.2.2.2.2.2.2.2.2.2.2.2.2.1, q10.2.2.2.2.2.2.1, q8.2.2.2.2.2.2.2.2.2.2.2.2.2.2.1, q10.2.2.2.2.2.2.2.1, q9.2.1, q9.2.2.1, q9.2.2.2)) (g2 := g2) (g3 := g3) h21) rfl rfl (Nat.le_of_ble_eq_true rfl) kTrials_find (tb_in (i := 10) (j := 20) rfl rfl) (by decide) (by decide) rfl rfl rfl rfl rfl rfl rfl dX9_findSwaps_147 ?_
            refine r_aload_n 0 dX9_findSwaps_150 rfl ?_
            refine gTrials_found 0 rfl (tb_in (i := 9) (j := 28) rfl rfl) dX9_findSwaps_151 ?_
            refine r_iconst (x := (0 : Int32)) dX9_findSwaps_154 (by decide) ?_
            refine r_dup2 dX9_findSwaps_155 rfl rfl ?_
            obtain ⟨h22, h⟩ := rq_some h
            refine lTrials_found 0 rfl (inb_in h22) dX9_findSwaps_156 ?_
            refine r_iconst (x := (1 : Int32)) dX9_findSwaps_157 (by decide) ?_
            refine r_iadd dX9_findSwaps_158 ?_
            obtain ⟨h23, h⟩ := rq_some h
            obtain ⟨u23, e23, h⟩ := lt_some h
            refine sTrials_found (bs1 := [bTrials K (a0 0) ((a0 1) 0) ((a0 2) 0) ((a0 3) 0) u23 q21.2.1 q21.2.2.1 q21.2.2.2.1 q21.2.2.2.2, bFair K (a0 1) q8.1 q8.2.1 q8.2.2.1 q8.2.2.2.1 q10.2.1 q10.2.2.1 q8.2.2.2.2.2.2.1 q8.2.2.2.2.2.2.2.1 q10.2.2.2.1 q10.2.2.2.2.1 q10.2.2.2.2.2.1 q9.1 q8.2.2.2.2.2.2.2.2.2.2.2.2.1 q10.2.2.2.2.2.2.1 q8.2.2.2.2.2.2.2.2.2.2.2.2.2.2.1 q10.2.2.2.2.2.2.2.1 q9.2.1 q9.2.2.1 q9.2.2.2, bOrderG K (a0 2) g2, bOrderG K (a0 3) g3, bFairG K a1 g4, bRule K a2 g5.1 g5.2.1 g5.2.2.1 g5.2.2.2.1 g5.2.2.2.2.1 g5.2.2.2.2.2.1 g5.2.2.2.2.2.2.1 g5.2.2.2.2.2.2.2.1 q10.2.2.2.2.2.2.2.2.1 q10.2.2.2.2.2.2.2.2.2]) 0 e23 rfl (inb_in h23) rfl dX9_findSwaps_159 ?_
            refine r_iinc (y := (x5 + (1 : Int32))) (lv' := [(5, .int (x5 + (1 : Int32))), (0, .ref ((a0 0) 0)), (1, .ref (a1 0)), (2, .ref (a2 0)), (3, .int x3), (4, .int x4)]) 5 dX9_findSwaps_160 rfl rfl (Nat.le_of_ble_eq_true rfl) rfl ?_
            refine r_goto 57 dX9_findSwaps_163 (by decide) ?_
            refine r_sub (lv' := [(0, .ref ((a0 0) 0)), (1, .ref (a1 0)), (2, .ref (a2 0)), (3, .int x3), (4, .int x4), (5, .int (x5 + (1 : Int32)))]) [1, 2, 3, 4, 5, 0] rfl ?_
            exact ih (x5 + (1 : Int32)) (u23, q21.2.1, q21.2.2.1, q21.2.2.2.1, q21.2.2.2.2) (q8.1, q8.2.1, q8.2.2.1, q8.2.2.2.1, q10.2.1, q10.2.2.1, q8.2.2.2.2.2.2.1, q8.2.2.2.2.2.2.2.1, q10.2.2.2.1, q10.2.2.2.2.1, q10.2.2.2.2.2.1, q9.1, q8.2.2.2.2.2.2.2.2.2.2.2.2.1, q10.2.2.2.2.2.2.1, q8.2.2.2.2.2.2.2.2.2.2.2.2.2.2.1, q10.2.2.2.2.2.2.2.1, q9.2.1, q9.2.2.1, q9.2.2.2) (g5.1, g5.2.1, g5.2.2.1, g5.2.2.2.1, g5.2.2.2.2.1, g5.2.2.2.2.2.1, g5.2.2.2.2.2.2.1, g5.2.2.2.2.2.2.2.1, q10.2.2.2.2.2.2.2.2.1, q10.2.2.2.2.2.2.2.2.2) h
        · replace h := it_neg c16 h
          refine r_goto 160 dX9_findSwaps_129 (by decide) ?_
          refine r_iinc (y := (x5 + (1 : Int32))) (lv' := [(5, .int (x5 + (1 : Int32))), (0, .ref ((a0 0) 0)), (1, .ref (a1 0)), (2, .ref (a2 0)), (3, .int x3), (4, .int x4)]) 5 dX9_findSwaps_160 rfl rfl (Nat.le_of_ble_eq_true rfl) rfl ?_
          refine r_goto 57 dX9_findSwaps_163 (by decide) ?_
          refine r_sub (lv' := [(0, .ref ((a0 0) 0)), (1, .ref (a1 0)), (2, .ref (a2 0)), (3, .int x3), (4, .int x4), (5, .int (x5 + (1 : Int32)))]) [1, 2, 3, 4, 5, 0] rfl ?_
          exact ih (x5 + (1 : Int32)) g0 (q8.1, q8.2.1, q8.2.2.1, q8.2.2.2.1, q10.2.1, q10.2.2.1, q8.2.2.2.2.2.2.1, q8.2.2.2.2.2.2.2.1, q10.2.2.2.1, q10.2.2.2.2.1, q10.2.2.2.2.2.1, q9.1, q8.2.2.2.2.2.2.2.2.2.2.2.2.1, q10.2.2.2.2.2.2.1, q8.2.2.2.2.2.2.2.2.2.2.2.2.2.2.1, q10.2.2.2.2.2.2.2.1, q9.2.1, q9.2.2.1, q9.2.2.2) (g5.1, g5.2.1, g5.2.2.1, g5.2.2.2.1, g5.2.2.2.2.1, g5.2.2.2.2.2.1, g5.2.2.2.2.2.2.1, g5.2.2.2.2.2.2.2.1, q10.2.2.2.2.2.2.2.2.1, q10.2.2.2.2.2.2.2.2.2) h
def mTrials_findSwapsrr_l42 (g4 : tyFair) (x3 : Int32) : Nat → Int32 → tyTrials → tyFair → tyRule → Option (tyTrials × tyFair × tyRule)
  | 0, _, _, _, _ => none
  | n + 1, x4, g0, g1, g5 => (if g4.2.2.1 ≤ x4 then some (g0, g1, g5) else lt (x4 + (1 : Int32)) (fun y6 => mTrials_findSwapsrr_l57 g4 x3 x4 (mTrials_findSwapsrr_l42 g4 x3 n) FU y6 g0 g1 g5))
set_option maxHeartbeats 4000000 in
set_option maxRecDepth 20000 in
theorem cTrials_findSwapsrr_l42 {q : tyTrials × tyFair × tyRule} {x3 : Int32}  : ∀ (n : Nat) (x4 : Int32) (g0 : tyTrials) (g1 : tyFair) (g5 : tyRule), mTrials_findSwapsrr_l42 g4 x3 n x4 g0 g1 g5 = some q → rW l D Z (ty7 K) MTrials_findSwapsrr 42 [(0, .ref ((a0 0) 0)), (1, .ref (a1 0)), (2, .ref (a2 0)), (3, .int x3), (4, .int x4)] [] (List.flatten [bTrialsG K (a0 0) ((a0 1) 0) ((a0 2) 0) ((a0 3) 0) g0, bFairG K (a0 1) g1, bOrderG K (a0 2) g2, bOrderG K (a0 3) g3, bFairG K a1 g4, bRuleG K a2 g5]) (List.flatten [bTrialsG K (a0 0) ((a0 1) 0) ((a0 2) 0) ((a0 3) 0) q.1, bFairG K (a0 1) q.2.1, bOrderG K (a0 2) g2, bOrderG K (a0 3) g3, bFairG K a1 g4, bRuleG K a2 q.2.2]) none := by
  intro n
  induction n with
  | zero => intro x4 g0 g1 g5 h; unfold mTrials_findSwapsrr_l42 at h; cases h
  | succ n ih =>
    intro x4 g0 g1 g5 h
    unfold mTrials_findSwapsrr_l42 at h
    refine r_iload 4 dX9_findSwaps_42 rfl ?_
    refine r_aload_n 1 dX9_findSwaps_44 rfl ?_
    refine gFair_stallsN 4 rfl (List.mem_of_getElem? (i := 16) rfl) dX9_findSwaps_45 ?_
    refine r_icmp_ge 172 dX9_findSwaps_48 (by decide) (fun c5 => ?_) (fun c5 => ?_)
    · replace h := it_pos c5 h
      have hq := Option.some.inj h
      subst hq
      exact r_vret rfl dX9_findSwaps_172
    · replace h := it_neg c5 h
      refine r_iload 4 dX9_findSwaps_51 rfl ?_
      refine r_iconst (x := (1 : Int32)) dX9_findSwaps_53 (by decide) ?_
      refine r_iadd dX9_findSwaps_54 ?_
      obtain ⟨y6, e6, h⟩ := lt_some h
      refine r_top e6 ?_
      refine r_istore (lv' := [(5, .int y6), (0, .ref ((a0 0) 0)), (1, .ref (a1 0)), (2, .ref (a2 0)), (3, .int x3), (4, .int x4)]) dX9_findSwaps_55 (Nat.le_of_ble_eq_true rfl) rfl ?_
      refine r_sub (lv' := [(0, .ref ((a0 0) 0)), (1, .ref (a1 0)), (2, .ref (a2 0)), (3, .int x3), (4, .int x4), (5, .int y6)]) [1, 2, 3, 4, 5, 0] rfl ?_
      exact cTrials_findSwapsrr_l57 (g4 := g4) (ih) FU y6 g0 g1 g5 h
def mTrials_findSwapsrr (x3 : Int32) (g0 : tyTrials) (g1 : tyFair) (g4 : tyFair) (g5 : tyRule) : Option (tyTrials × tyFair × tyRule) := (mTrials_from g1 g4).bind (fun q1 => (mFair_gor x3 (-1 : Int32) q1.1 q1.2.1 q1.2.2.1 q1.2.2.2.1 q1.2.2.2.2.1 q1.2.2.2.2.2.1 q1.2.2.2.2.2.2.1 q1.2.2.2.2.2.2.2.2.1 q1.2.2.2.2.2.2.2.2.2.1 q1.2.2.2.2.2.2.2.2.2.2.1 q1.2.2.2.2.2.2.2.2.2.2.2.2.2.1 q1.2.2.2.2.2.2.2.2.2.2.2.2.2.2.1 q1.2.2.2.2.2.2.2.2.2.2.2.2.2.2.2.1 q1.2.2.2.2.2.2.2.2.2.2.2.2.2.2.2.2.1 q1.2.2.2.2.2.2.2.2.2.2.2.2.2.2.2.2.2.1 q1.2.2.2.2.2.2.2.2.2.2.2.2.2.2.2.2.2.2 g5.1 g5.2.1 g5.2.2.1 g5.2.2.2.1 g5.2.2.2.2.1 g5.2.2.2.2.2.1 g5.2.2.2.2.2.2.2.1 g5.2.2.2.2.2.2.2.2.1 g5.2.2.2.2.2.2.2.2.2).bind (fun q2 => rq (cpin (0 : Int32) (0 : Int32) (6 : Int32) 6 6) (lt (va_cpy q2.2.2.2.2.1 g0.2.1 (0 : Int32).toNatClampNeg (0 : Int32).toNatClampNeg (6 : Int32).toNatClampNeg) (fun u3 => (mTrials_find (0 : Int32) (-2 : Int32) (-2 : Int32) (g0.1, u3, g0.2.2.1, g0.2.2.2.1, g0.2.2.2.2)).bind (fun q4 => mTrials_findSwapsrr_l42 g4 x3 FU (0 : Int32) q4 (q1.1, q1.2.1, q1.2.2.1, q1.2.2.2.1, q2.2.1, q2.2.2.1, q1.2.2.2.2.2.2.1, q1.2.2.2.2.2.2.2.1, q2.2.2.2.1, q2.2.2.2.2.1, q2.2.2.2.2.2.1, q1.2.2.2.2.2.2.2.2.2.2.2.1, q1.2.2.2.2.2.2.2.2.2.2.2.2.1, q2.2.2.2.2.2.2.1, q1.2.2.2.2.2.2.2.2.2.2.2.2.2.2.1, q2.2.2.2.2.2.2.2.1, q1.2.2.2.2.2.2.2.2.2.2.2.2.2.2.2.2.1, q1.2.2.2.2.2.2.2.2.2.2.2.2.2.2.2.2.2.1, q1.2.2.2.2.2.2.2.2.2.2.2.2.2.2.2.2.2.2) (g5.1, g5.2.1, g5.2.2.1, g5.2.2.2.1, g5.2.2.2.2.1, g5.2.2.2.2.2.1, g5.2.2.2.2.2.2.1, g5.2.2.2.2.2.2.2.1, q2.2.2.2.2.2.2.2.2.1, q2.2.2.2.2.2.2.2.2.2))))))
set_option maxHeartbeats 4000000 in
set_option maxRecDepth 20000 in
theorem cTrials_findSwapsrr {q : tyTrials × tyFair × tyRule} {x3 : Int32} (h : mTrials_findSwapsrr x3 g0 g1 g4 g5 = some q) : rMet l D Z (ty7 K) MTrials_findSwapsrr [.ref ((a0 0) 0), .ref (a1 0), .ref (a2 0), .int x3] (List.flatten [bTrialsG K (a0 0) ((a0 1) 0) ((a0 2) 0) ((a0 3) 0) g0, bFairG K (a0 1) g1, bOrderG K (a0 2) g2, bOrderG K (a0 3) g3, bFairG K a1 g4, bRuleG K a2 g5]) (List.flatten [bTrialsG K (a0 0) ((a0 1) 0) ((a0 2) 0) ((a0 3) 0) q.1, bFairG K (a0 1) q.2.1, bOrderG K (a0 2) g2, bOrderG K (a0 3) g3, bFairG K a1 g4, bRuleG K a2 q.2.2]) none := by
  refine rMet.of (by decide) rfl (Nat.le_of_ble_eq_true rfl) ?_
  refine r_sub (lv' := [(0, .ref ((a0 0) 0)), (1, .ref (a1 0)), (2, .ref (a2 0)), (3, .int x3)]) [0, 1, 2, 3] rfl ?_
  unfold mTrials_findSwapsrr at h
  refine r_aload_n 0 dX9_findSwaps_0 rfl ?_
  refine r_aload_n 1 dX9_findSwaps_1 rfl ?_
  obtain ⟨q1, h1, h⟩ := bd_some h
  refine b_callV (isC := [0, 1, 2, 3, 4]) (ci := 7)  (st := []) (bs1 := [bTrialsG K (a0 0) ((a0 1) 0) ((a0 2) 0) ((a0 3) 0) g0, bFairG K (a0 1) q1, bOrderG K (a0 2) g2, bOrderG K (a0 3) g3, bFairG K a1 g4, bRuleG K a2 g5]) (cTrials_from (a0 := a0) (a1 := a1) (g0 := g0) (g1 := g1) (g2 := g2) (g3 := g3) (g4 := g4) h1) rfl rfl (Nat.le_of_ble_eq_true rfl) kTrials_from (tb_in (i := 10) (j := 8) rfl rfl) (by decide) (by decide) rfl rfl rfl rfl rfl rfl rfl dX9_findSwaps_2 ?_
  refine r_aload_n 2 dX9_findSwaps_5 rfl ?_
  refine r_iload_n 3 dX9_findSwaps_6 rfl ?_
  refine r_iconst (x := (-1 : Int32)) dX9_findSwaps_7 (by decide) ?_
  obtain ⟨q2, h2, h⟩ := bd_some h
  refine b_callVN (isC := [1, 5]) (ci := 1)  (st := []) (bs1 := [bTrialsG K (a0 0) ((a0 1) 0) ((a0 2) 0) ((a0 3) 0) g0, bFair K (a0 1) q1.1 q1.2.1 q1.2.2.1 q1.2.2.2.1 q2.2.1 q2.2.2.1 q1.2.2.2.2.2.2.1 q1.2.2.2.2.2.2.2.1 q2.2.2.2.1 q2.2.2.2.2.1 q2.2.2.2.2.2.1 q1.2.2.2.2.2.2.2.2.2.2.2.1 q1.2.2.2.2.2.2.2.2.2.2.2.2.1 q2.2.2.2.2.2.2.1 q1.2.2.2.2.2.2.2.2.2.2.2.2.2.2.1 q2.2.2.2.2.2.2.2.1 q1.2.2.2.2.2.2.2.2.2.2.2.2.2.2.2.2.1 q1.2.2.2.2.2.2.2.2.2.2.2.2.2.2.2.2.2.1 q1.2.2.2.2.2.2.2.2.2.2.2.2.2.2.2.2.2.2, bOrderG K (a0 2) g2, bOrderG K (a0 3) g3, bFairG K a1 g4, bRule K a2 g5.1 g5.2.1 g5.2.2.1 g5.2.2.2.1 g5.2.2.2.2.1 g5.2.2.2.2.2.1 g5.2.2.2.2.2.2.1 g5.2.2.2.2.2.2.2.1 q2.2.2.2.2.2.2.2.2.1 q2.2.2.2.2.2.2.2.2.2]) (cFair_gor (a0 := (a0 1)) (a1 := a2) (z0_lasts := q1.1) (z0_keeps := q1.2.1) (z0_stalls := q1.2.2.1) (z0_buyers := q1.2.2.2.1) (z0_minute := q1.2.2.2.2.1) (z0_goods := q1.2.2.2.2.2.1) (z0_price := q1.2.2.2.2.2.2.1) (z0_tongue := q1.2.2.2.2.2.2.2.1) (z0_till := q1.2.2.2.2.2.2.2.2.1) (z0_wealth := q1.2.2.2.2.2.2.2.2.2.1) (z0_sold := q1.2.2.2.2.2.2.2.2.2.2.1) (z0_ring := q1.2.2.2.2.2.2.2.2.2.2.2.1) (z0_grudges := q1.2.2.2.2.2.2.2.2.2.2.2.2.1) (z0_purse := q1.2.2.2.2.2.2.2.2.2.2.2.2.2.1) (z0_came := q1.2.2.2.2.2.2.2.2.2.2.2.2.2.2.1) (z0_had := q1.2.2.2.2.2.2.2.2.2.2.2.2.2.2.2.1) (z0_seller := q1.2.2.2.2.2.2.2.2.2.2.2.2.2.2.2.2.1) (z0_praise := q1.2.2.2.2.2.2.2.2.2.2.2.2.2.2.2.2.2.1) (z0_borne := q1.2.2.2.2.2.2.2.2.2.2.2.2.2.2.2.2.2.2) (z1_steps := g5.1) (z1_size := g5.2.1) (z1_sumFrom := g5.2.2.1) (z1_testFrom := g5.2.2.2.1) (z1_testTo := g5.2.2.2.2.1) (z1_clauses := g5.2.2.2.2.2.1) (z1_parts := g5.2.2.2.2.2.2.1) (z1_readsTime := g5.2.2.2.2.2.2.2.1) (z1_words := g5.2.2.2.2.2.2.2.2.1) (z1_stack := g5.2.2.2.2.2.2.2.2.2) h2) rfl rfl (Nat.le_of_ble_eq_true rfl) kFair_gor (List.mem_of_getElem? (i := 57) rfl) (by decide) (by decide) rfl rfl rfl rfl rfl rfl rfl dX9_findSwaps_8 ?_
  refine r_pop dX9_findSwaps_11 rfl ?_
  refine r_aload_n 0 dX9_findSwaps_12 rfl ?_
  refine gTrials_fair 0 rfl (tb_in (i := 9) (j := 23) rfl rfl) dX9_findSwaps_13 ?_
  refine gFair_wealthN 1 rfl (List.mem_of_getElem? (i := 32) rfl) dX9_findSwaps_16 ?_
  refine r_iconst (x := (0 : Int32)) dX9_findSwaps_19 (by decide) ?_
  refine r_aload_n 0 dX9_findSwaps_20 rfl ?_
  refine gTrials_wealthBefore 0 rfl (tb_in (i := 9) (j := 29) rfl rfl) dX9_findSwaps_21 ?_
  refine r_iconst (x := (0 : Int32)) dX9_findSwaps_24 (by decide) ?_
  refine r_bipush (x := (6 : Int32)) dX9_findSwaps_25 (by decide) ?_
  obtain ⟨h3, h⟩ := rq_some h
  obtain ⟨u3, e3, h⟩ := lt_some h
  refine b_copy (bs1 := [bTrials K (a0 0) ((a0 1) 0) ((a0 2) 0) ((a0 3) 0) g0.1 u3 g0.2.2.1 g0.2.2.2.1 g0.2.2.2.2, bFair K (a0 1) q1.1 q1.2.1 q1.2.2.1 q1.2.2.2.1 q2.2.1 q2.2.2.1 q1.2.2.2.2.2.2.1 q1.2.2.2.2.2.2.2.1 q2.2.2.2.1 q2.2.2.2.2.1 q2.2.2.2.2.2.1 q1.2.2.2.2.2.2.2.2.2.2.2.1 q1.2.2.2.2.2.2.2.2.2.2.2.2.1 q2.2.2.2.2.2.2.1 q1.2.2.2.2.2.2.2.2.2.2.2.2.2.2.1 q2.2.2.2.2.2.2.2.1 q1.2.2.2.2.2.2.2.2.2.2.2.2.2.2.2.2.1 q1.2.2.2.2.2.2.2.2.2.2.2.2.2.2.2.2.2.1 q1.2.2.2.2.2.2.2.2.2.2.2.2.2.2.2.2.2.2, bOrderG K (a0 2) g2, bOrderG K (a0 3) g3, bFairG K a1 g4, bRule K a2 g5.1 g5.2.1 g5.2.2.1 g5.2.2.2.1 g5.2.2.2.2.1 g5.2.2.2.2.2.1 g5.2.2.2.2.2.2.1 g5.2.2.2.2.2.2.2.1 q2.2.2.2.2.2.2.2.2.1 q2.2.2.2.2.2.2.2.2.2]) (ty := .int) 1 5 0 2 1 e3 h3 (fun _ _ => rfl) rfl rfl rfl rfl rfl rfl rfl (tb_in (i := 11) (j := 3) rfl rfl) (tb_in (i := 0) (j := 11) rfl rfl) (tb_in (i := 0) (j := 12) rfl rfl) (tb_in (i := 0) (j := 13) rfl rfl) (by decide) (Nat.le_of_ble_eq_true rfl) dX9_findSwaps_27 ?_
  refine r_aload_n 0 dX9_findSwaps_30 rfl ?_
  refine r_iconst (x := (0 : Int32)) dX9_findSwaps_31 (by decide) ?_
  refine r_bipush (x := (-2 : Int32)) dX9_findSwaps_32 (by decide) ?_
  refine r_bipush (x := (-2 : Int32)) dX9_findSwaps_34 (by decide) ?_
  obtain ⟨q4, h4, h⟩ := bd_some h
  refine b_callV (isC := [0, 1, 2, 3]) (ci := 7)  (st := []) (bs1 := [bTrialsG K (a0 0) ((a0 1) 0) ((a0 2) 0) ((a0 3) 0) q4, bFair K (a0 1) q1.1 q1.2.1 q1.2.2.1 q1.2.2.2.1 q2.2.1 q2.2.2.1 q1.2.2.2.2.2.2.1 q1.2.2.2.2.2.2.2.1 q2.2.2.2.1 q2.2.2.2.2.1 q2.2.2.2.2.2.1 q1.2.2.2.2.2.2.2.2.2.2.2.1 q1.2.2.2.2.2.2.2.2.2.2.2.2.1 q2.2.2.2.2.2.2.1 q1.2.2.2.2.2.2.2.2.2.2.2.2.2.2.1 q2.2.2.2.2.2.2.2.1 q1.2.2.2.2.2.2.2.2.2.2.2.2.2.2.2.2.1 q1.2.2.2.2.2.2.2.2.2.2.2.2.2.2.2.2.2.1 q1.2.2.2.2.2.2.2.2.2.2.2.2.2.2.2.2.2.2, bOrderG K (a0 2) g2, bOrderG K (a0 3) g3, bFairG K a1 g4, bRule K a2 g5.1 g5.2.1 g5.2.2.1 g5.2.2.2.1 g5.2.2.2.2.1 g5.2.2.2.2.2.1 g5.2.2.2.2.2.2.1 g5.2.2.2.2.2.2.2.1 q2.2.2.2.2.2.2.2.2.1 q2.2.2.2.2.2.2.2.2.2]) (cTrials_find (a0 := a0) (g0 := (g0.1, u3, g0.2.2.1, g0.2.2.2.1, g0.2.2.2.2)) (g1 := (q1.1, q1.2.1, q1.2.2.1, q1.2.2.2.1, q2.2.1, q2.2.2.1, q1.2.2.2.2.2.2.1, q1.2.2.2.2.2.2.2.1, q2.2.2.2.1, q2.2.2.2.2.1, q2.2.2.2.2.2.1, q1.2.2.2.2.2.2.2.2.2.2.2.1, q1.2.2.2.2.2.2.2.2.2.2.2.2.1, q2.2.2.2.2.2.2.1, q1.2.2.2.2.2.2.2.2.2.2.2.2.2.2.1, q2.2.2.2.2.2.2.2.1, q1.2.2.2.2.2.2.2.2.2.2.2.2.2.2.2.2.1, q1.2.2.2.2.2.2.2.2.2.2.2.2.2.2.2.2.2.1, q1.2.2.2.2.2.2.2.2.2.2.2.2.2.2.2.2.2.2)) (g2 := g2) (g3 := g3) h4) rfl rfl (Nat.le_of_ble_eq_true rfl) kTrials_find (tb_in (i := 10) (j := 20) rfl rfl) (by decide) (by decide) rfl rfl rfl rfl rfl rfl rfl dX9_findSwaps_36 ?_
  refine r_iconst (x := (0 : Int32)) dX9_findSwaps_39 (by decide) ?_
  refine r_istore (lv' := [(4, .int (0 : Int32)), (0, .ref ((a0 0) 0)), (1, .ref (a1 0)), (2, .ref (a2 0)), (3, .int x3)]) dX9_findSwaps_40 (Nat.le_of_ble_eq_true rfl) rfl ?_
  refine r_sub (lv' := [(0, .ref ((a0 0) 0)), (1, .ref (a1 0)), (2, .ref (a2 0)), (3, .int x3), (4, .int (0 : Int32))]) [1, 2, 3, 4, 0] rfl ?_
  exact cTrials_findSwapsrr_l42 (g4 := g4)  FU (0 : Int32) q4 (q1.1, q1.2.1, q1.2.2.1, q1.2.2.2.1, q2.2.1, q2.2.2.1, q1.2.2.2.2.2.2.1, q1.2.2.2.2.2.2.2.1, q2.2.2.2.1, q2.2.2.2.2.1, q2.2.2.2.2.2.1, q1.2.2.2.2.2.2.2.2.2.2.2.1, q1.2.2.2.2.2.2.2.2.2.2.2.2.1, q2.2.2.2.2.2.2.1, q1.2.2.2.2.2.2.2.2.2.2.2.2.2.2.1, q2.2.2.2.2.2.2.2.1, q1.2.2.2.2.2.2.2.2.2.2.2.2.2.2.2.2.1, q1.2.2.2.2.2.2.2.2.2.2.2.2.2.2.2.2.2.1, q1.2.2.2.2.2.2.2.2.2.2.2.2.2.2.2.2.2.2) (g5.1, g5.2.1, g5.2.2.1, g5.2.2.2.1, g5.2.2.2.2.1, g5.2.2.2.2.2.1, g5.2.2.2.2.2.2.1, g5.2.2.2.2.2.2.2.1, q2.2.2.2.2.2.2.2.2.1, q2.2.2.2.2.2.2.2.2.2) h
end
abbrev MTrials_findSwapsrn : rx_M := (RX9, yX9_findSwaps, cX9_findSwaps, 6, none, 6)
theorem kTrials_findSwapsrn : rKv MTrials_findSwapsrn 3 := ⟨tb_in (i := 15) (j := 24) rfl rfl, tb_in (i := 15) (j := 25) rfl rfl, tb_in (i := 10) (j := 11) rfl rfl, tb_in (i := 11) (j := 6) rfl rfl, ⟨by decide, by decide, by decide +kernel⟩, by decide⟩
section
variable {a0 : Nat → Nat → Nat} {a1 : Nat → Nat} {g0 : tyTrials} {g1 : tyFair} {g2 : tyOrder} {g3 : tyOrder} {g4 : tyFair}
def mTrials_findSwapsrn_l57 (g4 : tyFair) (x3 : Int32) (x4 : Int32) (k42 : Int32 → tyTrials → tyFair → Option (tyTrials × tyFair)) : Nat → Int32 → tyTrials → tyFair → Option (tyTrials × tyFair)
  | 0, _, _, _ => none
  | n + 1, x5, g0, g1 => (if g4.2.2.1 ≤ x5 then k42 (x4 + (1 : Int32)) g0 g1 else (mTrials_from g1 g4).bind (fun q8 => (mFair_swapPlaces x4 x5 q8.2.2.1 q8.2.2.2.2.2.2.2.1 q8.2.2.2.2.2.2.2.2.2.2.2.1 q8.2.2.2.2.2.2.2.2.2.2.2.2.1 q8.2.2.2.2.2.2.2.2.2.2.2.2.2.2.2.2.1 q8.2.2.2.2.2.2.2.2.2.2.2.2.2.2.2.2.2.1 q8.2.2.2.2.2.2.2.2.2.2.2.2.2.2.2.2.2.2).bind (fun q9 => (mFair_gon x3 (-1 : Int32) q8.1 q8.2.1 q8.2.2.1 q8.2.2.2.1 q8.2.2.2.2.1 q8.2.2.2.2.2.1 q8.2.2.2.2.2.2.1 q8.2.2.2.2.2.2.2.2.1 q8.2.2.2.2.2.2.2.2.2.1 q8.2.2.2.2.2.2.2.2.2.2.1 q8.2.2.2.2.2.2.2.2.2.2.2.2.2.1 q8.2.2.2.2.2.2.2.2.2.2.2.2.2.2.1 q8.2.2.2.2.2.2.2.2.2.2.2.2.2.2.2.1 q9.2.1 q9.2.2.1).bind (fun q10 => rq (inb x4 6) (rq (inb x4 6) ((if (q10.2.2.2.2.1 x4.toNatClampNeg) ≤ (g0.2.1 x4.toNatClampNeg) then mTrials_findSwapsrn_l57 g4 x3 x4 k42 n (x5 + (1 : Int32)) g0 (q8.1, q8.2.1, q8.2.2.1, q8.2.2.2.1, q10.2.1, q10.2.2.1, q8.2.2.2.2.2.2.1, q8.2.2.2.2.2.2.2.1, q10.2.2.2.1, q10.2.2.2.2.1, q10.2.2.2.2.2.1, q9.1, q8.2.2.2.2.2.2.2.2.2.2.2.2.1, q10.2.2.2.2.2.2.1, q8.2.2.2.2.2.2.2.2.2.2.2.2.2.2.1, q10.2.2.2.2.2.2.2, q9.2.1, q9.2.2.1, q9.2.2.2) else rq (inb x5 6) (rq (inb x5 6) ((if (g0.2.1 x5.toNatClampNeg) < (q10.2.2.2.2.1 x5.toNatClampNeg) then rq (inb (0 : Int32) 3) ((if (g0.1 (0 : Int32).toNatClampNeg) = 0 then (mTrials_find (0 : Int32) x4 x5 g0).bind (fun q21 => rq (inb (0 : Int32) 3) (rq (inb (0 : Int32) 3) (lt (upd q21.1 (0 : Int32).toNatClampNeg ((q21.1 (0 : Int32).toNatClampNeg) + (1 : Int32))) (fun u23 => mTrials_findSwapsrn_l57 g4 x3 x4 k42 n (x5 + (1 : Int32)) (u23, q21.2.1, q21.2.2.1, q21.2.2.2.1, q21.2.2.2.2) (q8.1, q8.2.1, q8.2.2.1, q8.2.2.2.1, q10.2.1, q10.2.2.1, q8.2.2.2.2.2.2.1, q8.2.2.2.2.2.2.2.1, q10.2.2.2.1, q10.2.2.2.2.1, q10.2.2.2.2.2.1, q9.1, q8.2.2.2.2.2.2.2.2.2.2.2.2.1, q10.2.2.2.2.2.2.1, q8.2.2.2.2.2.2.2.2.2.2.2.2.2.2.1, q10.2.2.2.2.2.2.2, q9.2.1, q9.2.2.1, q9.2.2.2))))) else rq (inb (0 : Int32) 3) (rq (inb (0 : Int32) 3) (lt (upd g0.1 (0 : Int32).toNatClampNeg ((g0.1 (0 : Int32).toNatClampNeg) + (1 : Int32))) (fun u20 => mTrials_findSwapsrn_l57 g4 x3 x4 k42 n (x5 + (1 : Int32)) (u20, g0.2.1, g0.2.2.1, g0.2.2.2.1, g0.2.2.2.2) (q8.1, q8.2.1, q8.2.2.1, q8.2.2.2.1, q10.2.1, q10.2.2.1, q8.2.2.2.2.2.2.1, q8.2.2.2.2.2.2.2.1, q10.2.2.2.1, q10.2.2.2.2.1, q10.2.2.2.2.2.1, q9.1, q8.2.2.2.2.2.2.2.2.2.2.2.2.1, q10.2.2.2.2.2.2.1, q8.2.2.2.2.2.2.2.2.2.2.2.2.2.2.1, q10.2.2.2.2.2.2.2, q9.2.1, q9.2.2.1, q9.2.2.2)))))) else mTrials_findSwapsrn_l57 g4 x3 x4 k42 n (x5 + (1 : Int32)) g0 (q8.1, q8.2.1, q8.2.2.1, q8.2.2.2.1, q10.2.1, q10.2.2.1, q8.2.2.2.2.2.2.1, q8.2.2.2.2.2.2.2.1, q10.2.2.2.1, q10.2.2.2.2.1, q10.2.2.2.2.2.1, q9.1, q8.2.2.2.2.2.2.2.2.2.2.2.2.1, q10.2.2.2.2.2.2.1, q8.2.2.2.2.2.2.2.2.2.2.2.2.2.2.1, q10.2.2.2.2.2.2.2, q9.2.1, q9.2.2.1, q9.2.2.2)))))))))))
set_option maxHeartbeats 4000000 in
set_option maxRecDepth 20000 in
theorem cTrials_findSwapsrn_l57 {q : tyTrials × tyFair} {x3 : Int32} {x4 : Int32} {k42 : Int32 → tyTrials → tyFair → Option (tyTrials × tyFair)} (hk42 : ∀ (x4 : Int32) (g0 : tyTrials) (g1 : tyFair), k42 x4 g0 g1 = some q → rW l D Z (ty7 K) MTrials_findSwapsrn 42 [(0, .ref ((a0 0) 0)), (1, .ref (a1 0)), (2, .null), (3, .int x3), (4, .int x4)] [] (List.flatten [bTrialsG K (a0 0) ((a0 1) 0) ((a0 2) 0) ((a0 3) 0) g0, bFairG K (a0 1) g1, bOrderG K (a0 2) g2, bOrderG K (a0 3) g3, bFairG K a1 g4]) (List.flatten [bTrialsG K (a0 0) ((a0 1) 0) ((a0 2) 0) ((a0 3) 0) q.1, bFairG K (a0 1) q.2, bOrderG K (a0 2) g2, bOrderG K (a0 3) g3, bFairG K a1 g4]) none) : ∀ (n : Nat) (x5 : Int32) (g0 : tyTrials) (g1 : tyFair), mTrials_findSwapsrn_l57 g4 x3 x4 k42 n x5 g0 g1 = some q → rW l D Z (ty7 K) MTrials_findSwapsrn 57 [(0, .ref ((a0 0) 0)), (1, .ref (a1 0)), (2, .null), (3, .int x3), (4, .int x4), (5, .int x5)] [] (List.flatten [bTrialsG K (a0 0) ((a0 1) 0) ((a0 2) 0) ((a0 3) 0) g0, bFairG K (a0 1) g1, bOrderG K (a0 2) g2, bOrderG K (a0 3) g3, bFairG K a1 g4]) (List.flatten [bTrialsG K (a0 0) ((a0 1) 0) ((a0 2) 0) ((a0 3) 0) q.1, bFairG K (a0 1) q.2, bOrderG K (a0 2) g2, bOrderG K (a0 3) g3, bFairG K a1 g4]) none := by
  intro n
  induction n with
  | zero => intro x5 g0 g1 h; unfold mTrials_findSwapsrn_l57 at h; cases h
  | succ n ih =>
    intro x5 g0 g1 h
    unfold mTrials_findSwapsrn_l57 at h
    refine r_iload 5 dX9_findSwaps_57 rfl ?_
    refine r_aload_n 1 dX9_findSwaps_59 rfl ?_
    refine gFair_stallsN 4 rfl (List.mem_of_getElem? (i := 16) rfl) dX9_findSwaps_60 ?_
    refine r_icmp_ge 166 dX9_findSwaps_63 (by decide) (fun c7 => ?_) (fun c7 => ?_)
    · replace h := it_pos c7 h
      refine r_iinc (y := (x4 + (1 : Int32))) (lv' := [(4, .int (x4 + (1 : Int32))), (0, .ref ((a0 0) 0)), (1, .ref (a1 0)), (2, .null), (3, .int x3), (5, .int x5)]) 4 dX9_findSwaps_166 rfl rfl (Nat.le_of_ble_eq_true rfl) rfl ?_
      refine r_goto 42 dX9_findSwaps_169 (by decide) ?_
      refine r_sub (lv' := [(0, .ref ((a0 0) 0)), (1, .ref (a1 0)), (2, .null), (3, .int x3), (4, .int (x4 + (1 : Int32)))]) [1, 2, 3, 4, 0] rfl ?_
      exact hk42 (x4 + (1 : Int32)) g0 g1 h
    · replace h := it_neg c7 h
      refine r_aload_n 0 dX9_findSwaps_66 rfl ?_
      refine r_aload_n 1 dX9_findSwaps_67 rfl ?_
      obtain ⟨q8, h8, h⟩ := bd_some h
      refine b_callV (isC := [0, 1, 2, 3, 4]) (ci := 7)  (st := []) (bs1 := [bTrialsG K (a0 0) ((a0 1) 0) ((a0 2) 0) ((a0 3) 0) g0, bFairG K (a0 1) q8, bOrderG K (a0 2) g2, bOrderG K (a0 3) g3, bFairG K a1 g4]) (cTrials_from (a0 := a0) (a1 := a1) (g0 := g0) (g1 := g1) (g2 := g2) (g3 := g3) (g4 := g4) h8) rfl rfl (Nat.le_of_ble_eq_true rfl) kTrials_from (tb_in (i := 10) (j := 8) rfl rfl) (by decide) (by decide) rfl rfl rfl rfl rfl rfl rfl dX9_findSwaps_68 ?_
      refine r_iload 4 dX9_findSwaps_71 rfl ?_
      refine r_iload 5 dX9_findSwaps_73 rfl ?_
      obtain ⟨q9, h9, h⟩ := bd_some h
      refine b_callVN (isC := [1]) (ci := 1)  (st := []) (bs1 := [bTrialsG K (a0 0) ((a0 1) 0) ((a0 2) 0) ((a0 3) 0) g0, bFair K (a0 1) q8.1 q8.2.1 q8.2.2.1 q8.2.2.2.1 q8.2.2.2.2.1 q8.2.2.2.2.2.1 q8.2.2.2.2.2.2.1 q8.2.2.2.2.2.2.2.1 q8.2.2.2.2.2.2.2.2.1 q8.2.2.2.2.2.2.2.2.2.1 q8.2.2.2.2.2.2.2.2.2.2.1 q9.1 q8.2.2.2.2.2.2.2.2.2.2.2.2.1 q8.2.2.2.2.2.2.2.2.2.2.2.2.2.1 q8.2.2.2.2.2.2.2.2.2.2.2.2.2.2.1 q8.2.2.2.2.2.2.2.2.2.2.2.2.2.2.2.1 q9.2.1 q9.2.2.1 q9.2.2.2, bOrderG K (a0 2) g2, bOrderG K (a0 3) g3, bFairG K a1 g4]) (cFair_swapPlaces (a0 := (a0 1)) (z0_lasts := q8.1) (z0_keeps := q8.2.1) (z0_stalls := q8.2.2.1) (z0_buyers := q8.2.2.2.1) (z0_minute := q8.2.2.2.2.1) (z0_goods := q8.2.2.2.2.2.1) (z0_price := q8.2.2.2.2.2.2.1) (z0_tongue := q8.2.2.2.2.2.2.2.1) (z0_till := q8.2.2.2.2.2.2.2.2.1) (z0_wealth := q8.2.2.2.2.2.2.2.2.2.1) (z0_sold := q8.2.2.2.2.2.2.2.2.2.2.1) (z0_ring := q8.2.2.2.2.2.2.2.2.2.2.2.1) (z0_grudges := q8.2.2.2.2.2.2.2.2.2.2.2.2.1) (z0_purse := q8.2.2.2.2.2.2.2.2.2.2.2.2.2.1) (z0_came := q8.2.2.2.2.2.2.2.2.2.2.2.2.2.2.1) (z0_had := q8.2.2.2.2.2.2.2.2.2.2.2.2.2.2.2.1) (z0_seller := q8.2.2.2.2.2.2.2.2.2.2.2.2.2.2.2.2.1) (z0_praise := q8.2.2.2.2.2.2.2.2.2.2.2.2.2.2.2.2.2.1) (z0_borne := q8.2.2.2.2.2.2.2.2.2.2.2.2.2.2.2.2.2.2) h9) rfl rfl (Nat.le_of_ble_eq_true rfl) kFair_swapPlaces (List.mem_of_getElem? (i := 72) rfl) (by decide) (by decide) rfl rfl rfl rfl rfl rfl rfl dX9_findSwaps_75 ?_
      refine r_aload_n 0 dX9_findSwaps_78 rfl ?_
      refine gTrials_fair 0 rfl (tb_in (i := 9) (j := 23) rfl rfl) dX9_findSwaps_79 ?_
      refine r_aload_nN 2 dX9_findSwaps_82 rfl ?_
      refine r_iload_n 3 dX9_findSwaps_83 rfl ?_
      refine r_iconst (x := (-1 : Int32)) dX9_findSwaps_84 (by decide) ?_
      obtain ⟨q10, h10, h⟩ := bd_some h
      refine b_callVN (isC := [1]) (ci := 1)  (st := []) (bs1 := [bTrialsG K (a0 0) ((a0 1) 0) ((a0 2) 0) ((a0 3) 0) g0, bFair K (a0 1) q8.1 q8.2.1 q8.2.2.1 q8.2.2.2.1 q10.2.1 q10.2.2.1 q8.2.2.2.2.2.2.1 q8.2.2.2.2.2.2.2.1 q10.2.2.2.1 q10.2.2.2.2.1 q10.2.2.2.2.2.1 q9.1 q8.2.2.2.2.2.2.2.2.2.2.2.2.1 q10.2.2.2.2.2.2.1 q8.2.2.2.2.2.2.2.2.2.2.2.2.2.2.1 q10.2.2.2.2.2.2.2 q9.2.1 q9.2.2.1 q9.2.2.2, bOrderG K (a0 2) g2, bOrderG K (a0 3) g3, bFairG K a1 g4]) (cFair_gon (a0 := (a0 1)) (z0_lasts := q8.1) (z0_keeps := q8.2.1) (z0_stalls := q8.2.2.1) (z0_buyers := q8.2.2.2.1) (z0_minute := q8.2.2.2.2.1) (z0_goods := q8.2.2.2.2.2.1) (z0_price := q8.2.2.2.2.2.2.1) (z0_tongue := q8.2.2.2.2.2.2.2.1) (z0_till := q8.2.2.2.2.2.2.2.2.1) (z0_wealth := q8.2.2.2.2.2.2.2.2.2.1) (z0_sold := q8.2.2.2.2.2.2.2.2.2.2.1) (z0_ring := q9.1) (z0_grudges := q8.2.2.2.2.2.2.2.2.2.2.2.2.1) (z0_purse := q8.2.2.2.2.2.2.2.2.2.2.2.2.2.1) (z0_came := q8.2.2.2.2.2.2.2.2.2.2.2.2.2.2.1) (z0_had := q8.2.2.2.2.2.2.2.2.2.2.2.2.2.2.2.1) (z0_seller := q9.2.1) (z0_praise := q9.2.2.1) (z0_borne := q9.2.2.2) h10) rfl rfl (Nat.le_of_ble_eq_true rfl) kFair_gon (List.mem_of_getElem? (i := 57) rfl) (by decide) (by decide) rfl rfl rfl rfl rfl rfl rfl dX9_findSwaps_85 ?_
      refine r_pop dX9_findSwaps_88 rfl ?_
      refine r_aload_n 0 dX9_findSwaps_89 rfl ?_
      refine gTrials_fair 0 rfl (tb_in (i := 9) (j := 23) rfl rfl) dX9_findSwaps_90 ?_
      refine gFair_wealthN 1 rfl (List.mem_of_getElem? (i := 32) rfl) dX9_findSwaps_93 ?_
      refine r_iload 4 dX9_findSwaps_96 rfl ?_
      obtain ⟨h11, h⟩ := rq_some h
      refine lFair_wealth 1 rfl (inb_in h11) dX9_findSwaps_98 ?_
      refine r_aload_n 0 dX9_findSwaps_99 rfl ?_
      refine gTrials_wealthBefore 0 rfl (tb_in (i := 9) (j := 29) rfl rfl) dX9_findSwaps_100 ?_
      refine r_iload 4 dX9_findSwaps_103 rfl ?_
      obtain ⟨h12, h⟩ := rq_some h
      refine lTrials_wealthBefore 0 rfl (inb_in h12) dX9_findSwaps_105 ?_
      refine r_icmp_le 160 dX9_findSwaps_106 (by decide) (fun c13 => ?_) (fun c13 => ?_)
      · replace h := it_pos c13 h
        refine r_iinc (y := (x5 + (1 : Int32))) (lv' := [(5, .int (x5 + (1 : Int32))), (0, .ref ((a0 0) 0)), (1, .ref (a1 0)), (2, .null), (3, .int x3), (4, .int x4)]) 5 dX9_findSwaps_160 rfl rfl (Nat.le_of_ble_eq_true rfl) rfl ?_
        refine r_goto 57 dX9_findSwaps_163 (by decide) ?_
        refine r_sub (lv' := [(0, .ref ((a0 0) 0)), (1, .ref (a1 0)), (2, .null), (3, .int x3), (4, .int x4), (5, .int (x5 + (1 : Int32)))]) [1, 2, 3, 4, 5, 0] rfl ?_
        exact ih (x5 + (1 : Int32)) g0 (q8.1, q8.2.1, q8.2.2.1, q8.2.2.2.1, q10.2.1, q10.2.2.1, q8.2.2.2.2.2.2.1, q8.2.2.2.2.2.2.2.1, q10.2.2.2.1, q10.2.2.2.2.1, q10.2.2.2.2.2.1, q9.1, q8.2.2.2.2.2.2.2.2.2.2.2.2.1, q10.2.2.2.2.2.2.1, q8.2.2.2.2.2.2.2.2.2.2.2.2.2.2.1, q10.2.2.2.2.2.2.2, q9.2.1, q9.2.2.1, q9.2.2.2) h
      · replace h := it_neg c13 h
        refine r_aload_n 0 dX9_findSwaps_109 rfl ?_
        refine gTrials_fair 0 rfl (tb_in (i := 9) (j := 23) rfl rfl) dX9_findSwaps_110 ?_
        refine gFair_wealthN 1 rfl (List.mem_of_getElem? (i := 32) rfl) dX9_findSwaps_113 ?_
        refine r_iload 5 dX9_findSwaps_116 rfl ?_
        obtain ⟨h14, h⟩ := rq_some h
        refine lFair_wealth 1 rfl (inb_in h14) dX9_findSwaps_118 ?_
        refine r_aload_n 0 dX9_findSwaps_119 rfl ?_
        refine gTrials_wealthBefore 0 rfl (tb_in (i := 9) (j := 29) rfl rfl) dX9_findSwaps_120 ?_
        refine r_iload 5 dX9_findSwaps_123 rfl ?_
        obtain ⟨h15, h⟩ := rq_some h
        refine lTrials_wealthBefore 0 rfl (inb_in h15) dX9_findSwaps_125 ?_
        refine r_icmp_gt 132 dX9_findSwaps_126 (by decide) (fun c16 => ?_) (fun c16 => ?_)
        · replace h := it_pos c16 h
          refine r_aload_n 0 dX9_findSwaps_132 rfl ?_
          refine gTrials_found 0 rfl (tb_in (i := 9) (j := 28) rfl rfl) dX9_findSwaps_133 ?_
          refine r_iconst (x := (0 : Int32)) dX9_findSwaps_136 (by decide) ?_
          obtain ⟨h17, h⟩ := rq_some h
          refine lTrials_found 0 rfl (inb_in h17) dX9_findSwaps_137 ?_
          refine r_if_ne 150 dX9_findSwaps_138 (by decide) (fun c18 => ?_) (fun c18 => ?_)
          · replace h := it_neg c18 h
            refine r_aload_n 0 dX9_findSwaps_150 rfl ?_
            refine gTrials_found 0 rfl (tb_in (i := 9) (j := 28) rfl rfl) dX9_findSwaps_151 ?_
            refine r_iconst (x := (0 : Int32)) dX9_findSwaps_154 (by decide) ?_
            refine r_dup2 dX9_findSwaps_155 rfl rfl ?_
            obtain ⟨h19, h⟩ := rq_some h
            refine lTrials_found 0 rfl (inb_in h19) dX9_findSwaps_156 ?_
            refine r_iconst (x := (1 : Int32)) dX9_findSwaps_157 (by decide) ?_
            refine r_iadd dX9_findSwaps_158 ?_
            obtain ⟨h20, h⟩ := rq_some h
            obtain ⟨u20, e20, h⟩ := lt_some h
            refine sTrials_found (bs1 := [bTrials K (a0 0) ((a0 1) 0) ((a0 2) 0) ((a0 3) 0) u20 g0.2.1 g0.2.2.1 g0.2.2.2.1 g0.2.2.2.2, bFair K (a0 1) q8.1 q8.2.1 q8.2.2.1 q8.2.2.2.1 q10.2.1 q10.2.2.1 q8.2.2.2.2.2.2.1 q8.2.2.2.2.2.2.2.1 q10.2.2.2.1 q10.2.2.2.2.1 q10.2.2.2.2.2.1 q9.1 q8.2.2.2.2.2.2.2.2.2.2.2.2.1 q10.2.2.2.2.2.2.1 q8.2.2.2.2.2.2.2.2.2.2.2.2.2.2.1 q10.2.2.2.2.2.2.2 q9.2.1 q9.2.2.1 q9.2.2.2, bOrderG K (a0 2) g2, bOrderG K (a0 3) g3, bFairG K a1 g4]) 0 e20 rfl (inb_in h20) rfl dX9_findSwaps_159 ?_
            refine r_iinc (y := (x5 + (1 : Int32))) (lv' := [(5, .int (x5 + (1 : Int32))), (0, .ref ((a0 0) 0)), (1, .ref (a1 0)), (2, .null), (3, .int x3), (4, .int x4)]) 5 dX9_findSwaps_160 rfl rfl (Nat.le_of_ble_eq_true rfl) rfl ?_
            refine r_goto 57 dX9_findSwaps_163 (by decide) ?_
            refine r_sub (lv' := [(0, .ref ((a0 0) 0)), (1, .ref (a1 0)), (2, .null), (3, .int x3), (4, .int x4), (5, .int (x5 + (1 : Int32)))]) [1, 2, 3, 4, 5, 0] rfl ?_
            exact ih (x5 + (1 : Int32)) (u20, g0.2.1, g0.2.2.1, g0.2.2.2.1, g0.2.2.2.2) (q8.1, q8.2.1, q8.2.2.1, q8.2.2.2.1, q10.2.1, q10.2.2.1, q8.2.2.2.2.2.2.1, q8.2.2.2.2.2.2.2.1, q10.2.2.2.1, q10.2.2.2.2.1, q10.2.2.2.2.2.1, q9.1, q8.2.2.2.2.2.2.2.2.2.2.2.2.1, q10.2.2.2.2.2.2.1, q8.2.2.2.2.2.2.2.2.2.2.2.2.2.2.1, q10.2.2.2.2.2.2.2, q9.2.1, q9.2.2.1, q9.2.2.2) h
          · replace h := it_pos c18 h
            refine r_aload_n 0 dX9_findSwaps_141 rfl ?_
            refine r_iconst (x := (0 : Int32)) dX9_findSwaps_142 (by decide) ?_
            refine r_iload 4 dX9_findSwaps_143 rfl ?_
            refine r_iload 5 dX9_findSwaps_145 rfl ?_
            obtain ⟨q21, h21, h⟩ := bd_some h
            refine b_callV (isC := [0, 1, 2, 3]) (ci := 7)  (st := []) (bs1 := [bTrialsG K (a0 0) ((a0 1) 0) ((a0 2) 0) ((a0 3) 0) q21, bFair K (a0 1) q8.1 q8.2.1 q8.2.2.1 q8.2.2.2.1 q10.2.1 q10.2.2.1 q8.2.2.2.2.2.2.1 q8.2.2.2.2.2.2.2.1 q10.2.2.2.1 q10.2.2.2.2.1 q10.2.2.2.2.2.1 q9.1 q8.2.2.2.2.2.2.2.2.2.2.2.2.1 q10.2.2.2.2.2.2.1 q8.2.2.2.2.2.2.2.2.2.2.2.2.2.2.1 q10.2.2.2.2.2.2.2 q9.2.1 q9.2.2.1 q9.2.2.2, bOrderG K (a0 2) g2, bOrderG K (a0 3) g3, bFairG K a1 g4]) (cTrials_find (a0 := a0) (g0 := g0) (g1 := (q8.1, q8.2.1, q8.2.2.1, q8.2.2.2.1, q10.2.1, q10.2.2.1, q8.2.2.2.2.2.2.1, q8.2.2.2.2.2.2.2.1, q10.2.2.2.1, q10.2.2.2.2.1, q10.2.2.2.2.2.1, q9.1, q8.2.2.2.2.2.2.2.2.2.2.2.2.1, q10.2.2.2.2.2.2.1, q8.2.2.2.2.2.2.2.2.2.2.2.2.2.2.1, q10.2.2.2.2.2.2.2, q9.2.1, q9.2.2.1, q9.2.2.2)) (g2 := g2) (g3 := g3) h21) rfl rfl (Nat.le_of_ble_eq_true rfl) kTrials_find (tb_in (i := 10) (j := 20) rfl rfl) (by decide) (by decide) rfl rfl rfl rfl rfl rfl rfl dX9_findSwaps_147 ?_
            refine r_aload_n 0 dX9_findSwaps_150 rfl ?_
            refine gTrials_found 0 rfl (tb_in (i := 9) (j := 28) rfl rfl) dX9_findSwaps_151 ?_
            refine r_iconst (x := (0 : Int32)) dX9_findSwaps_154 (by decide) ?_
            refine r_dup2 dX9_findSwaps_155 rfl rfl ?_
            obtain ⟨h22, h⟩ := rq_some h
            refine lTrials_found 0 rfl (inb_in h22) dX9_findSwaps_156 ?_
            refine r_iconst (x := (1 : Int32)) dX9_findSwaps_157 (by decide) ?_
            refine r_iadd dX9_findSwaps_158 ?_
            obtain ⟨h23, h⟩ := rq_some h
            obtain ⟨u23, e23, h⟩ := lt_some h
            refine sTrials_found (bs1 := [bTrials K (a0 0) ((a0 1) 0) ((a0 2) 0) ((a0 3) 0) u23 q21.2.1 q21.2.2.1 q21.2.2.2.1 q21.2.2.2.2, bFair K (a0 1) q8.1 q8.2.1 q8.2.2.1 q8.2.2.2.1 q10.2.1 q10.2.2.1 q8.2.2.2.2.2.2.1 q8.2.2.2.2.2.2.2.1 q10.2.2.2.1 q10.2.2.2.2.1 q10.2.2.2.2.2.1 q9.1 q8.2.2.2.2.2.2.2.2.2.2.2.2.1 q10.2.2.2.2.2.2.1 q8.2.2.2.2.2.2.2.2.2.2.2.2.2.2.1 q10.2.2.2.2.2.2.2 q9.2.1 q9.2.2.1 q9.2.2.2, bOrderG K (a0 2) g2, bOrderG K (a0 3) g3, bFairG K a1 g4]) 0 e23 rfl (inb_in h23) rfl dX9_findSwaps_159 ?_
            refine r_iinc (y := (x5 + (1 : Int32))) (lv' := [(5, .int (x5 + (1 : Int32))), (0, .ref ((a0 0) 0)), (1, .ref (a1 0)), (2, .null), (3, .int x3), (4, .int x4)]) 5 dX9_findSwaps_160 rfl rfl (Nat.le_of_ble_eq_true rfl) rfl ?_
            refine r_goto 57 dX9_findSwaps_163 (by decide) ?_
            refine r_sub (lv' := [(0, .ref ((a0 0) 0)), (1, .ref (a1 0)), (2, .null), (3, .int x3), (4, .int x4), (5, .int (x5 + (1 : Int32)))]) [1, 2, 3, 4, 5, 0] rfl ?_
            exact ih (x5 + (1 : Int32)) (u23, q21.2.1, q21.2.2.1, q21.2.2.2.1, q21.2.2.2.2) (q8.1, q8.2.1, q8.2.2.1, q8.2.2.2.1, q10.2.1, q10.2.2.1, q8.2.2.2.2.2.2.1, q8.2.2.2.2.2.2.2.1, q10.2.2.2.1, q10.2.2.2.2.1, q10.2.2.2.2.2.1, q9.1, q8.2.2.2.2.2.2.2.2.2.2.2.2.1, q10.2.2.2.2.2.2.1, q8.2.2.2.2.2.2.2.2.2.2.2.2.2.2.1, q10.2.2.2.2.2.2.2, q9.2.1, q9.2.2.1, q9.2.2.2) h
        · replace h := it_neg c16 h
          refine r_goto 160 dX9_findSwaps_129 (by decide) ?_
          refine r_iinc (y := (x5 + (1 : Int32))) (lv' := [(5, .int (x5 + (1 : Int32))), (0, .ref ((a0 0) 0)), (1, .ref (a1 0)), (2, .null), (3, .int x3), (4, .int x4)]) 5 dX9_findSwaps_160 rfl rfl (Nat.le_of_ble_eq_true rfl) rfl ?_
          refine r_goto 57 dX9_findSwaps_163 (by decide) ?_
          refine r_sub (lv' := [(0, .ref ((a0 0) 0)), (1, .ref (a1 0)), (2, .null), (3, .int x3), (4, .int x4), (5, .int (x5 + (1 : Int32)))]) [1, 2, 3, 4, 5, 0] rfl ?_
          exact ih (x5 + (1 : Int32)) g0 (q8.1, q8.2.1, q8.2.2.1, q8.2.2.2.1, q10.2.1, q10.2.2.1, q8.2.2.2.2.2.2.1, q8.2.2.2.2.2.2.2.1, q10.2.2.2.1, q10.2.2.2.2.1, q10.2.2.2.2.2.1, q9.1, q8.2.2.2.2.2.2.2.2.2.2.2.2.1, q10.2.2.2.2.2.2.1, q8.2.2.2.2.2.2.2.2.2.2.2.2.2.2.1, q10.2.2.2.2.2.2.2, q9.2.1, q9.2.2.1, q9.2.2.2) h
def mTrials_findSwapsrn_l42 (g4 : tyFair) (x3 : Int32) : Nat → Int32 → tyTrials → tyFair → Option (tyTrials × tyFair)
  | 0, _, _, _ => none
  | n + 1, x4, g0, g1 => (if g4.2.2.1 ≤ x4 then some (g0, g1) else lt (x4 + (1 : Int32)) (fun y6 => mTrials_findSwapsrn_l57 g4 x3 x4 (mTrials_findSwapsrn_l42 g4 x3 n) FU y6 g0 g1))
set_option maxHeartbeats 4000000 in
set_option maxRecDepth 20000 in
theorem cTrials_findSwapsrn_l42 {q : tyTrials × tyFair} {x3 : Int32}  : ∀ (n : Nat) (x4 : Int32) (g0 : tyTrials) (g1 : tyFair), mTrials_findSwapsrn_l42 g4 x3 n x4 g0 g1 = some q → rW l D Z (ty7 K) MTrials_findSwapsrn 42 [(0, .ref ((a0 0) 0)), (1, .ref (a1 0)), (2, .null), (3, .int x3), (4, .int x4)] [] (List.flatten [bTrialsG K (a0 0) ((a0 1) 0) ((a0 2) 0) ((a0 3) 0) g0, bFairG K (a0 1) g1, bOrderG K (a0 2) g2, bOrderG K (a0 3) g3, bFairG K a1 g4]) (List.flatten [bTrialsG K (a0 0) ((a0 1) 0) ((a0 2) 0) ((a0 3) 0) q.1, bFairG K (a0 1) q.2, bOrderG K (a0 2) g2, bOrderG K (a0 3) g3, bFairG K a1 g4]) none := by
  intro n
  induction n with
  | zero => intro x4 g0 g1 h; unfold mTrials_findSwapsrn_l42 at h; cases h
  | succ n ih =>
    intro x4 g0 g1 h
    unfold mTrials_findSwapsrn_l42 at h
    refine r_iload 4 dX9_findSwaps_42 rfl ?_
    refine r_aload_n 1 dX9_findSwaps_44 rfl ?_
    refine gFair_stallsN 4 rfl (List.mem_of_getElem? (i := 16) rfl) dX9_findSwaps_45 ?_
    refine r_icmp_ge 172 dX9_findSwaps_48 (by decide) (fun c5 => ?_) (fun c5 => ?_)
    · replace h := it_pos c5 h
      have hq := Option.some.inj h
      subst hq
      exact r_vret rfl dX9_findSwaps_172
    · replace h := it_neg c5 h
      refine r_iload 4 dX9_findSwaps_51 rfl ?_
      refine r_iconst (x := (1 : Int32)) dX9_findSwaps_53 (by decide) ?_
      refine r_iadd dX9_findSwaps_54 ?_
      obtain ⟨y6, e6, h⟩ := lt_some h
      refine r_top e6 ?_
      refine r_istore (lv' := [(5, .int y6), (0, .ref ((a0 0) 0)), (1, .ref (a1 0)), (2, .null), (3, .int x3), (4, .int x4)]) dX9_findSwaps_55 (Nat.le_of_ble_eq_true rfl) rfl ?_
      refine r_sub (lv' := [(0, .ref ((a0 0) 0)), (1, .ref (a1 0)), (2, .null), (3, .int x3), (4, .int x4), (5, .int y6)]) [1, 2, 3, 4, 5, 0] rfl ?_
      exact cTrials_findSwapsrn_l57 (g4 := g4) (ih) FU y6 g0 g1 h
def mTrials_findSwapsrn (x3 : Int32) (g0 : tyTrials) (g1 : tyFair) (g4 : tyFair) : Option (tyTrials × tyFair) := (mTrials_from g1 g4).bind (fun q1 => (mFair_gon x3 (-1 : Int32) q1.1 q1.2.1 q1.2.2.1 q1.2.2.2.1 q1.2.2.2.2.1 q1.2.2.2.2.2.1 q1.2.2.2.2.2.2.1 q1.2.2.2.2.2.2.2.2.1 q1.2.2.2.2.2.2.2.2.2.1 q1.2.2.2.2.2.2.2.2.2.2.1 q1.2.2.2.2.2.2.2.2.2.2.2.2.2.1 q1.2.2.2.2.2.2.2.2.2.2.2.2.2.2.1 q1.2.2.2.2.2.2.2.2.2.2.2.2.2.2.2.1 q1.2.2.2.2.2.2.2.2.2.2.2.2.2.2.2.2.1 q1.2.2.2.2.2.2.2.2.2.2.2.2.2.2.2.2.2.1).bind (fun q2 => rq (cpin (0 : Int32) (0 : Int32) (6 : Int32) 6 6) (lt (va_cpy q2.2.2.2.2.1 g0.2.1 (0 : Int32).toNatClampNeg (0 : Int32).toNatClampNeg (6 : Int32).toNatClampNeg) (fun u3 => (mTrials_find (0 : Int32) (-2 : Int32) (-2 : Int32) (g0.1, u3, g0.2.2.1, g0.2.2.2.1, g0.2.2.2.2)).bind (fun q4 => mTrials_findSwapsrn_l42 g4 x3 FU (0 : Int32) q4 (q1.1, q1.2.1, q1.2.2.1, q1.2.2.2.1, q2.2.1, q2.2.2.1, q1.2.2.2.2.2.2.1, q1.2.2.2.2.2.2.2.1, q2.2.2.2.1, q2.2.2.2.2.1, q2.2.2.2.2.2.1, q1.2.2.2.2.2.2.2.2.2.2.2.1, q1.2.2.2.2.2.2.2.2.2.2.2.2.1, q2.2.2.2.2.2.2.1, q1.2.2.2.2.2.2.2.2.2.2.2.2.2.2.1, q2.2.2.2.2.2.2.2, q1.2.2.2.2.2.2.2.2.2.2.2.2.2.2.2.2.1, q1.2.2.2.2.2.2.2.2.2.2.2.2.2.2.2.2.2.1, q1.2.2.2.2.2.2.2.2.2.2.2.2.2.2.2.2.2.2))))))
set_option maxHeartbeats 4000000 in
set_option maxRecDepth 20000 in
theorem cTrials_findSwapsrn {q : tyTrials × tyFair} {x3 : Int32} (h : mTrials_findSwapsrn x3 g0 g1 g4 = some q) : rMet l D Z (ty7 K) MTrials_findSwapsrn [.ref ((a0 0) 0), .ref (a1 0), .null, .int x3] (List.flatten [bTrialsG K (a0 0) ((a0 1) 0) ((a0 2) 0) ((a0 3) 0) g0, bFairG K (a0 1) g1, bOrderG K (a0 2) g2, bOrderG K (a0 3) g3, bFairG K a1 g4]) (List.flatten [bTrialsG K (a0 0) ((a0 1) 0) ((a0 2) 0) ((a0 3) 0) q.1, bFairG K (a0 1) q.2, bOrderG K (a0 2) g2, bOrderG K (a0 3) g3, bFairG K a1 g4]) none := by
  refine rMet.of (by decide) rfl (Nat.le_of_ble_eq_true rfl) ?_
  refine r_sub (lv' := [(0, .ref ((a0 0) 0)), (1, .ref (a1 0)), (2, .null), (3, .int x3)]) [0, 1, 2, 3] rfl ?_
  unfold mTrials_findSwapsrn at h
  refine r_aload_n 0 dX9_findSwaps_0 rfl ?_
  refine r_aload_n 1 dX9_findSwaps_1 rfl ?_
  obtain ⟨q1, h1, h⟩ := bd_some h
  refine b_callV (isC := [0, 1, 2, 3, 4]) (ci := 7)  (st := []) (bs1 := [bTrialsG K (a0 0) ((a0 1) 0) ((a0 2) 0) ((a0 3) 0) g0, bFairG K (a0 1) q1, bOrderG K (a0 2) g2, bOrderG K (a0 3) g3, bFairG K a1 g4]) (cTrials_from (a0 := a0) (a1 := a1) (g0 := g0) (g1 := g1) (g2 := g2) (g3 := g3) (g4 := g4) h1) rfl rfl (Nat.le_of_ble_eq_true rfl) kTrials_from (tb_in (i := 10) (j := 8) rfl rfl) (by decide) (by decide) rfl rfl rfl rfl rfl rfl rfl dX9_findSwaps_2 ?_
  refine r_aload_nN 2 dX9_findSwaps_5 rfl ?_
  refine r_iload_n 3 dX9_findSwaps_6 rfl ?_
  refine r_iconst (x := (-1 : Int32)) dX9_findSwaps_7 (by decide) ?_
  obtain ⟨q2, h2, h⟩ := bd_some h
  refine b_callVN (isC := [1]) (ci := 1)  (st := []) (bs1 := [bTrialsG K (a0 0) ((a0 1) 0) ((a0 2) 0) ((a0 3) 0) g0, bFair K (a0 1) q1.1 q1.2.1 q1.2.2.1 q1.2.2.2.1 q2.2.1 q2.2.2.1 q1.2.2.2.2.2.2.1 q1.2.2.2.2.2.2.2.1 q2.2.2.2.1 q2.2.2.2.2.1 q2.2.2.2.2.2.1 q1.2.2.2.2.2.2.2.2.2.2.2.1 q1.2.2.2.2.2.2.2.2.2.2.2.2.1 q2.2.2.2.2.2.2.1 q1.2.2.2.2.2.2.2.2.2.2.2.2.2.2.1 q2.2.2.2.2.2.2.2 q1.2.2.2.2.2.2.2.2.2.2.2.2.2.2.2.2.1 q1.2.2.2.2.2.2.2.2.2.2.2.2.2.2.2.2.2.1 q1.2.2.2.2.2.2.2.2.2.2.2.2.2.2.2.2.2.2, bOrderG K (a0 2) g2, bOrderG K (a0 3) g3, bFairG K a1 g4]) (cFair_gon (a0 := (a0 1)) (z0_lasts := q1.1) (z0_keeps := q1.2.1) (z0_stalls := q1.2.2.1) (z0_buyers := q1.2.2.2.1) (z0_minute := q1.2.2.2.2.1) (z0_goods := q1.2.2.2.2.2.1) (z0_price := q1.2.2.2.2.2.2.1) (z0_tongue := q1.2.2.2.2.2.2.2.1) (z0_till := q1.2.2.2.2.2.2.2.2.1) (z0_wealth := q1.2.2.2.2.2.2.2.2.2.1) (z0_sold := q1.2.2.2.2.2.2.2.2.2.2.1) (z0_ring := q1.2.2.2.2.2.2.2.2.2.2.2.1) (z0_grudges := q1.2.2.2.2.2.2.2.2.2.2.2.2.1) (z0_purse := q1.2.2.2.2.2.2.2.2.2.2.2.2.2.1) (z0_came := q1.2.2.2.2.2.2.2.2.2.2.2.2.2.2.1) (z0_had := q1.2.2.2.2.2.2.2.2.2.2.2.2.2.2.2.1) (z0_seller := q1.2.2.2.2.2.2.2.2.2.2.2.2.2.2.2.2.1) (z0_praise := q1.2.2.2.2.2.2.2.2.2.2.2.2.2.2.2.2.2.1) (z0_borne := q1.2.2.2.2.2.2.2.2.2.2.2.2.2.2.2.2.2.2) h2) rfl rfl (Nat.le_of_ble_eq_true rfl) kFair_gon (List.mem_of_getElem? (i := 57) rfl) (by decide) (by decide) rfl rfl rfl rfl rfl rfl rfl dX9_findSwaps_8 ?_
  refine r_pop dX9_findSwaps_11 rfl ?_
  refine r_aload_n 0 dX9_findSwaps_12 rfl ?_
  refine gTrials_fair 0 rfl (tb_in (i := 9) (j := 23) rfl rfl) dX9_findSwaps_13 ?_
  refine gFair_wealthN 1 rfl (List.mem_of_getElem? (i := 32) rfl) dX9_findSwaps_16 ?_
  refine r_iconst (x := (0 : Int32)) dX9_findSwaps_19 (by decide) ?_
  refine r_aload_n 0 dX9_findSwaps_20 rfl ?_
  refine gTrials_wealthBefore 0 rfl (tb_in (i := 9) (j := 29) rfl rfl) dX9_findSwaps_21 ?_
  refine r_iconst (x := (0 : Int32)) dX9_findSwaps_24 (by decide) ?_
  refine r_bipush (x := (6 : Int32)) dX9_findSwaps_25 (by decide) ?_
  obtain ⟨h3, h⟩ := rq_some h
  obtain ⟨u3, e3, h⟩ := lt_some h
  refine b_copy (bs1 := [bTrials K (a0 0) ((a0 1) 0) ((a0 2) 0) ((a0 3) 0) g0.1 u3 g0.2.2.1 g0.2.2.2.1 g0.2.2.2.2, bFair K (a0 1) q1.1 q1.2.1 q1.2.2.1 q1.2.2.2.1 q2.2.1 q2.2.2.1 q1.2.2.2.2.2.2.1 q1.2.2.2.2.2.2.2.1 q2.2.2.2.1 q2.2.2.2.2.1 q2.2.2.2.2.2.1 q1.2.2.2.2.2.2.2.2.2.2.2.1 q1.2.2.2.2.2.2.2.2.2.2.2.2.1 q2.2.2.2.2.2.2.1 q1.2.2.2.2.2.2.2.2.2.2.2.2.2.2.1 q2.2.2.2.2.2.2.2 q1.2.2.2.2.2.2.2.2.2.2.2.2.2.2.2.2.1 q1.2.2.2.2.2.2.2.2.2.2.2.2.2.2.2.2.2.1 q1.2.2.2.2.2.2.2.2.2.2.2.2.2.2.2.2.2.2, bOrderG K (a0 2) g2, bOrderG K (a0 3) g3, bFairG K a1 g4]) (ty := .int) 1 5 0 2 1 e3 h3 (fun _ _ => rfl) rfl rfl rfl rfl rfl rfl rfl (tb_in (i := 11) (j := 3) rfl rfl) (tb_in (i := 0) (j := 11) rfl rfl) (tb_in (i := 0) (j := 12) rfl rfl) (tb_in (i := 0) (j := 13) rfl rfl) (by decide) (Nat.le_of_ble_eq_true rfl) dX9_findSwaps_27 ?_
  refine r_aload_n 0 dX9_findSwaps_30 rfl ?_
  refine r_iconst (x := (0 : Int32)) dX9_findSwaps_31 (by decide) ?_
  refine r_bipush (x := (-2 : Int32)) dX9_findSwaps_32 (by decide) ?_
  refine r_bipush (x := (-2 : Int32)) dX9_findSwaps_34 (by decide) ?_
  obtain ⟨q4, h4, h⟩ := bd_some h
  refine b_callV (isC := [0, 1, 2, 3]) (ci := 7)  (st := []) (bs1 := [bTrialsG K (a0 0) ((a0 1) 0) ((a0 2) 0) ((a0 3) 0) q4, bFair K (a0 1) q1.1 q1.2.1 q1.2.2.1 q1.2.2.2.1 q2.2.1 q2.2.2.1 q1.2.2.2.2.2.2.1 q1.2.2.2.2.2.2.2.1 q2.2.2.2.1 q2.2.2.2.2.1 q2.2.2.2.2.2.1 q1.2.2.2.2.2.2.2.2.2.2.2.1 q1.2.2.2.2.2.2.2.2.2.2.2.2.1 q2.2.2.2.2.2.2.1 q1.2.2.2.2.2.2.2.2.2.2.2.2.2.2.1 q2.2.2.2.2.2.2.2 q1.2.2.2.2.2.2.2.2.2.2.2.2.2.2.2.2.1 q1.2.2.2.2.2.2.2.2.2.2.2.2.2.2.2.2.2.1 q1.2.2.2.2.2.2.2.2.2.2.2.2.2.2.2.2.2.2, bOrderG K (a0 2) g2, bOrderG K (a0 3) g3, bFairG K a1 g4]) (cTrials_find (a0 := a0) (g0 := (g0.1, u3, g0.2.2.1, g0.2.2.2.1, g0.2.2.2.2)) (g1 := (q1.1, q1.2.1, q1.2.2.1, q1.2.2.2.1, q2.2.1, q2.2.2.1, q1.2.2.2.2.2.2.1, q1.2.2.2.2.2.2.2.1, q2.2.2.2.1, q2.2.2.2.2.1, q2.2.2.2.2.2.1, q1.2.2.2.2.2.2.2.2.2.2.2.1, q1.2.2.2.2.2.2.2.2.2.2.2.2.1, q2.2.2.2.2.2.2.1, q1.2.2.2.2.2.2.2.2.2.2.2.2.2.2.1, q2.2.2.2.2.2.2.2, q1.2.2.2.2.2.2.2.2.2.2.2.2.2.2.2.2.1, q1.2.2.2.2.2.2.2.2.2.2.2.2.2.2.2.2.2.1, q1.2.2.2.2.2.2.2.2.2.2.2.2.2.2.2.2.2.2)) (g2 := g2) (g3 := g3) h4) rfl rfl (Nat.le_of_ble_eq_true rfl) kTrials_find (tb_in (i := 10) (j := 20) rfl rfl) (by decide) (by decide) rfl rfl rfl rfl rfl rfl rfl dX9_findSwaps_36 ?_
  refine r_iconst (x := (0 : Int32)) dX9_findSwaps_39 (by decide) ?_
  refine r_istore (lv' := [(4, .int (0 : Int32)), (0, .ref ((a0 0) 0)), (1, .ref (a1 0)), (2, .null), (3, .int x3)]) dX9_findSwaps_40 (Nat.le_of_ble_eq_true rfl) rfl ?_
  refine r_sub (lv' := [(0, .ref ((a0 0) 0)), (1, .ref (a1 0)), (2, .null), (3, .int x3), (4, .int (0 : Int32))]) [1, 2, 3, 4, 0] rfl ?_
  exact cTrials_findSwapsrn_l42 (g4 := g4)  FU (0 : Int32) q4 (q1.1, q1.2.1, q1.2.2.1, q1.2.2.2.1, q2.2.1, q2.2.2.1, q1.2.2.2.2.2.2.1, q1.2.2.2.2.2.2.2.1, q2.2.2.2.1, q2.2.2.2.2.1, q2.2.2.2.2.2.1, q1.2.2.2.2.2.2.2.2.2.2.2.1, q1.2.2.2.2.2.2.2.2.2.2.2.2.1, q2.2.2.2.2.2.2.1, q1.2.2.2.2.2.2.2.2.2.2.2.2.2.2.1, q2.2.2.2.2.2.2.2, q1.2.2.2.2.2.2.2.2.2.2.2.2.2.2.2.2.1, q1.2.2.2.2.2.2.2.2.2.2.2.2.2.2.2.2.2.1, q1.2.2.2.2.2.2.2.2.2.2.2.2.2.2.2.2.2.2) h
end
theorem dX9_findRings_0 : decode cX9_findRings 0 = .ok (.iconst 0, 1) := by decide +kernel
theorem dX9_findRings_1 : decode cX9_findRings 1 = .ok (.istore_n 3, 1) := by decide +kernel
theorem dX9_findRings_2 : decode cX9_findRings 2 = .ok (.iconst 1, 1) := by decide +kernel
theorem dX9_findRings_3 : decode cX9_findRings 3 = .ok (.istore 4, 2) := by decide +kernel
theorem dX9_findRings_5 : decode cX9_findRings 5 = .ok (.aload_n 0, 1) := by decide +kernel
theorem dX9_findRings_6 : decode cX9_findRings 6 = .ok (.getfield 25, 3) := by decide +kernel
theorem dX9_findRings_9 : decode cX9_findRings 9 = .ok (.iconst 0, 1) := by decide +kernel
theorem dX9_findRings_10 : decode cX9_findRings 10 = .ok (.invokevirtual 62, 3) := by decide +kernel
theorem dX9_findRings_13 : decode cX9_findRings 13 = .ok (.aload_n 0, 1) := by decide +kernel
theorem dX9_findRings_14 : decode cX9_findRings 14 = .ok (.getfield 21, 3) := by decide +kernel
theorem dX9_findRings_17 : decode cX9_findRings 17 = .ok (.aload_n 1, 1) := by decide +kernel
theorem dX9_findRings_18 : decode cX9_findRings 18 = .ok (.getfield 138, 3) := by decide +kernel
theorem dX9_findRings_21 : decode cX9_findRings 21 = .ok (.getfield 59, 3) := by decide +kernel
theorem dX9_findRings_24 : decode cX9_findRings 24 = .ok (.invokevirtual 62, 3) := by decide +kernel
theorem dX9_findRings_27 : decode cX9_findRings 27 = .ok (.iconst 0, 1) := by decide +kernel
theorem dX9_findRings_28 : decode cX9_findRings 28 = .ok (.istore 5, 2) := by decide +kernel
theorem dX9_findRings_30 : decode cX9_findRings 30 = .ok (.iload 5, 2) := by decide +kernel
theorem dX9_findRings_32 : decode cX9_findRings 32 = .ok (.bipush 120, 2) := by decide +kernel
theorem dX9_findRings_34 : decode cX9_findRings 34 = .ok (.if_icmp .ge 74, 3) := by decide +kernel
theorem dX9_findRings_37 : decode cX9_findRings 37 = .ok (.iload 4, 2) := by decide +kernel
theorem dX9_findRings_39 : decode cX9_findRings 39 = .ok (.ifCond .eq 69, 3) := by decide +kernel
theorem dX9_findRings_42 : decode cX9_findRings 42 = .ok (.aload_n 0, 1) := by decide +kernel
theorem dX9_findRings_43 : decode cX9_findRings 43 = .ok (.aload_n 1, 1) := by decide +kernel
theorem dX9_findRings_44 : decode cX9_findRings 44 = .ok (.getfield 138, 3) := by decide +kernel
theorem dX9_findRings_47 : decode cX9_findRings 47 = .ok (.invokevirtual 66, 3) := by decide +kernel
theorem dX9_findRings_50 : decode cX9_findRings 50 = .ok (.aload_n 0, 1) := by decide +kernel
theorem dX9_findRings_51 : decode cX9_findRings 51 = .ok (.getfield 21, 3) := by decide +kernel
theorem dX9_findRings_54 : decode cX9_findRings 54 = .ok (.getfield 56, 3) := by decide +kernel
theorem dX9_findRings_57 : decode cX9_findRings 57 = .ok (.invokevirtual 70, 3) := by decide +kernel
theorem dX9_findRings_60 : decode cX9_findRings 60 = .ok (.aload_n 1, 1) := by decide +kernel
theorem dX9_findRings_61 : decode cX9_findRings 61 = .ok (.getfield 132, 3) := by decide +kernel
theorem dX9_findRings_64 : decode cX9_findRings 64 = .ok (.aload_n 0, 1) := by decide +kernel
theorem dX9_findRings_65 : decode cX9_findRings 65 = .ok (.getfield 12, 3) := by decide +kernel
theorem dX9_findRings_68 : decode cX9_findRings 68 = .ok (.aload_n 2, 1) := by decide +kernel
theorem dX9_findRings_69 : decode cX9_findRings 69 = .ok (.invokevirtual 145, 3) := by decide +kernel
theorem dX9_findRings_72 : decode cX9_findRings 72 = .ok (.ifCond .eq 21, 3) := by decide +kernel
theorem dX9_findRings_75 : decode cX9_findRings 75 = .ok (.iload_n 3, 1) := by decide +kernel
theorem dX9_findRings_76 : decode cX9_findRings 76 = .ok (.ifCond .ne 14, 3) := by decide +kernel
theorem dX9_findRings_79 : decode cX9_findRings 79 = .ok (.aload_n 0, 1) := by decide +kernel
theorem dX9_findRings_80 : decode cX9_findRings 80 = .ok (.getfield 25, 3) := by decide +kernel
theorem dX9_findRings_83 : decode cX9_findRings 83 = .ok (.aload_n 0, 1) := by decide +kernel
theorem dX9_findRings_84 : decode cX9_findRings 84 = .ok (.getfield 21, 3) := by decide +kernel
theorem dX9_findRings_87 : decode cX9_findRings 87 = .ok (.invokevirtual 78, 3) := by decide +kernel
theorem dX9_findRings_90 : decode cX9_findRings 90 = .ok (.iinc 3 1, 3) := by decide +kernel
theorem dX9_findRings_93 : decode cX9_findRings 93 = .ok (.aload_n 0, 1) := by decide +kernel
theorem dX9_findRings_94 : decode cX9_findRings 94 = .ok (.getfield 21, 3) := by decide +kernel
theorem dX9_findRings_97 : decode cX9_findRings 97 = .ok (.invokevirtual 81, 3) := by decide +kernel
theorem dX9_findRings_100 : decode cX9_findRings 100 = .ok (.istore 4, 2) := by decide +kernel
theorem dX9_findRings_102 : decode cX9_findRings 102 = .ok (.iinc 5 1, 3) := by decide +kernel
theorem dX9_findRings_105 : decode cX9_findRings 105 = .ok (.goto (-75), 3) := by decide +kernel
theorem dX9_findRings_108 : decode cX9_findRings 108 = .ok (.iload_n 3, 1) := by decide +kernel
theorem dX9_findRings_109 : decode cX9_findRings 109 = .ok (.ireturn, 1) := by decide +kernel
abbrev MTrials_findRingsrr : rx_M := (RX9, yX9_findRings, cX9_findRings, 6, (some .int), 7)
theorem kTrials_findRingsrr : rKv MTrials_findRingsrr 2 := ⟨tb_in (i := 16) (j := 7) rfl rfl, tb_in (i := 16) (j := 8) rfl rfl, tb_in (i := 10) (j := 11) rfl rfl, tb_in (i := 11) (j := 21) rfl rfl, ⟨by decide, by decide, by decide +kernel⟩, by decide⟩
section
variable {a0 : Nat → Nat → Nat} {a1 : Nat → Nat → Nat} {a2 : Nat → Nat} {g0 : tyTrials} {g1 : tyFair} {g2 : tyOrder} {g3 : tyOrder} {g4 : tyWorld} {g5 : tyFair} {g6 : tyFair} {g7 : tyNotes} {g8 : tyRule}
def mTrials_findRingsrr_l30 (g5 : tyFair) (g7 : tyNotes) : Nat → Int32 → Int32 → Int32 → tyFair → tyOrder → tyOrder → tyRule → Option (Int32 × tyFair × tyOrder × tyOrder × tyRule)
  | 0, _, _, _, _, _, _, _ => none
  | n + 1, x3, x4, x5, g1, g2, g3, g8 => (if (120 : Int32) ≤ x5 then some (x3, g1, g2, g3, g8) else (if x4 = 0 then some (x3, g1, g2, g3, g8) else (mTrials_from g1 g5).bind (fun q5 => (mFair_stand_who q5.2.2.1 q5.2.2.2.2.2.2.2.1 q5.2.2.2.2.2.2.2.2.2.2.2.1 q5.2.2.2.2.2.2.2.2.2.2.2.2.1 q5.2.2.2.2.2.2.2.2.2.2.2.2.2.2.2.2.1 q5.2.2.2.2.2.2.2.2.2.2.2.2.2.2.2.2.2.1 q5.2.2.2.2.2.2.2.2.2.2.2.2.2.2.2.2.2.2 g2.1).bind (fun q6 => (mNotes_fitrr g7 (q5.1, q5.2.1, q5.2.2.1, q5.2.2.2.1, q5.2.2.2.2.1, q5.2.2.2.2.2.1, q5.2.2.2.2.2.2.1, q5.2.2.2.2.2.2.2.1, q5.2.2.2.2.2.2.2.2.1, q5.2.2.2.2.2.2.2.2.2.1, q5.2.2.2.2.2.2.2.2.2.2.1, q6.1, q5.2.2.2.2.2.2.2.2.2.2.2.2.1, q5.2.2.2.2.2.2.2.2.2.2.2.2.2.1, q5.2.2.2.2.2.2.2.2.2.2.2.2.2.2.1, q5.2.2.2.2.2.2.2.2.2.2.2.2.2.2.2.1, q6.2.1, q6.2.2.1, q6.2.2.2) g8).bind (fun q7 => (if q7.1 = 0 then (mOrder_goOn g2.1 g2.2).bind (fun q9 => mTrials_findRingsrr_l30 g5 g7 n x3 q9.1 (x5 + (1 : Int32)) q7.2.1 (q9.2, g2.2) g3 q7.2.2) else (if x3 = 0 then (mOrder_copyFrom g3.1 g3.2 g2.1 g2.2).bind (fun q12 => (mOrder_goOn g2.1 g2.2).bind (fun q13 => mTrials_findRingsrr_l30 g5 g7 n (x3 + (1 : Int32)) q13.1 (x5 + (1 : Int32)) q7.2.1 (q13.2, g2.2) q12 q7.2.2)) else (mOrder_goOn g2.1 g2.2).bind (fun q11 => mTrials_findRingsrr_l30 g5 g7 n (x3 + (1 : Int32)) q11.1 (x5 + (1 : Int32)) q7.2.1 (q11.2, g2.2) g3 q7.2.2))))))))
set_option maxHeartbeats 4000000 in
set_option maxRecDepth 20000 in
theorem cTrials_findRingsrr_l30 {q : Int32 × tyFair × tyOrder × tyOrder × tyRule}   : ∀ (n : Nat) (x3 : Int32) (x4 : Int32) (x5 : Int32) (g1 : tyFair) (g2 : tyOrder) (g3 : tyOrder) (g8 : tyRule), mTrials_findRingsrr_l30 g5 g7 n x3 x4 x5 g1 g2 g3 g8 = some q → rW l D Z (ty7 K) MTrials_findRingsrr 30 [(0, .ref ((a0 0) 0)), (1, .ref ((a1 0) 0)), (2, .ref (a2 0)), (3, .int x3), (4, .int x4), (5, .int x5)] [] (List.flatten [bTrialsG K (a0 0) ((a0 1) 0) ((a0 2) 0) ((a0 3) 0) g0, bFairG K (a0 1) g1, bOrderG K (a0 2) g2, bOrderG K (a0 3) g3, bWorldG K (a1 0) ((a1 1) 0) ((a1 2) 0) ((a1 3) 0) g4, bFairG K (a1 1) g5, bFairG K (a1 2) g6, bNotesG K (a1 3) g7, bRuleG K a2 g8]) (List.flatten [bTrialsG K (a0 0) ((a0 1) 0) ((a0 2) 0) ((a0 3) 0) g0, bFairG K (a0 1) q.2.1, bOrderG K (a0 2) q.2.2.1, bOrderG K (a0 3) q.2.2.2.1, bWorldG K (a1 0) ((a1 1) 0) ((a1 2) 0) ((a1 3) 0) g4, bFairG K (a1 1) g5, bFairG K (a1 2) g6, bNotesG K (a1 3) g7, bRuleG K a2 q.2.2.2.2]) (some (.int q.1)) := by
  intro n
  induction n with
  | zero => intro x3 x4 x5 g1 g2 g3 g8 h; unfold mTrials_findRingsrr_l30 at h; cases h
  | succ n ih =>
    intro x3 x4 x5 g1 g2 g3 g8 h
    unfold mTrials_findRingsrr_l30 at h
    refine r_iload 5 dX9_findRings_30 rfl ?_
    refine r_bipush (x := (120 : Int32)) dX9_findRings_32 (by decide) ?_
    refine r_icmp_ge 108 dX9_findRings_34 (by decide) (fun c3 => ?_) (fun c3 => ?_)
    · replace h := it_pos c3 h
      refine r_iload_n 3 dX9_findRings_108 rfl ?_
      have hq := Option.some.inj h
      subst hq
      exact r_iret rfl dX9_findRings_109
    · replace h := it_neg c3 h
      refine r_iload 4 dX9_findRings_37 rfl ?_
      refine r_if_eq 108 dX9_findRings_39 (by decide) (fun c4 => ?_) (fun c4 => ?_)
      · replace h := it_pos c4 h
        refine r_iload_n 3 dX9_findRings_108 rfl ?_
        have hq := Option.some.inj h
        subst hq
        exact r_iret rfl dX9_findRings_109
      · replace h := it_neg c4 h
        refine r_aload_n 0 dX9_findRings_42 rfl ?_
        refine r_aload_n 1 dX9_findRings_43 rfl ?_
        refine gWorld_toldN 4 rfl (List.mem_of_getElem? (i := 54) rfl) dX9_findRings_44 ?_
        obtain ⟨q5, h5, h⟩ := bd_some h
        refine b_callV (isC := [0, 1, 2, 3, 5]) (ci := 7)  (st := []) (bs1 := [bTrialsG K (a0 0) ((a0 1) 0) ((a0 2) 0) ((a0 3) 0) g0, bFairG K (a0 1) q5, bOrderG K (a0 2) g2, bOrderG K (a0 3) g3, bWorldG K (a1 0) ((a1 1) 0) ((a1 2) 0) ((a1 3) 0) g4, bFairG K (a1 1) g5, bFairG K (a1 2) g6, bNotesG K (a1 3) g7, bRuleG K a2 g8]) (cTrials_from (a0 := a0) (a1 := (a1 1)) (g0 := g0) (g1 := g1) (g2 := g2) (g3 := g3) (g4 := g5) h5) rfl rfl (Nat.le_of_ble_eq_true rfl) kTrials_from (tb_in (i := 10) (j := 8) rfl rfl) (by decide) (by decide) rfl rfl rfl rfl rfl rfl rfl dX9_findRings_47 ?_
        refine r_aload_n 0 dX9_findRings_50 rfl ?_
        refine gTrials_order 0 rfl (tb_in (i := 9) (j := 26) rfl rfl) dX9_findRings_51 ?_
        refine gOrder_whoN 2 rfl (List.mem_of_getElem? (i := 60) rfl) dX9_findRings_54 ?_
        obtain ⟨q6, h6, h⟩ := bd_some h
        refine b_callVN (isC := [1, 2]) (ci := 1)  (st := []) (bs1 := [bTrialsG K (a0 0) ((a0 1) 0) ((a0 2) 0) ((a0 3) 0) g0, bFair K (a0 1) q5.1 q5.2.1 q5.2.2.1 q5.2.2.2.1 q5.2.2.2.2.1 q5.2.2.2.2.2.1 q5.2.2.2.2.2.2.1 q5.2.2.2.2.2.2.2.1 q5.2.2.2.2.2.2.2.2.1 q5.2.2.2.2.2.2.2.2.2.1 q5.2.2.2.2.2.2.2.2.2.2.1 q6.1 q5.2.2.2.2.2.2.2.2.2.2.2.2.1 q5.2.2.2.2.2.2.2.2.2.2.2.2.2.1 q5.2.2.2.2.2.2.2.2.2.2.2.2.2.2.1 q5.2.2.2.2.2.2.2.2.2.2.2.2.2.2.2.1 q6.2.1 q6.2.2.1 q6.2.2.2, bOrderG K (a0 2) g2, bOrderG K (a0 3) g3, bWorldG K (a1 0) ((a1 1) 0) ((a1 2) 0) ((a1 3) 0) g4, bFairG K (a1 1) g5, bFairG K (a1 2) g6, bNotesG K (a1 3) g7, bRuleG K a2 g8]) (cFair_stand_who (a0 := (a0 1)) (a1 := (a0 2)) (z0_lasts := q5.1) (z0_keeps := q5.2.1) (z0_stalls := q5.2.2.1) (z0_buyers := q5.2.2.2.1) (z0_minute := q5.2.2.2.2.1) (z0_goods := q5.2.2.2.2.2.1) (z0_price := q5.2.2.2.2.2.2.1) (z0_tongue := q5.2.2.2.2.2.2.2.1) (z0_till := q5.2.2.2.2.2.2.2.2.1) (z0_wealth := q5.2.2.2.2.2.2.2.2.2.1) (z0_sold := q5.2.2.2.2.2.2.2.2.2.2.1) (z0_ring := q5.2.2.2.2.2.2.2.2.2.2.2.1) (z0_grudges := q5.2.2.2.2.2.2.2.2.2.2.2.2.1) (z0_purse := q5.2.2.2.2.2.2.2.2.2.2.2.2.2.1) (z0_came := q5.2.2.2.2.2.2.2.2.2.2.2.2.2.2.1) (z0_had := q5.2.2.2.2.2.2.2.2.2.2.2.2.2.2.2.1) (z0_seller := q5.2.2.2.2.2.2.2.2.2.2.2.2.2.2.2.2.1) (z0_praise := q5.2.2.2.2.2.2.2.2.2.2.2.2.2.2.2.2.2.1) (z0_borne := q5.2.2.2.2.2.2.2.2.2.2.2.2.2.2.2.2.2.2) (z1_who := g2.1) (z1_size := g2.2) h6) rfl rfl (Nat.le_of_ble_eq_true rfl) kFair_stand_who (List.mem_of_getElem? (i := 56) rfl) (by decide) (by decide) rfl rfl rfl rfl rfl rfl rfl dX9_findRings_57 ?_
        refine r_aload_n 1 dX9_findRings_60 rfl ?_
        refine gWorld_notesN 4 rfl (List.mem_of_getElem? (i := 57) rfl) dX9_findRings_61 ?_
        refine r_aload_n 0 dX9_findRings_64 rfl ?_
        refine gTrials_fair 0 rfl (tb_in (i := 9) (j := 23) rfl rfl) dX9_findRings_65 ?_
        refine r_aload_n 2 dX9_findRings_68 rfl ?_
        obtain ⟨q7, h7, h⟩ := bd_some h
        refine b_callVN (isC := [7, 1, 8]) (ci := 2)  (st := []) (bs1 := [bTrialsG K (a0 0) ((a0 1) 0) ((a0 2) 0) ((a0 3) 0) g0, bFairG K (a0 1) q7.2.1, bOrderG K (a0 2) g2, bOrderG K (a0 3) g3, bWorldG K (a1 0) ((a1 1) 0) ((a1 2) 0) ((a1 3) 0) g4, bFairG K (a1 1) g5, bFairG K (a1 2) g6, bNotesG K (a1 3) g7, bRuleG K a2 q7.2.2]) (cNotes_fitrr (a0 := (a1 3)) (a1 := (a0 1)) (a2 := a2) (g0 := g7) (g1 := (q5.1, q5.2.1, q5.2.2.1, q5.2.2.2.1, q5.2.2.2.2.1, q5.2.2.2.2.2.1, q5.2.2.2.2.2.2.1, q5.2.2.2.2.2.2.2.1, q5.2.2.2.2.2.2.2.2.1, q5.2.2.2.2.2.2.2.2.2.1, q5.2.2.2.2.2.2.2.2.2.2.1, q6.1, q5.2.2.2.2.2.2.2.2.2.2.2.2.1, q5.2.2.2.2.2.2.2.2.2.2.2.2.2.1, q5.2.2.2.2.2.2.2.2.2.2.2.2.2.2.1, q5.2.2.2.2.2.2.2.2.2.2.2.2.2.2.2.1, q6.2.1, q6.2.2.1, q6.2.2.2)) (g2 := g8) h7) rfl rfl (Nat.le_of_ble_eq_true rfl) kNotes_fitrr (List.mem_of_getElem? (i := 76) rfl) (by decide) (by decide) rfl rfl rfl rfl rfl rfl rfl dX9_findRings_69 ?_
        refine r_if_eq 93 dX9_findRings_72 (by decide) (fun c8 => ?_) (fun c8 => ?_)
        · replace h := it_pos c8 h
          refine r_aload_n 0 dX9_findRings_93 rfl ?_
          refine gTrials_order 0 rfl (tb_in (i := 9) (j := 26) rfl rfl) dX9_findRings_94 ?_
          obtain ⟨q9, h9, h⟩ := bd_some h
          refine b_callVN (isC := [2]) (ci := 3)  (st := []) (bs1 := [bTrialsG K (a0 0) ((a0 1) 0) ((a0 2) 0) ((a0 3) 0) g0, bFairG K (a0 1) q7.2.1, bOrder K (a0 2) q9.2 g2.2, bOrderG K (a0 3) g3, bWorldG K (a1 0) ((a1 1) 0) ((a1 2) 0) ((a1 3) 0) g4, bFairG K (a1 1) g5, bFairG K (a1 2) g6, bNotesG K (a1 3) g7, bRuleG K a2 q7.2.2]) (cOrder_goOn (a0 := (a0 2)) (z0_who := g2.1) (z0_size := g2.2) h9) rfl rfl (Nat.le_of_ble_eq_true rfl) kOrder_goOn (List.mem_of_getElem? (i := 59) rfl) (by decide) (by decide) rfl rfl rfl rfl rfl rfl rfl dX9_findRings_97 ?_
          refine r_istore (lv' := [(4, .int q9.1), (0, .ref ((a0 0) 0)), (1, .ref ((a1 0) 0)), (2, .ref (a2 0)), (3, .int x3), (5, .int x5)]) dX9_findRings_100 (Nat.le_of_ble_eq_true rfl) rfl ?_
          refine r_iinc (y := (x5 + (1 : Int32))) (lv' := [(5, .int (x5 + (1 : Int32))), (4, .int q9.1), (0, .ref ((a0 0) 0)), (1, .ref ((a1 0) 0)), (2, .ref (a2 0)), (3, .int x3)]) 5 dX9_findRings_102 rfl rfl (Nat.le_of_ble_eq_true rfl) rfl ?_
          refine r_goto 30 dX9_findRings_105 (by decide) ?_
          refine r_sub (lv' := [(0, .ref ((a0 0) 0)), (1, .ref ((a1 0) 0)), (2, .ref (a2 0)), (3, .int x3), (4, .int q9.1), (5, .int (x5 + (1 : Int32)))]) [2, 3, 4, 5, 1, 0] rfl ?_
          exact ih x3 q9.1 (x5 + (1 : Int32)) q7.2.1 (q9.2, g2.2) g3 q7.2.2 h
        · replace h := it_neg c8 h
          refine r_iload_n 3 dX9_findRings_75 rfl ?_
          refine r_if_ne 90 dX9_findRings_76 (by decide) (fun c10 => ?_) (fun c10 => ?_)
          · replace h := it_neg c10 h
            refine r_iinc (y := (x3 + (1 : Int32))) (lv' := [(3, .int (x3 + (1 : Int32))), (0, .ref ((a0 0) 0)), (1, .ref ((a1 0) 0)), (2, .ref (a2 0)), (4, .int x4), (5, .int x5)]) 3 dX9_findRings_90 rfl rfl (Nat.le_of_ble_eq_true rfl) rfl ?_
            refine r_aload_n 1 dX9_findRings_93 rfl ?_
            refine gTrials_order 0 rfl (tb_in (i := 9) (j := 26) rfl rfl) dX9_findRings_94 ?_
            obtain ⟨q11, h11, h⟩ := bd_some h
            refine b_callVN (isC := [2]) (ci := 3)  (st := []) (bs1 := [bTrialsG K (a0 0) ((a0 1) 0) ((a0 2) 0) ((a0 3) 0) g0, bFairG K (a0 1) q7.2.1, bOrder K (a0 2) q11.2 g2.2, bOrderG K (a0 3) g3, bWorldG K (a1 0) ((a1 1) 0) ((a1 2) 0) ((a1 3) 0) g4, bFairG K (a1 1) g5, bFairG K (a1 2) g6, bNotesG K (a1 3) g7, bRuleG K a2 q7.2.2]) (cOrder_goOn (a0 := (a0 2)) (z0_who := g2.1) (z0_size := g2.2) h11) rfl rfl (Nat.le_of_ble_eq_true rfl) kOrder_goOn (List.mem_of_getElem? (i := 59) rfl) (by decide) (by decide) rfl rfl rfl rfl rfl rfl rfl dX9_findRings_97 ?_
            refine r_istore (lv' := [(4, .int q11.1), (3, .int (x3 + (1 : Int32))), (0, .ref ((a0 0) 0)), (1, .ref ((a1 0) 0)), (2, .ref (a2 0)), (5, .int x5)]) dX9_findRings_100 (Nat.le_of_ble_eq_true rfl) rfl ?_
            refine r_iinc (y := (x5 + (1 : Int32))) (lv' := [(5, .int (x5 + (1 : Int32))), (4, .int q11.1), (3, .int (x3 + (1 : Int32))), (0, .ref ((a0 0) 0)), (1, .ref ((a1 0) 0)), (2, .ref (a2 0))]) 5 dX9_findRings_102 rfl rfl (Nat.le_of_ble_eq_true rfl) rfl ?_
            refine r_goto 30 dX9_findRings_105 (by decide) ?_
            refine r_sub (lv' := [(0, .ref ((a0 0) 0)), (1, .ref ((a1 0) 0)), (2, .ref (a2 0)), (3, .int (x3 + (1 : Int32))), (4, .int q11.1), (5, .int (x5 + (1 : Int32)))]) [3, 4, 5, 2, 1, 0] rfl ?_
            exact ih (x3 + (1 : Int32)) q11.1 (x5 + (1 : Int32)) q7.2.1 (q11.2, g2.2) g3 q7.2.2 h
          · replace h := it_pos c10 h
            refine r_aload_n 0 dX9_findRings_79 rfl ?_
            refine gTrials_best 0 rfl (tb_in (i := 9) (j := 27) rfl rfl) dX9_findRings_80 ?_
            refine r_aload_n 0 dX9_findRings_83 rfl ?_
            refine gTrials_order 0 rfl (tb_in (i := 9) (j := 26) rfl rfl) dX9_findRings_84 ?_
            obtain ⟨q12, h12, h⟩ := bd_some h
            refine b_callVN (isC := [3, 2]) (ci := 3)  (st := []) (bs1 := [bTrialsG K (a0 0) ((a0 1) 0) ((a0 2) 0) ((a0 3) 0) g0, bFairG K (a0 1) q7.2.1, bOrderG K (a0 2) g2, bOrderG K (a0 3) q12, bWorldG K (a1 0) ((a1 1) 0) ((a1 2) 0) ((a1 3) 0) g4, bFairG K (a1 1) g5, bFairG K (a1 2) g6, bNotesG K (a1 3) g7, bRuleG K a2 q7.2.2]) (cOrder_copyFrom (a0 := (a0 3)) (a1 := (a0 2)) (z0_who := g3.1) (z0_size := g3.2) (z1_who := g2.1) (z1_size := g2.2) h12) rfl rfl (Nat.le_of_ble_eq_true rfl) kOrder_copyFrom (List.mem_of_getElem? (i := 58) rfl) (by decide) (by decide) rfl rfl rfl rfl rfl rfl rfl dX9_findRings_87 ?_
            refine r_iinc (y := (x3 + (1 : Int32))) (lv' := [(3, .int (x3 + (1 : Int32))), (0, .ref ((a0 0) 0)), (1, .ref ((a1 0) 0)), (2, .ref (a2 0)), (4, .int x4), (5, .int x5)]) 3 dX9_findRings_90 rfl rfl (Nat.le_of_ble_eq_true rfl) rfl ?_
            refine r_aload_n 1 dX9_findRings_93 rfl ?_
            refine gTrials_order 0 rfl (tb_in (i := 9) (j := 26) rfl rfl) dX9_findRings_94 ?_
            obtain ⟨q13, h13, h⟩ := bd_some h
            refine b_callVN (isC := [2]) (ci := 3)  (st := []) (bs1 := [bTrialsG K (a0 0) ((a0 1) 0) ((a0 2) 0) ((a0 3) 0) g0, bFairG K (a0 1) q7.2.1, bOrder K (a0 2) q13.2 g2.2, bOrderG K (a0 3) q12, bWorldG K (a1 0) ((a1 1) 0) ((a1 2) 0) ((a1 3) 0) g4, bFairG K (a1 1) g5, bFairG K (a1 2) g6, bNotesG K (a1 3) g7, bRuleG K a2 q7.2.2]) (cOrder_goOn (a0 := (a0 2)) (z0_who := g2.1) (z0_size := g2.2) h13) rfl rfl (Nat.le_of_ble_eq_true rfl) kOrder_goOn (List.mem_of_getElem? (i := 59) rfl) (by decide) (by decide) rfl rfl rfl rfl rfl rfl rfl dX9_findRings_97 ?_
            refine r_istore (lv' := [(4, .int q13.1), (3, .int (x3 + (1 : Int32))), (0, .ref ((a0 0) 0)), (1, .ref ((a1 0) 0)), (2, .ref (a2 0)), (5, .int x5)]) dX9_findRings_100 (Nat.le_of_ble_eq_true rfl) rfl ?_
            refine r_iinc (y := (x5 + (1 : Int32))) (lv' := [(5, .int (x5 + (1 : Int32))), (4, .int q13.1), (3, .int (x3 + (1 : Int32))), (0, .ref ((a0 0) 0)), (1, .ref ((a1 0) 0)), (2, .ref (a2 0))]) 5 dX9_findRings_102 rfl rfl (Nat.le_of_ble_eq_true rfl) rfl ?_
            refine r_goto 30 dX9_findRings_105 (by decide) ?_
            refine r_sub (lv' := [(0, .ref ((a0 0) 0)), (1, .ref ((a1 0) 0)), (2, .ref (a2 0)), (3, .int (x3 + (1 : Int32))), (4, .int q13.1), (5, .int (x5 + (1 : Int32)))]) [3, 4, 5, 2, 1, 0] rfl ?_
            exact ih (x3 + (1 : Int32)) q13.1 (x5 + (1 : Int32)) q7.2.1 (q13.2, g2.2) q12 q7.2.2 h
def mTrials_findRingsrr (g1 : tyFair) (g2 : tyOrder) (g3 : tyOrder) (g5 : tyFair) (g7 : tyNotes) (g8 : tyRule) : Option (Int32 × tyFair × tyOrder × tyOrder × tyRule) := (mOrder_begin (0 : Int32) g3.1 g3.2).bind (fun q1 => (mOrder_begin g5.2.2.1 g2.1 g2.2).bind (fun q2 => mTrials_findRingsrr_l30 g5 g7 FU (0 : Int32) (1 : Int32) (0 : Int32) g1 q2 q1 g8))
set_option maxHeartbeats 4000000 in
set_option maxRecDepth 20000 in
theorem cTrials_findRingsrr {q : Int32 × tyFair × tyOrder × tyOrder × tyRule}  (h : mTrials_findRingsrr g1 g2 g3 g5 g7 g8 = some q) : rMet l D Z (ty7 K) MTrials_findRingsrr [.ref ((a0 0) 0), .ref ((a1 0) 0), .ref (a2 0)] (List.flatten [bTrialsG K (a0 0) ((a0 1) 0) ((a0 2) 0) ((a0 3) 0) g0, bFairG K (a0 1) g1, bOrderG K (a0 2) g2, bOrderG K (a0 3) g3, bWorldG K (a1 0) ((a1 1) 0) ((a1 2) 0) ((a1 3) 0) g4, bFairG K (a1 1) g5, bFairG K (a1 2) g6, bNotesG K (a1 3) g7, bRuleG K a2 g8]) (List.flatten [bTrialsG K (a0 0) ((a0 1) 0) ((a0 2) 0) ((a0 3) 0) g0, bFairG K (a0 1) q.2.1, bOrderG K (a0 2) q.2.2.1, bOrderG K (a0 3) q.2.2.2.1, bWorldG K (a1 0) ((a1 1) 0) ((a1 2) 0) ((a1 3) 0) g4, bFairG K (a1 1) g5, bFairG K (a1 2) g6, bNotesG K (a1 3) g7, bRuleG K a2 q.2.2.2.2]) (some (.int q.1)) := by
  refine rMet.of (by decide) rfl (Nat.le_of_ble_eq_true rfl) ?_
  refine r_sub (lv' := [(0, .ref ((a0 0) 0)), (1, .ref ((a1 0) 0)), (2, .ref (a2 0))]) [0, 1, 2] rfl ?_
  unfold mTrials_findRingsrr at h
  refine r_iconst (x := (0 : Int32)) dX9_findRings_0 (by decide) ?_
  refine r_istore_n (lv' := [(3, .int (0 : Int32)), (0, .ref ((a0 0) 0)), (1, .ref ((a1 0) 0)), (2, .ref (a2 0))]) dX9_findRings_1 (Nat.le_of_ble_eq_true rfl) rfl ?_
  refine r_iconst (x := (1 : Int32)) dX9_findRings_2 (by decide) ?_
  refine r_istore (lv' := [(4, .int (1 : Int32)), (3, .int (0 : Int32)), (0, .ref ((a0 0) 0)), (1, .ref ((a1 0) 0)), (2, .ref (a2 0))]) dX9_findRings_3 (Nat.le_of_ble_eq_true rfl) rfl ?_
  refine r_aload_n 2 dX9_findRings_5 rfl ?_
  refine gTrials_best 0 rfl (tb_in (i := 9) (j := 27) rfl rfl) dX9_findRings_6 ?_
  refine r_iconst (x := (0 : Int32)) dX9_findRings_9 (by decide) ?_
  obtain ⟨q1, h1, h⟩ := bd_some h
  refine b_callVN (isC := [3]) (ci := 3)  (st := []) (bs1 := [bTrialsG K (a0 0) ((a0 1) 0) ((a0 2) 0) ((a0 3) 0) g0, bFairG K (a0 1) g1, bOrderG K (a0 2) g2, bOrderG K (a0 3) q1, bWorldG K (a1 0) ((a1 1) 0) ((a1 2) 0) ((a1 3) 0) g4, bFairG K (a1 1) g5, bFairG K (a1 2) g6, bNotesG K (a1 3) g7, bRuleG K a2 g8]) (cOrder_begin (a0 := (a0 3)) (z0_who := g3.1) (z0_size := g3.2) h1) rfl rfl (Nat.le_of_ble_eq_true rfl) kOrder_begin (List.mem_of_getElem? (i := 55) rfl) (by decide) (by decide) rfl rfl rfl rfl rfl rfl rfl dX9_findRings_10 ?_
  refine r_aload_n 2 dX9_findRings_13 rfl ?_
  refine gTrials_order 0 rfl (tb_in (i := 9) (j := 26) rfl rfl) dX9_findRings_14 ?_
  refine r_aload_n 3 dX9_findRings_17 rfl ?_
  refine gWorld_toldN 4 rfl (List.mem_of_getElem? (i := 54) rfl) dX9_findRings_18 ?_
  refine gFair_stallsN 5 rfl (List.mem_of_getElem? (i := 16) rfl) dX9_findRings_21 ?_
  obtain ⟨q2, h2, h⟩ := bd_some h
  refine b_callVN (isC := [2]) (ci := 3)  (st := []) (bs1 := [bTrialsG K (a0 0) ((a0 1) 0) ((a0 2) 0) ((a0 3) 0) g0, bFairG K (a0 1) g1, bOrderG K (a0 2) q2, bOrderG K (a0 3) q1, bWorldG K (a1 0) ((a1 1) 0) ((a1 2) 0) ((a1 3) 0) g4, bFairG K (a1 1) g5, bFairG K (a1 2) g6, bNotesG K (a1 3) g7, bRuleG K a2 g8]) (cOrder_begin (a0 := (a0 2)) (z0_who := g2.1) (z0_size := g2.2) h2) rfl rfl (Nat.le_of_ble_eq_true rfl) kOrder_begin (List.mem_of_getElem? (i := 55) rfl) (by decide) (by decide) rfl rfl rfl rfl rfl rfl rfl dX9_findRings_24 ?_
  refine r_iconst (x := (0 : Int32)) dX9_findRings_27 (by decide) ?_
  refine r_istore (lv' := [(5, .int (0 : Int32)), (4, .int (1 : Int32)), (3, .int (0 : Int32)), (0, .ref ((a0 0) 0)), (1, .ref ((a1 0) 0)), (2, .ref (a2 0))]) dX9_findRings_28 (Nat.le_of_ble_eq_true rfl) rfl ?_
  refine r_sub (lv' := [(0, .ref ((a0 0) 0)), (1, .ref ((a1 0) 0)), (2, .ref (a2 0)), (3, .int (0 : Int32)), (4, .int (1 : Int32)), (5, .int (0 : Int32))]) [3, 4, 5, 2, 1, 0] rfl ?_
  exact cTrials_findRingsrr_l30 (g5 := g5) (g7 := g7)  FU (0 : Int32) (1 : Int32) (0 : Int32) g1 q2 q1 g8 h
end
abbrev MTrials_findRingsrn : rx_M := (RX9, yX9_findRings, cX9_findRings, 6, (some .int), 6)
theorem kTrials_findRingsrn : rKv MTrials_findRingsrn 2 := ⟨tb_in (i := 16) (j := 7) rfl rfl, tb_in (i := 16) (j := 8) rfl rfl, tb_in (i := 10) (j := 11) rfl rfl, tb_in (i := 11) (j := 21) rfl rfl, ⟨by decide, by decide, by decide +kernel⟩, by decide⟩
section
variable {a0 : Nat → Nat → Nat} {a1 : Nat → Nat → Nat} {g0 : tyTrials} {g1 : tyFair} {g2 : tyOrder} {g3 : tyOrder} {g4 : tyWorld} {g5 : tyFair} {g6 : tyFair} {g7 : tyNotes}
def mTrials_findRingsrn_l30 (g5 : tyFair) (g7 : tyNotes) : Nat → Int32 → Int32 → Int32 → tyFair → tyOrder → tyOrder → Option (Int32 × tyFair × tyOrder × tyOrder)
  | 0, _, _, _, _, _, _ => none
  | n + 1, x3, x4, x5, g1, g2, g3 => (if (120 : Int32) ≤ x5 then some (x3, g1, g2, g3) else (if x4 = 0 then some (x3, g1, g2, g3) else (mTrials_from g1 g5).bind (fun q5 => (mFair_stand_who q5.2.2.1 q5.2.2.2.2.2.2.2.1 q5.2.2.2.2.2.2.2.2.2.2.2.1 q5.2.2.2.2.2.2.2.2.2.2.2.2.1 q5.2.2.2.2.2.2.2.2.2.2.2.2.2.2.2.2.1 q5.2.2.2.2.2.2.2.2.2.2.2.2.2.2.2.2.2.1 q5.2.2.2.2.2.2.2.2.2.2.2.2.2.2.2.2.2.2 g2.1).bind (fun q6 => (mNotes_fitrn g7 (q5.1, q5.2.1, q5.2.2.1, q5.2.2.2.1, q5.2.2.2.2.1, q5.2.2.2.2.2.1, q5.2.2.2.2.2.2.1, q5.2.2.2.2.2.2.2.1, q5.2.2.2.2.2.2.2.2.1, q5.2.2.2.2.2.2.2.2.2.1, q5.2.2.2.2.2.2.2.2.2.2.1, q6.1, q5.2.2.2.2.2.2.2.2.2.2.2.2.1, q5.2.2.2.2.2.2.2.2.2.2.2.2.2.1, q5.2.2.2.2.2.2.2.2.2.2.2.2.2.2.1, q5.2.2.2.2.2.2.2.2.2.2.2.2.2.2.2.1, q6.2.1, q6.2.2.1, q6.2.2.2)).bind (fun q7 => (if q7.1 = 0 then (mOrder_goOn g2.1 g2.2).bind (fun q9 => mTrials_findRingsrn_l30 g5 g7 n x3 q9.1 (x5 + (1 : Int32)) q7.2 (q9.2, g2.2) g3) else (if x3 = 0 then (mOrder_copyFrom g3.1 g3.2 g2.1 g2.2).bind (fun q12 => (mOrder_goOn g2.1 g2.2).bind (fun q13 => mTrials_findRingsrn_l30 g5 g7 n (x3 + (1 : Int32)) q13.1 (x5 + (1 : Int32)) q7.2 (q13.2, g2.2) q12)) else (mOrder_goOn g2.1 g2.2).bind (fun q11 => mTrials_findRingsrn_l30 g5 g7 n (x3 + (1 : Int32)) q11.1 (x5 + (1 : Int32)) q7.2 (q11.2, g2.2) g3))))))))
set_option maxHeartbeats 4000000 in
set_option maxRecDepth 20000 in
theorem cTrials_findRingsrn_l30 {q : Int32 × tyFair × tyOrder × tyOrder}   : ∀ (n : Nat) (x3 : Int32) (x4 : Int32) (x5 : Int32) (g1 : tyFair) (g2 : tyOrder) (g3 : tyOrder), mTrials_findRingsrn_l30 g5 g7 n x3 x4 x5 g1 g2 g3 = some q → rW l D Z (ty7 K) MTrials_findRingsrn 30 [(0, .ref ((a0 0) 0)), (1, .ref ((a1 0) 0)), (2, .null), (3, .int x3), (4, .int x4), (5, .int x5)] [] (List.flatten [bTrialsG K (a0 0) ((a0 1) 0) ((a0 2) 0) ((a0 3) 0) g0, bFairG K (a0 1) g1, bOrderG K (a0 2) g2, bOrderG K (a0 3) g3, bWorldG K (a1 0) ((a1 1) 0) ((a1 2) 0) ((a1 3) 0) g4, bFairG K (a1 1) g5, bFairG K (a1 2) g6, bNotesG K (a1 3) g7]) (List.flatten [bTrialsG K (a0 0) ((a0 1) 0) ((a0 2) 0) ((a0 3) 0) g0, bFairG K (a0 1) q.2.1, bOrderG K (a0 2) q.2.2.1, bOrderG K (a0 3) q.2.2.2, bWorldG K (a1 0) ((a1 1) 0) ((a1 2) 0) ((a1 3) 0) g4, bFairG K (a1 1) g5, bFairG K (a1 2) g6, bNotesG K (a1 3) g7]) (some (.int q.1)) := by
  intro n
  induction n with
  | zero => intro x3 x4 x5 g1 g2 g3 h; unfold mTrials_findRingsrn_l30 at h; cases h
  | succ n ih =>
    intro x3 x4 x5 g1 g2 g3 h
    unfold mTrials_findRingsrn_l30 at h
    refine r_iload 5 dX9_findRings_30 rfl ?_
    refine r_bipush (x := (120 : Int32)) dX9_findRings_32 (by decide) ?_
    refine r_icmp_ge 108 dX9_findRings_34 (by decide) (fun c3 => ?_) (fun c3 => ?_)
    · replace h := it_pos c3 h
      refine r_iload_n 3 dX9_findRings_108 rfl ?_
      have hq := Option.some.inj h
      subst hq
      exact r_iret rfl dX9_findRings_109
    · replace h := it_neg c3 h
      refine r_iload 4 dX9_findRings_37 rfl ?_
      refine r_if_eq 108 dX9_findRings_39 (by decide) (fun c4 => ?_) (fun c4 => ?_)
      · replace h := it_pos c4 h
        refine r_iload_n 3 dX9_findRings_108 rfl ?_
        have hq := Option.some.inj h
        subst hq
        exact r_iret rfl dX9_findRings_109
      · replace h := it_neg c4 h
        refine r_aload_n 0 dX9_findRings_42 rfl ?_
        refine r_aload_n 1 dX9_findRings_43 rfl ?_
        refine gWorld_toldN 4 rfl (List.mem_of_getElem? (i := 54) rfl) dX9_findRings_44 ?_
        obtain ⟨q5, h5, h⟩ := bd_some h
        refine b_callV (isC := [0, 1, 2, 3, 5]) (ci := 7)  (st := []) (bs1 := [bTrialsG K (a0 0) ((a0 1) 0) ((a0 2) 0) ((a0 3) 0) g0, bFairG K (a0 1) q5, bOrderG K (a0 2) g2, bOrderG K (a0 3) g3, bWorldG K (a1 0) ((a1 1) 0) ((a1 2) 0) ((a1 3) 0) g4, bFairG K (a1 1) g5, bFairG K (a1 2) g6, bNotesG K (a1 3) g7]) (cTrials_from (a0 := a0) (a1 := (a1 1)) (g0 := g0) (g1 := g1) (g2 := g2) (g3 := g3) (g4 := g5) h5) rfl rfl (Nat.le_of_ble_eq_true rfl) kTrials_from (tb_in (i := 10) (j := 8) rfl rfl) (by decide) (by decide) rfl rfl rfl rfl rfl rfl rfl dX9_findRings_47 ?_
        refine r_aload_n 0 dX9_findRings_50 rfl ?_
        refine gTrials_order 0 rfl (tb_in (i := 9) (j := 26) rfl rfl) dX9_findRings_51 ?_
        refine gOrder_whoN 2 rfl (List.mem_of_getElem? (i := 60) rfl) dX9_findRings_54 ?_
        obtain ⟨q6, h6, h⟩ := bd_some h
        refine b_callVN (isC := [1, 2]) (ci := 1)  (st := []) (bs1 := [bTrialsG K (a0 0) ((a0 1) 0) ((a0 2) 0) ((a0 3) 0) g0, bFair K (a0 1) q5.1 q5.2.1 q5.2.2.1 q5.2.2.2.1 q5.2.2.2.2.1 q5.2.2.2.2.2.1 q5.2.2.2.2.2.2.1 q5.2.2.2.2.2.2.2.1 q5.2.2.2.2.2.2.2.2.1 q5.2.2.2.2.2.2.2.2.2.1 q5.2.2.2.2.2.2.2.2.2.2.1 q6.1 q5.2.2.2.2.2.2.2.2.2.2.2.2.1 q5.2.2.2.2.2.2.2.2.2.2.2.2.2.1 q5.2.2.2.2.2.2.2.2.2.2.2.2.2.2.1 q5.2.2.2.2.2.2.2.2.2.2.2.2.2.2.2.1 q6.2.1 q6.2.2.1 q6.2.2.2, bOrderG K (a0 2) g2, bOrderG K (a0 3) g3, bWorldG K (a1 0) ((a1 1) 0) ((a1 2) 0) ((a1 3) 0) g4, bFairG K (a1 1) g5, bFairG K (a1 2) g6, bNotesG K (a1 3) g7]) (cFair_stand_who (a0 := (a0 1)) (a1 := (a0 2)) (z0_lasts := q5.1) (z0_keeps := q5.2.1) (z0_stalls := q5.2.2.1) (z0_buyers := q5.2.2.2.1) (z0_minute := q5.2.2.2.2.1) (z0_goods := q5.2.2.2.2.2.1) (z0_price := q5.2.2.2.2.2.2.1) (z0_tongue := q5.2.2.2.2.2.2.2.1) (z0_till := q5.2.2.2.2.2.2.2.2.1) (z0_wealth := q5.2.2.2.2.2.2.2.2.2.1) (z0_sold := q5.2.2.2.2.2.2.2.2.2.2.1) (z0_ring := q5.2.2.2.2.2.2.2.2.2.2.2.1) (z0_grudges := q5.2.2.2.2.2.2.2.2.2.2.2.2.1) (z0_purse := q5.2.2.2.2.2.2.2.2.2.2.2.2.2.1) (z0_came := q5.2.2.2.2.2.2.2.2.2.2.2.2.2.2.1) (z0_had := q5.2.2.2.2.2.2.2.2.2.2.2.2.2.2.2.1) (z0_seller := q5.2.2.2.2.2.2.2.2.2.2.2.2.2.2.2.2.1) (z0_praise := q5.2.2.2.2.2.2.2.2.2.2.2.2.2.2.2.2.2.1) (z0_borne := q5.2.2.2.2.2.2.2.2.2.2.2.2.2.2.2.2.2.2) (z1_who := g2.1) (z1_size := g2.2) h6) rfl rfl (Nat.le_of_ble_eq_true rfl) kFair_stand_who (List.mem_of_getElem? (i := 56) rfl) (by decide) (by decide) rfl rfl rfl rfl rfl rfl rfl dX9_findRings_57 ?_
        refine r_aload_n 1 dX9_findRings_60 rfl ?_
        refine gWorld_notesN 4 rfl (List.mem_of_getElem? (i := 57) rfl) dX9_findRings_61 ?_
        refine r_aload_n 0 dX9_findRings_64 rfl ?_
        refine gTrials_fair 0 rfl (tb_in (i := 9) (j := 23) rfl rfl) dX9_findRings_65 ?_
        refine r_aload_nN 2 dX9_findRings_68 rfl ?_
        obtain ⟨q7, h7, h⟩ := bd_some h
        refine b_callVN (isC := [7, 1]) (ci := 2)  (st := []) (bs1 := [bTrialsG K (a0 0) ((a0 1) 0) ((a0 2) 0) ((a0 3) 0) g0, bFairG K (a0 1) q7.2, bOrderG K (a0 2) g2, bOrderG K (a0 3) g3, bWorldG K (a1 0) ((a1 1) 0) ((a1 2) 0) ((a1 3) 0) g4, bFairG K (a1 1) g5, bFairG K (a1 2) g6, bNotesG K (a1 3) g7]) (cNotes_fitrn (a0 := (a1 3)) (a1 := (a0 1)) (g0 := g7) (g1 := (q5.1, q5.2.1, q5.2.2.1, q5.2.2.2.1, q5.2.2.2.2.1, q5.2.2.2.2.2.1, q5.2.2.2.2.2.2.1, q5.2.2.2.2.2.2.2.1, q5.2.2.2.2.2.2.2.2.1, q5.2.2.2.2.2.2.2.2.2.1, q5.2.2.2.2.2.2.2.2.2.2.1, q6.1, q5.2.2.2.2.2.2.2.2.2.2.2.2.1, q5.2.2.2.2.2.2.2.2.2.2.2.2.2.1, q5.2.2.2.2.2.2.2.2.2.2.2.2.2.2.1, q5.2.2.2.2.2.2.2.2.2.2.2.2.2.2.2.1, q6.2.1, q6.2.2.1, q6.2.2.2)) h7) rfl rfl (Nat.le_of_ble_eq_true rfl) kNotes_fitrn (List.mem_of_getElem? (i := 76) rfl) (by decide) (by decide) rfl rfl rfl rfl rfl rfl rfl dX9_findRings_69 ?_
        refine r_if_eq 93 dX9_findRings_72 (by decide) (fun c8 => ?_) (fun c8 => ?_)
        · replace h := it_pos c8 h
          refine r_aload_n 0 dX9_findRings_93 rfl ?_
          refine gTrials_order 0 rfl (tb_in (i := 9) (j := 26) rfl rfl) dX9_findRings_94 ?_
          obtain ⟨q9, h9, h⟩ := bd_some h
          refine b_callVN (isC := [2]) (ci := 3)  (st := []) (bs1 := [bTrialsG K (a0 0) ((a0 1) 0) ((a0 2) 0) ((a0 3) 0) g0, bFairG K (a0 1) q7.2, bOrder K (a0 2) q9.2 g2.2, bOrderG K (a0 3) g3, bWorldG K (a1 0) ((a1 1) 0) ((a1 2) 0) ((a1 3) 0) g4, bFairG K (a1 1) g5, bFairG K (a1 2) g6, bNotesG K (a1 3) g7]) (cOrder_goOn (a0 := (a0 2)) (z0_who := g2.1) (z0_size := g2.2) h9) rfl rfl (Nat.le_of_ble_eq_true rfl) kOrder_goOn (List.mem_of_getElem? (i := 59) rfl) (by decide) (by decide) rfl rfl rfl rfl rfl rfl rfl dX9_findRings_97 ?_
          refine r_istore (lv' := [(4, .int q9.1), (0, .ref ((a0 0) 0)), (1, .ref ((a1 0) 0)), (2, .null), (3, .int x3), (5, .int x5)]) dX9_findRings_100 (Nat.le_of_ble_eq_true rfl) rfl ?_
          refine r_iinc (y := (x5 + (1 : Int32))) (lv' := [(5, .int (x5 + (1 : Int32))), (4, .int q9.1), (0, .ref ((a0 0) 0)), (1, .ref ((a1 0) 0)), (2, .null), (3, .int x3)]) 5 dX9_findRings_102 rfl rfl (Nat.le_of_ble_eq_true rfl) rfl ?_
          refine r_goto 30 dX9_findRings_105 (by decide) ?_
          refine r_sub (lv' := [(0, .ref ((a0 0) 0)), (1, .ref ((a1 0) 0)), (2, .null), (3, .int x3), (4, .int q9.1), (5, .int (x5 + (1 : Int32)))]) [2, 3, 4, 5, 1, 0] rfl ?_
          exact ih x3 q9.1 (x5 + (1 : Int32)) q7.2 (q9.2, g2.2) g3 h
        · replace h := it_neg c8 h
          refine r_iload_n 3 dX9_findRings_75 rfl ?_
          refine r_if_ne 90 dX9_findRings_76 (by decide) (fun c10 => ?_) (fun c10 => ?_)
          · replace h := it_neg c10 h
            refine r_iinc (y := (x3 + (1 : Int32))) (lv' := [(3, .int (x3 + (1 : Int32))), (0, .ref ((a0 0) 0)), (1, .ref ((a1 0) 0)), (2, .null), (4, .int x4), (5, .int x5)]) 3 dX9_findRings_90 rfl rfl (Nat.le_of_ble_eq_true rfl) rfl ?_
            refine r_aload_n 1 dX9_findRings_93 rfl ?_
            refine gTrials_order 0 rfl (tb_in (i := 9) (j := 26) rfl rfl) dX9_findRings_94 ?_
            obtain ⟨q11, h11, h⟩ := bd_some h
            refine b_callVN (isC := [2]) (ci := 3)  (st := []) (bs1 := [bTrialsG K (a0 0) ((a0 1) 0) ((a0 2) 0) ((a0 3) 0) g0, bFairG K (a0 1) q7.2, bOrder K (a0 2) q11.2 g2.2, bOrderG K (a0 3) g3, bWorldG K (a1 0) ((a1 1) 0) ((a1 2) 0) ((a1 3) 0) g4, bFairG K (a1 1) g5, bFairG K (a1 2) g6, bNotesG K (a1 3) g7]) (cOrder_goOn (a0 := (a0 2)) (z0_who := g2.1) (z0_size := g2.2) h11) rfl rfl (Nat.le_of_ble_eq_true rfl) kOrder_goOn (List.mem_of_getElem? (i := 59) rfl) (by decide) (by decide) rfl rfl rfl rfl rfl rfl rfl dX9_findRings_97 ?_
            refine r_istore (lv' := [(4, .int q11.1), (3, .int (x3 + (1 : Int32))), (0, .ref ((a0 0) 0)), (1, .ref ((a1 0) 0)), (2, .null), (5, .int x5)]) dX9_findRings_100 (Nat.le_of_ble_eq_true rfl) rfl ?_
            refine r_iinc (y := (x5 + (1 : Int32))) (lv' := [(5, .int (x5 + (1 : Int32))), (4, .int q11.1), (3, .int (x3 + (1 : Int32))), (0, .ref ((a0 0) 0)), (1, .ref ((a1 0) 0)), (2, .null)]) 5 dX9_findRings_102 rfl rfl (Nat.le_of_ble_eq_true rfl) rfl ?_
            refine r_goto 30 dX9_findRings_105 (by decide) ?_
            refine r_sub (lv' := [(0, .ref ((a0 0) 0)), (1, .ref ((a1 0) 0)), (2, .null), (3, .int (x3 + (1 : Int32))), (4, .int q11.1), (5, .int (x5 + (1 : Int32)))]) [3, 4, 5, 2, 1, 0] rfl ?_
            exact ih (x3 + (1 : Int32)) q11.1 (x5 + (1 : Int32)) q7.2 (q11.2, g2.2) g3 h
          · replace h := it_pos c10 h
            refine r_aload_n 0 dX9_findRings_79 rfl ?_
            refine gTrials_best 0 rfl (tb_in (i := 9) (j := 27) rfl rfl) dX9_findRings_80 ?_
            refine r_aload_n 0 dX9_findRings_83 rfl ?_
            refine gTrials_order 0 rfl (tb_in (i := 9) (j := 26) rfl rfl) dX9_findRings_84 ?_
            obtain ⟨q12, h12, h⟩ := bd_some h
            refine b_callVN (isC := [3, 2]) (ci := 3)  (st := []) (bs1 := [bTrialsG K (a0 0) ((a0 1) 0) ((a0 2) 0) ((a0 3) 0) g0, bFairG K (a0 1) q7.2, bOrderG K (a0 2) g2, bOrderG K (a0 3) q12, bWorldG K (a1 0) ((a1 1) 0) ((a1 2) 0) ((a1 3) 0) g4, bFairG K (a1 1) g5, bFairG K (a1 2) g6, bNotesG K (a1 3) g7]) (cOrder_copyFrom (a0 := (a0 3)) (a1 := (a0 2)) (z0_who := g3.1) (z0_size := g3.2) (z1_who := g2.1) (z1_size := g2.2) h12) rfl rfl (Nat.le_of_ble_eq_true rfl) kOrder_copyFrom (List.mem_of_getElem? (i := 58) rfl) (by decide) (by decide) rfl rfl rfl rfl rfl rfl rfl dX9_findRings_87 ?_
            refine r_iinc (y := (x3 + (1 : Int32))) (lv' := [(3, .int (x3 + (1 : Int32))), (0, .ref ((a0 0) 0)), (1, .ref ((a1 0) 0)), (2, .null), (4, .int x4), (5, .int x5)]) 3 dX9_findRings_90 rfl rfl (Nat.le_of_ble_eq_true rfl) rfl ?_
            refine r_aload_n 1 dX9_findRings_93 rfl ?_
            refine gTrials_order 0 rfl (tb_in (i := 9) (j := 26) rfl rfl) dX9_findRings_94 ?_
            obtain ⟨q13, h13, h⟩ := bd_some h
            refine b_callVN (isC := [2]) (ci := 3)  (st := []) (bs1 := [bTrialsG K (a0 0) ((a0 1) 0) ((a0 2) 0) ((a0 3) 0) g0, bFairG K (a0 1) q7.2, bOrder K (a0 2) q13.2 g2.2, bOrderG K (a0 3) q12, bWorldG K (a1 0) ((a1 1) 0) ((a1 2) 0) ((a1 3) 0) g4, bFairG K (a1 1) g5, bFairG K (a1 2) g6, bNotesG K (a1 3) g7]) (cOrder_goOn (a0 := (a0 2)) (z0_who := g2.1) (z0_size := g2.2) h13) rfl rfl (Nat.le_of_ble_eq_true rfl) kOrder_goOn (List.mem_of_getElem? (i := 59) rfl) (by decide) (by decide) rfl rfl rfl rfl rfl rfl rfl dX9_findRings_97 ?_
            refine r_istore (lv' := [(4, .int q13.1), (3, .int (x3 + (1 : Int32))), (0, .ref ((a0 0) 0)), (1, .ref ((a1 0) 0)), (2, .null), (5, .int x5)]) dX9_findRings_100 (Nat.le_of_ble_eq_true rfl) rfl ?_
            refine r_iinc (y := (x5 + (1 : Int32))) (lv' := [(5, .int (x5 + (1 : Int32))), (4, .int q13.1), (3, .int (x3 + (1 : Int32))), (0, .ref ((a0 0) 0)), (1, .ref ((a1 0) 0)), (2, .null)]) 5 dX9_findRings_102 rfl rfl (Nat.le_of_ble_eq_true rfl) rfl ?_
            refine r_goto 30 dX9_findRings_105 (by decide) ?_
            refine r_sub (lv' := [(0, .ref ((a0 0) 0)), (1, .ref ((a1 0) 0)), (2, .null), (3, .int (x3 + (1 : Int32))), (4, .int q13.1), (5, .int (x5 + (1 : Int32)))]) [3, 4, 5, 2, 1, 0] rfl ?_
            exact ih (x3 + (1 : Int32)) q13.1 (x5 + (1 : Int32)) q7.2 (q13.2, g2.2) q12 h
def mTrials_findRingsrn (g1 : tyFair) (g2 : tyOrder) (g3 : tyOrder) (g5 : tyFair) (g7 : tyNotes) : Option (Int32 × tyFair × tyOrder × tyOrder) := (mOrder_begin (0 : Int32) g3.1 g3.2).bind (fun q1 => (mOrder_begin g5.2.2.1 g2.1 g2.2).bind (fun q2 => mTrials_findRingsrn_l30 g5 g7 FU (0 : Int32) (1 : Int32) (0 : Int32) g1 q2 q1))
set_option maxHeartbeats 4000000 in
set_option maxRecDepth 20000 in
theorem cTrials_findRingsrn {q : Int32 × tyFair × tyOrder × tyOrder}  (h : mTrials_findRingsrn g1 g2 g3 g5 g7 = some q) : rMet l D Z (ty7 K) MTrials_findRingsrn [.ref ((a0 0) 0), .ref ((a1 0) 0), .null] (List.flatten [bTrialsG K (a0 0) ((a0 1) 0) ((a0 2) 0) ((a0 3) 0) g0, bFairG K (a0 1) g1, bOrderG K (a0 2) g2, bOrderG K (a0 3) g3, bWorldG K (a1 0) ((a1 1) 0) ((a1 2) 0) ((a1 3) 0) g4, bFairG K (a1 1) g5, bFairG K (a1 2) g6, bNotesG K (a1 3) g7]) (List.flatten [bTrialsG K (a0 0) ((a0 1) 0) ((a0 2) 0) ((a0 3) 0) g0, bFairG K (a0 1) q.2.1, bOrderG K (a0 2) q.2.2.1, bOrderG K (a0 3) q.2.2.2, bWorldG K (a1 0) ((a1 1) 0) ((a1 2) 0) ((a1 3) 0) g4, bFairG K (a1 1) g5, bFairG K (a1 2) g6, bNotesG K (a1 3) g7]) (some (.int q.1)) := by
  refine rMet.of (by decide) rfl (Nat.le_of_ble_eq_true rfl) ?_
  refine r_sub (lv' := [(0, .ref ((a0 0) 0)), (1, .ref ((a1 0) 0)), (2, .null)]) [0, 1, 2] rfl ?_
  unfold mTrials_findRingsrn at h
  refine r_iconst (x := (0 : Int32)) dX9_findRings_0 (by decide) ?_
  refine r_istore_n (lv' := [(3, .int (0 : Int32)), (0, .ref ((a0 0) 0)), (1, .ref ((a1 0) 0)), (2, .null)]) dX9_findRings_1 (Nat.le_of_ble_eq_true rfl) rfl ?_
  refine r_iconst (x := (1 : Int32)) dX9_findRings_2 (by decide) ?_
  refine r_istore (lv' := [(4, .int (1 : Int32)), (3, .int (0 : Int32)), (0, .ref ((a0 0) 0)), (1, .ref ((a1 0) 0)), (2, .null)]) dX9_findRings_3 (Nat.le_of_ble_eq_true rfl) rfl ?_
  refine r_aload_n 2 dX9_findRings_5 rfl ?_
  refine gTrials_best 0 rfl (tb_in (i := 9) (j := 27) rfl rfl) dX9_findRings_6 ?_
  refine r_iconst (x := (0 : Int32)) dX9_findRings_9 (by decide) ?_
  obtain ⟨q1, h1, h⟩ := bd_some h
  refine b_callVN (isC := [3]) (ci := 3)  (st := []) (bs1 := [bTrialsG K (a0 0) ((a0 1) 0) ((a0 2) 0) ((a0 3) 0) g0, bFairG K (a0 1) g1, bOrderG K (a0 2) g2, bOrderG K (a0 3) q1, bWorldG K (a1 0) ((a1 1) 0) ((a1 2) 0) ((a1 3) 0) g4, bFairG K (a1 1) g5, bFairG K (a1 2) g6, bNotesG K (a1 3) g7]) (cOrder_begin (a0 := (a0 3)) (z0_who := g3.1) (z0_size := g3.2) h1) rfl rfl (Nat.le_of_ble_eq_true rfl) kOrder_begin (List.mem_of_getElem? (i := 55) rfl) (by decide) (by decide) rfl rfl rfl rfl rfl rfl rfl dX9_findRings_10 ?_
  refine r_aload_n 2 dX9_findRings_13 rfl ?_
  refine gTrials_order 0 rfl (tb_in (i := 9) (j := 26) rfl rfl) dX9_findRings_14 ?_
  refine r_aload_n 3 dX9_findRings_17 rfl ?_
  refine gWorld_toldN 4 rfl (List.mem_of_getElem? (i := 54) rfl) dX9_findRings_18 ?_
  refine gFair_stallsN 5 rfl (List.mem_of_getElem? (i := 16) rfl) dX9_findRings_21 ?_
  obtain ⟨q2, h2, h⟩ := bd_some h
  refine b_callVN (isC := [2]) (ci := 3)  (st := []) (bs1 := [bTrialsG K (a0 0) ((a0 1) 0) ((a0 2) 0) ((a0 3) 0) g0, bFairG K (a0 1) g1, bOrderG K (a0 2) q2, bOrderG K (a0 3) q1, bWorldG K (a1 0) ((a1 1) 0) ((a1 2) 0) ((a1 3) 0) g4, bFairG K (a1 1) g5, bFairG K (a1 2) g6, bNotesG K (a1 3) g7]) (cOrder_begin (a0 := (a0 2)) (z0_who := g2.1) (z0_size := g2.2) h2) rfl rfl (Nat.le_of_ble_eq_true rfl) kOrder_begin (List.mem_of_getElem? (i := 55) rfl) (by decide) (by decide) rfl rfl rfl rfl rfl rfl rfl dX9_findRings_24 ?_
  refine r_iconst (x := (0 : Int32)) dX9_findRings_27 (by decide) ?_
  refine r_istore (lv' := [(5, .int (0 : Int32)), (4, .int (1 : Int32)), (3, .int (0 : Int32)), (0, .ref ((a0 0) 0)), (1, .ref ((a1 0) 0)), (2, .null)]) dX9_findRings_28 (Nat.le_of_ble_eq_true rfl) rfl ?_
  refine r_sub (lv' := [(0, .ref ((a0 0) 0)), (1, .ref ((a1 0) 0)), (2, .null), (3, .int (0 : Int32)), (4, .int (1 : Int32)), (5, .int (0 : Int32))]) [3, 4, 5, 2, 1, 0] rfl ?_
  exact cTrials_findRingsrn_l30 (g5 := g5) (g7 := g7)  FU (0 : Int32) (1 : Int32) (0 : Int32) g1 q2 q1 h
end
theorem dX9_findRains_0 : decode cX9_findRains 0 = .ok (.aload_n 1, 1) := by decide +kernel
theorem dX9_findRains_1 : decode cX9_findRains 1 = .ok (.getfield 166, 3) := by decide +kernel
theorem dX9_findRains_4 : decode cX9_findRains 4 = .ok (.i2l, 1) := by decide +kernel
theorem dX9_findRains_5 : decode cX9_findRains 5 = .ok (.lstore 6, 2) := by decide +kernel
theorem dX9_findRains_7 : decode cX9_findRains 7 = .ok (.aload_n 0, 1) := by decide +kernel
theorem dX9_findRains_8 : decode cX9_findRains 8 = .ok (.iconst 0, 1) := by decide +kernel
theorem dX9_findRains_9 : decode cX9_findRains 9 = .ok (.iconst 0, 1) := by decide +kernel
theorem dX9_findRains_10 : decode cX9_findRains 10 = .ok (.iconst 0, 1) := by decide +kernel
theorem dX9_findRains_11 : decode cX9_findRains 11 = .ok (.invokevirtual 92, 3) := by decide +kernel
theorem dX9_findRains_14 : decode cX9_findRains 14 = .ok (.iconst 0, 1) := by decide +kernel
theorem dX9_findRains_15 : decode cX9_findRains 15 = .ok (.istore 8, 2) := by decide +kernel
theorem dX9_findRains_17 : decode cX9_findRains 17 = .ok (.iload 8, 2) := by decide +kernel
theorem dX9_findRains_19 : decode cX9_findRains 19 = .ok (.iload_n 3, 1) := by decide +kernel
theorem dX9_findRains_20 : decode cX9_findRains 20 = .ok (.if_icmp .ge 115, 3) := by decide +kernel
theorem dX9_findRains_23 : decode cX9_findRains 23 = .ok (.aload_n 0, 1) := by decide +kernel
theorem dX9_findRains_24 : decode cX9_findRains 24 = .ok (.aload_n 1, 1) := by decide +kernel
theorem dX9_findRains_25 : decode cX9_findRains 25 = .ok (.getfield 169, 3) := by decide +kernel
theorem dX9_findRains_28 : decode cX9_findRains 28 = .ok (.invokevirtual 66, 3) := by decide +kernel
theorem dX9_findRains_31 : decode cX9_findRains 31 = .ok (.pop, 1) := by decide +kernel
theorem dX9_findRains_32 : decode cX9_findRains 32 = .ok (.iconst 0, 1) := by decide +kernel
theorem dX9_findRains_33 : decode cX9_findRains 33 = .ok (.istore 9, 2) := by decide +kernel
theorem dX9_findRains_35 : decode cX9_findRains 35 = .ok (.iload 9, 2) := by decide +kernel
theorem dX9_findRains_37 : decode cX9_findRains 37 = .ok (.iload 4, 2) := by decide +kernel
theorem dX9_findRains_39 : decode cX9_findRains 39 = .ok (.if_icmp .ge 67, 3) := by decide +kernel
theorem dX9_findRains_42 : decode cX9_findRains 42 = .ok (.lload 6, 2) := by decide +kernel
theorem dX9_findRains_44 : decode cX9_findRains 44 = .ok (.ldc2_w 172, 3) := by decide +kernel
theorem dX9_findRains_47 : decode cX9_findRains 47 = .ok (.lmul, 1) := by decide +kernel
theorem dX9_findRains_48 : decode cX9_findRains 48 = .ok (.ldc2_w 174, 3) := by decide +kernel
theorem dX9_findRains_51 : decode cX9_findRains 51 = .ok (.ladd, 1) := by decide +kernel
theorem dX9_findRains_52 : decode cX9_findRains 52 = .ok (.ldc2_w 176, 3) := by decide +kernel
theorem dX9_findRains_55 : decode cX9_findRains 55 = .ok (.lrem, 1) := by decide +kernel
theorem dX9_findRains_56 : decode cX9_findRains 56 = .ok (.lstore 6, 2) := by decide +kernel
theorem dX9_findRains_58 : decode cX9_findRains 58 = .ok (.lload 6, 2) := by decide +kernel
theorem dX9_findRains_60 : decode cX9_findRains 60 = .ok (.ldc2_w 178, 3) := by decide +kernel
theorem dX9_findRains_63 : decode cX9_findRains 63 = .ok (.ldiv, 1) := by decide +kernel
theorem dX9_findRains_64 : decode cX9_findRains 64 = .ok (.ldc2_w 180, 3) := by decide +kernel
theorem dX9_findRains_67 : decode cX9_findRains 67 = .ok (.lrem, 1) := by decide +kernel
theorem dX9_findRains_68 : decode cX9_findRains 68 = .ok (.iload 5, 2) := by decide +kernel
theorem dX9_findRains_70 : decode cX9_findRains 70 = .ok (.i2l, 1) := by decide +kernel
theorem dX9_findRains_71 : decode cX9_findRains 71 = .ok (.lcmp, 1) := by decide +kernel
theorem dX9_findRains_72 : decode cX9_findRains 72 = .ok (.ifCond .lt 21, 3) := by decide +kernel
theorem dX9_findRains_75 : decode cX9_findRains 75 = .ok (.aload_n 0, 1) := by decide +kernel
theorem dX9_findRains_76 : decode cX9_findRains 76 = .ok (.getfield 28, 3) := by decide +kernel
theorem dX9_findRains_79 : decode cX9_findRains 79 = .ok (.iconst 0, 1) := by decide +kernel
theorem dX9_findRains_80 : decode cX9_findRains 80 = .ok (.dup2, 1) := by decide +kernel
theorem dX9_findRains_81 : decode cX9_findRains 81 = .ok (.iaload, 1) := by decide +kernel
theorem dX9_findRains_82 : decode cX9_findRains 82 = .ok (.aload_n 0, 1) := by decide +kernel
theorem dX9_findRains_83 : decode cX9_findRains 83 = .ok (.getfield 12, 3) := by decide +kernel
theorem dX9_findRains_86 : decode cX9_findRains 86 = .ok (.aload_n 2, 1) := by decide +kernel
theorem dX9_findRains_87 : decode cX9_findRains 87 = .ok (.iconst (-1), 1) := by decide +kernel
theorem dX9_findRains_88 : decode cX9_findRains 88 = .ok (.invokevirtual 182, 3) := by decide +kernel
theorem dX9_findRains_91 : decode cX9_findRains 91 = .ok (.iadd, 1) := by decide +kernel
theorem dX9_findRains_92 : decode cX9_findRains 92 = .ok (.iastore, 1) := by decide +kernel
theorem dX9_findRains_93 : decode cX9_findRains 93 = .ok (.aload_n 0, 1) := by decide +kernel
theorem dX9_findRains_94 : decode cX9_findRains 94 = .ok (.getfield 12, 3) := by decide +kernel
theorem dX9_findRains_97 : decode cX9_findRains 97 = .ok (.invokevirtual 186, 3) := by decide +kernel
theorem dX9_findRains_100 : decode cX9_findRains 100 = .ok (.iinc 9 1, 3) := by decide +kernel
theorem dX9_findRains_103 : decode cX9_findRains 103 = .ok (.goto (-68), 3) := by decide +kernel
theorem dX9_findRains_106 : decode cX9_findRains 106 = .ok (.aload_n 0, 1) := by decide +kernel
theorem dX9_findRains_107 : decode cX9_findRains 107 = .ok (.getfield 28, 3) := by decide +kernel
theorem dX9_findRains_110 : decode cX9_findRains 110 = .ok (.iconst 1, 1) := by decide +kernel
theorem dX9_findRains_111 : decode cX9_findRains 111 = .ok (.dup2, 1) := by decide +kernel
theorem dX9_findRains_112 : decode cX9_findRains 112 = .ok (.iaload, 1) := by decide +kernel
theorem dX9_findRains_113 : decode cX9_findRains 113 = .ok (.aload_n 0, 1) := by decide +kernel
theorem dX9_findRains_114 : decode cX9_findRains 114 = .ok (.getfield 12, 3) := by decide +kernel
theorem dX9_findRains_117 : decode cX9_findRains 117 = .ok (.aload_n 0, 1) := by decide +kernel
theorem dX9_findRains_118 : decode cX9_findRains 118 = .ok (.getfield 12, 3) := by decide +kernel
theorem dX9_findRains_121 : decode cX9_findRains 121 = .ok (.getfield 189, 3) := by decide +kernel
theorem dX9_findRains_124 : decode cX9_findRains 124 = .ok (.invokevirtual 88, 3) := by decide +kernel
theorem dX9_findRains_127 : decode cX9_findRains 127 = .ok (.iadd, 1) := by decide +kernel
theorem dX9_findRains_128 : decode cX9_findRains 128 = .ok (.iastore, 1) := by decide +kernel
theorem dX9_findRains_129 : decode cX9_findRains 129 = .ok (.iinc 8 1, 3) := by decide +kernel
theorem dX9_findRains_132 : decode cX9_findRains 132 = .ok (.goto (-115), 3) := by decide +kernel
theorem dX9_findRains_135 : decode cX9_findRains 135 = .ok (.return_, 1) := by decide +kernel
abbrev MTrials_findRainsrr : rx_M := (RX9, yX9_findRains, cX9_findRains, 10, none, 6)
theorem kTrials_findRainsrr : rKv MTrials_findRainsrr 5 := ⟨tb_in (i := 16) (j := 11) rfl rfl, tb_in (i := 16) (j := 12) rfl rfl, tb_in (i := 10) (j := 11) rfl rfl, tb_in (i := 11) (j := 27) rfl rfl, ⟨by decide, by decide, by decide +kernel⟩, by decide⟩
section
variable {a0 : Nat → Nat → Nat} {a1 : Nat → Nat → Nat} {a2 : Nat → Nat} {g0 : tyTrials} {g1 : tyFair} {g2 : tyOrder} {g3 : tyOrder} {g4 : tyWorld} {g5 : tyFair} {g6 : tyFair} {g7 : tyNotes} {g8 : tyRule}
def mTrials_findRainsrr_l35 (g4 : tyWorld) (g6 : tyFair) (x3 : Int32) (x4 : Int32) (x5 : Int32) (x8 : Int32) (k17 : Int64 → Int32 → tyTrials → tyFair → tyRule → Option (tyTrials × tyFair × tyRule)) : Nat → Int64 → Int32 → tyTrials → tyFair → tyRule → Option (tyTrials × tyFair × tyRule)
  | 0, _, _, _, _, _ => none
  | n + 1, x6, x9, g0, g1, g8 => (if x4 ≤ x9 then rq (inb (1 : Int32) 3) ((mFair_sumOf_goods g1.2.2.1 g1.2.2.2.2.2.1).bind (fun q7 => rq (inb (1 : Int32) 3) (lt (upd g0.1 (1 : Int32).toNatClampNeg ((g0.1 (1 : Int32).toNatClampNeg) + q7)) (fun u8 => k17 x6 (x8 + (1 : Int32)) (u8, g0.2.1, g0.2.2.1, g0.2.2.2.1, g0.2.2.2.2) g1 g8)))) else lt (((x6 * (1103515245 : Int64)) + (12345 : Int64)) - ((x6 * (1103515245 : Int64)) + (12345 : Int64)) / (2147483648 : Int64) * (2147483648 : Int64)) (fun y9 => (if (lg_cmp ((y9 / (65536 : Int64)) - (y9 / (65536 : Int64)) / (100 : Int64) * (100 : Int64)) (x5.toInt64)) < 0 then (mFair_closeMinute g1.1 g1.2.1 g1.2.2.1 g1.2.2.2.2.1 g1.2.2.2.2.2.2.2.2.1 g1.2.2.2.2.2.2.2.2.2.1 g1.2.2.2.2.2.2.2.2.2.2.2.2.2.2.2.2.1).bind (fun q11 => mTrials_findRainsrr_l35 g4 g6 x3 x4 x5 x8 k17 n y9 (x9 + (1 : Int32)) g0 (g1.1, g1.2.1, g1.2.2.1, g1.2.2.2.1, q11.1, g1.2.2.2.2.2.1, g1.2.2.2.2.2.2.1, g1.2.2.2.2.2.2.2.1, q11.2.1, q11.2.2, g1.2.2.2.2.2.2.2.2.2.2.1, g1.2.2.2.2.2.2.2.2.2.2.2.1, g1.2.2.2.2.2.2.2.2.2.2.2.2.1, g1.2.2.2.2.2.2.2.2.2.2.2.2.2.1, g1.2.2.2.2.2.2.2.2.2.2.2.2.2.2.1, g1.2.2.2.2.2.2.2.2.2.2.2.2.2.2.2.1, g1.2.2.2.2.2.2.2.2.2.2.2.2.2.2.2.2.1, g1.2.2.2.2.2.2.2.2.2.2.2.2.2.2.2.2.2.1, g1.2.2.2.2.2.2.2.2.2.2.2.2.2.2.2.2.2.2) g8) else rq (inb (0 : Int32) 3) ((mFair_trader (-1 : Int32) g1.1 g1.2.2.1 g1.2.2.2.1 g1.2.2.2.2.1 g1.2.2.2.2.2.1 g1.2.2.2.2.2.2.1 g1.2.2.2.2.2.2.2.2.1 g1.2.2.2.2.2.2.2.2.2.2.1 g1.2.2.2.2.2.2.2.2.2.2.2.2.2.1 g1.2.2.2.2.2.2.2.2.2.2.2.2.2.2.1 g1.2.2.2.2.2.2.2.2.2.2.2.2.2.2.2.1 g1.2.2.2.2.2.2.2.2.2.2.2.2.2.2.2.2.1 g1.2.2.2.2.2.2.2.2.2.2.2.2.2.2.2.2.2.1 g1.2.2.2.2.2.2.2.2.2.2.2.2.2.2.2.2.2.2 g8.1 g8.2.1 g8.2.2.1 g8.2.2.2.1 g8.2.2.2.2.1 g8.2.2.2.2.2.1 g8.2.2.2.2.2.2.2.2.1 g8.2.2.2.2.2.2.2.2.2).bind (fun q13 => rq (inb (0 : Int32) 3) (lt (upd g0.1 (0 : Int32).toNatClampNeg ((g0.1 (0 : Int32).toNatClampNeg) + q13.1)) (fun u14 => (mFair_closeMinute g1.1 g1.2.1 g1.2.2.1 g1.2.2.2.2.1 q13.2.2.1 g1.2.2.2.2.2.2.2.2.2.1 g1.2.2.2.2.2.2.2.2.2.2.2.2.2.2.2.2.1).bind (fun q15 => mTrials_findRainsrr_l35 g4 g6 x3 x4 x5 x8 k17 n y9 (x9 + (1 : Int32)) (u14, g0.2.1, g0.2.2.1, g0.2.2.2.1, g0.2.2.2.2) (g1.1, g1.2.1, g1.2.2.1, g1.2.2.2.1, q15.1, q13.2.1, g1.2.2.2.2.2.2.1, g1.2.2.2.2.2.2.2.1, q15.2.1, q15.2.2, q13.2.2.2.1, g1.2.2.2.2.2.2.2.2.2.2.2.1, g1.2.2.2.2.2.2.2.2.2.2.2.2.1, q13.2.2.2.2.1, g1.2.2.2.2.2.2.2.2.2.2.2.2.2.2.1, q13.2.2.2.2.2.1, g1.2.2.2.2.2.2.2.2.2.2.2.2.2.2.2.2.1, g1.2.2.2.2.2.2.2.2.2.2.2.2.2.2.2.2.2.1, g1.2.2.2.2.2.2.2.2.2.2.2.2.2.2.2.2.2.2) (g8.1, g8.2.1, g8.2.2.1, g8.2.2.2.1, g8.2.2.2.2.1, g8.2.2.2.2.2.1, g8.2.2.2.2.2.2.1, g8.2.2.2.2.2.2.2.1, q13.2.2.2.2.2.2.1, q13.2.2.2.2.2.2.2)))))))))
set_option maxHeartbeats 4000000 in
set_option maxRecDepth 20000 in
theorem cTrials_findRainsrr_l35 {q : tyTrials × tyFair × tyRule} {x3 : Int32} {x4 : Int32} {x5 : Int32} {x8 : Int32} {k17 : Int64 → Int32 → tyTrials → tyFair → tyRule → Option (tyTrials × tyFair × tyRule)} (hk17 : ∀ (x6 : Int64) (x8 : Int32) (g0 : tyTrials) (g1 : tyFair) (g8 : tyRule), k17 x6 x8 g0 g1 g8 = some q → rW l D Z (ty7 K) MTrials_findRainsrr 17 [(0, .ref ((a0 0) 0)), (1, .ref ((a1 0) 0)), (2, .ref (a2 0)), (3, .int x3), (4, .int x4), (5, .int x5), (6, .long x6), (8, .int x8)] [] (List.flatten [bTrialsG K (a0 0) ((a0 1) 0) ((a0 2) 0) ((a0 3) 0) g0, bFairG K (a0 1) g1, bOrderG K (a0 2) g2, bOrderG K (a0 3) g3, bWorldG K (a1 0) ((a1 1) 0) ((a1 2) 0) ((a1 3) 0) g4, bFairG K (a1 1) g5, bFairG K (a1 2) g6, bNotesG K (a1 3) g7, bRuleG K a2 g8]) (List.flatten [bTrialsG K (a0 0) ((a0 1) 0) ((a0 2) 0) ((a0 3) 0) q.1, bFairG K (a0 1) q.2.1, bOrderG K (a0 2) g2, bOrderG K (a0 3) g3, bWorldG K (a1 0) ((a1 1) 0) ((a1 2) 0) ((a1 3) 0) g4, bFairG K (a1 1) g5, bFairG K (a1 2) g6, bNotesG K (a1 3) g7, bRuleG K a2 q.2.2]) none) : ∀ (n : Nat) (x6 : Int64) (x9 : Int32) (g0 : tyTrials) (g1 : tyFair) (g8 : tyRule), mTrials_findRainsrr_l35 g4 g6 x3 x4 x5 x8 k17 n x6 x9 g0 g1 g8 = some q → rW l D Z (ty7 K) MTrials_findRainsrr 35 [(0, .ref ((a0 0) 0)), (1, .ref ((a1 0) 0)), (2, .ref (a2 0)), (3, .int x3), (4, .int x4), (5, .int x5), (6, .long x6), (8, .int x8), (9, .int x9)] [] (List.flatten [bTrialsG K (a0 0) ((a0 1) 0) ((a0 2) 0) ((a0 3) 0) g0, bFairG K (a0 1) g1, bOrderG K (a0 2) g2, bOrderG K (a0 3) g3, bWorldG K (a1 0) ((a1 1) 0) ((a1 2) 0) ((a1 3) 0) g4, bFairG K (a1 1) g5, bFairG K (a1 2) g6, bNotesG K (a1 3) g7, bRuleG K a2 g8]) (List.flatten [bTrialsG K (a0 0) ((a0 1) 0) ((a0 2) 0) ((a0 3) 0) q.1, bFairG K (a0 1) q.2.1, bOrderG K (a0 2) g2, bOrderG K (a0 3) g3, bWorldG K (a1 0) ((a1 1) 0) ((a1 2) 0) ((a1 3) 0) g4, bFairG K (a1 1) g5, bFairG K (a1 2) g6, bNotesG K (a1 3) g7, bRuleG K a2 q.2.2]) none := by
  intro n
  induction n with
  | zero => intro x6 x9 g0 g1 g8 h; unfold mTrials_findRainsrr_l35 at h; cases h
  | succ n ih =>
    intro x6 x9 g0 g1 g8 h
    unfold mTrials_findRainsrr_l35 at h
    refine r_iload 8 dX9_findRains_35 rfl ?_
    refine r_iload 4 dX9_findRains_37 rfl ?_
    refine r_icmp_ge 106 dX9_findRains_39 (by decide) (fun c5 => ?_) (fun c5 => ?_)
    · replace h := it_pos c5 h
      refine r_aload_n 0 dX9_findRains_106 rfl ?_
      refine gTrials_found 0 rfl (tb_in (i := 9) (j := 28) rfl rfl) dX9_findRains_107 ?_
      refine r_iconst (x := (1 : Int32)) dX9_findRains_110 (by decide) ?_
      refine r_dup2 dX9_findRains_111 rfl rfl ?_
      obtain ⟨h6, h⟩ := rq_some h
      refine lTrials_found 0 rfl (inb_in h6) dX9_findRains_112 ?_
      refine r_aload_n 0 dX9_findRains_113 rfl ?_
      refine gTrials_fair 0 rfl (tb_in (i := 9) (j := 23) rfl rfl) dX9_findRains_114 ?_
      refine r_aload_n 0 dX9_findRains_117 rfl ?_
      refine gTrials_fair 0 rfl (tb_in (i := 9) (j := 23) rfl rfl) dX9_findRains_118 ?_
      refine gFair_goodsN 1 rfl (List.mem_of_getElem? (i := 25) rfl) dX9_findRains_121 ?_
      obtain ⟨q7, h7, h⟩ := bd_some h
      refine b_callVN (isC := [1]) (ci := 1)  (st := [.int (g0.1 (1 : Int32).toNatClampNeg), .int (1 : Int32), .ref ((a0 0) 1)]) (bs1 := [bTrialsG K (a0 0) ((a0 1) 0) ((a0 2) 0) ((a0 3) 0) g0, bFairG K (a0 1) g1, bOrderG K (a0 2) g2, bOrderG K (a0 3) g3, bWorldG K (a1 0) ((a1 1) 0) ((a1 2) 0) ((a1 3) 0) g4, bFairG K (a1 1) g5, bFairG K (a1 2) g6, bNotesG K (a1 3) g7, bRuleG K a2 g8]) (cFair_sumOf_goods (a0 := (a0 1)) (z0_lasts := g1.1) (z0_keeps := g1.2.1) (z0_stalls := g1.2.2.1) (z0_buyers := g1.2.2.2.1) (z0_minute := g1.2.2.2.2.1) (z0_goods := g1.2.2.2.2.2.1) (z0_price := g1.2.2.2.2.2.2.1) (z0_tongue := g1.2.2.2.2.2.2.2.1) (z0_till := g1.2.2.2.2.2.2.2.2.1) (z0_wealth := g1.2.2.2.2.2.2.2.2.2.1) (z0_sold := g1.2.2.2.2.2.2.2.2.2.2.1) (z0_ring := g1.2.2.2.2.2.2.2.2.2.2.2.1) (z0_grudges := g1.2.2.2.2.2.2.2.2.2.2.2.2.1) (z0_purse := g1.2.2.2.2.2.2.2.2.2.2.2.2.2.1) (z0_came := g1.2.2.2.2.2.2.2.2.2.2.2.2.2.2.1) (z0_had := g1.2.2.2.2.2.2.2.2.2.2.2.2.2.2.2.1) (z0_seller := g1.2.2.2.2.2.2.2.2.2.2.2.2.2.2.2.2.1) (z0_praise := g1.2.2.2.2.2.2.2.2.2.2.2.2.2.2.2.2.2.1) (z0_borne := g1.2.2.2.2.2.2.2.2.2.2.2.2.2.2.2.2.2.2) h7) rfl rfl (Nat.le_of_ble_eq_true rfl) kFair_sumOf_goods (List.mem_of_getElem? (i := 63) rfl) (by decide) (by decide) rfl rfl rfl rfl rfl rfl rfl dX9_findRains_124 ?_
      refine r_iadd dX9_findRains_127 ?_
      obtain ⟨h8, h⟩ := rq_some h
      obtain ⟨u8, e8, h⟩ := lt_some h
      refine sTrials_found (bs1 := [bTrials K (a0 0) ((a0 1) 0) ((a0 2) 0) ((a0 3) 0) u8 g0.2.1 g0.2.2.1 g0.2.2.2.1 g0.2.2.2.2, bFairG K (a0 1) g1, bOrderG K (a0 2) g2, bOrderG K (a0 3) g3, bWorldG K (a1 0) ((a1 1) 0) ((a1 2) 0) ((a1 3) 0) g4, bFairG K (a1 1) g5, bFairG K (a1 2) g6, bNotesG K (a1 3) g7, bRuleG K a2 g8]) 0 e8 rfl (inb_in h8) rfl dX9_findRains_128 ?_
      refine r_iinc (y := (x8 + (1 : Int32))) (lv' := [(8, .int (x8 + (1 : Int32))), (0, .ref ((a0 0) 0)), (1, .ref ((a1 0) 0)), (2, .ref (a2 0)), (3, .int x3), (4, .int x4), (5, .int x5), (6, .long x6), (9, .int x9)]) 7 dX9_findRains_129 rfl rfl (Nat.le_of_ble_eq_true rfl) rfl ?_
      refine r_goto 17 dX9_findRains_132 (by decide) ?_
      refine r_sub (lv' := [(0, .ref ((a0 0) 0)), (1, .ref ((a1 0) 0)), (2, .ref (a2 0)), (3, .int x3), (4, .int x4), (5, .int x5), (6, .long x6), (8, .int (x8 + (1 : Int32)))]) [1, 2, 3, 4, 5, 6, 7, 0] rfl ?_
      exact hk17 x6 (x8 + (1 : Int32)) (u8, g0.2.1, g0.2.2.1, g0.2.2.2.1, g0.2.2.2.2) g1 g8 h
    · replace h := it_neg c5 h
      refine r_lload 6 dX9_findRains_42 rfl ?_
      refine r_ldc2 (x := (1103515245 : Int64)) (tb_in (i := 11) (j := 22) rfl rfl) dX9_findRains_44 ?_
      refine r_lmul dX9_findRains_47 ?_
      refine r_ldc2 (x := (12345 : Int64)) (tb_in (i := 11) (j := 23) rfl rfl) dX9_findRains_48 ?_
      refine r_ladd dX9_findRains_51 ?_
      refine r_ldc2 (x := (2147483648 : Int64)) (tb_in (i := 11) (j := 24) rfl rfl) dX9_findRains_52 ?_
      refine r_lrem dX9_findRains_55 (by decide) ?_
      obtain ⟨y9, e9, h⟩ := lt_some h
      refine r_topl e9 ?_
      refine r_lstore (lv' := [(6, .long y9), (0, .ref ((a0 0) 0)), (1, .ref ((a1 0) 0)), (2, .ref (a2 0)), (3, .int x3), (4, .int x4), (5, .int x5), (8, .int x8), (9, .int x9)]) dX9_findRains_56 (Nat.le_of_ble_eq_true rfl) rfl ?_
      refine r_lload 0 dX9_findRains_58 rfl ?_
      refine r_ldc2 (x := (65536 : Int64)) (tb_in (i := 11) (j := 25) rfl rfl) dX9_findRains_60 ?_
      refine r_ldiv dX9_findRains_63 (by decide) ?_
      refine r_ldc2 (x := (100 : Int64)) (tb_in (i := 11) (j := 26) rfl rfl) dX9_findRains_64 ?_
      refine r_lrem dX9_findRains_67 (by decide) ?_
      refine r_iload 6 dX9_findRains_68 rfl ?_
      refine r_i2l dX9_findRains_70 ?_
      refine r_lcmp dX9_findRains_71 ?_
      refine r_if_lt 93 dX9_findRains_72 (by decide) (fun c10 => ?_) (fun c10 => ?_)
      · replace h := it_pos c10 h
        refine r_aload_n 1 dX9_findRains_93 rfl ?_
        refine gTrials_fair 0 rfl (tb_in (i := 9) (j := 23) rfl rfl) dX9_findRains_94 ?_
        obtain ⟨q11, h11, h⟩ := bd_some h
        refine b_callVN (isC := [1]) (ci := 1)  (st := []) (bs1 := [bTrialsG K (a0 0) ((a0 1) 0) ((a0 2) 0) ((a0 3) 0) g0, bFair K (a0 1) g1.1 g1.2.1 g1.2.2.1 g1.2.2.2.1 q11.1 g1.2.2.2.2.2.1 g1.2.2.2.2.2.2.1 g1.2.2.2.2.2.2.2.1 q11.2.1 q11.2.2 g1.2.2.2.2.2.2.2.2.2.2.1 g1.2.2.2.2.2.2.2.2.2.2.2.1 g1.2.2.2.2.2.2.2.2.2.2.2.2.1 g1.2.2.2.2.2.2.2.2.2.2.2.2.2.1 g1.2.2.2.2.2.2.2.2.2.2.2.2.2.2.1 g1.2.2.2.2.2.2.2.2.2.2.2.2.2.2.2.1 g1.2.2.2.2.2.2.2.2.2.2.2.2.2.2.2.2.1 g1.2.2.2.2.2.2.2.2.2.2.2.2.2.2.2.2.2.1 g1.2.2.2.2.2.2.2.2.2.2.2.2.2.2.2.2.2.2, bOrderG K (a0 2) g2, bOrderG K (a0 3) g3, bWorldG K (a1 0) ((a1 1) 0) ((a1 2) 0) ((a1 3) 0) g4, bFairG K (a1 1) g5, bFairG K (a1 2) g6, bNotesG K (a1 3) g7, bRuleG K a2 g8]) (cFair_closeMinute (a0 := (a0 1)) (z0_lasts := g1.1) (z0_keeps := g1.2.1) (z0_stalls := g1.2.2.1) (z0_buyers := g1.2.2.2.1) (z0_minute := g1.2.2.2.2.1) (z0_goods := g1.2.2.2.2.2.1) (z0_price := g1.2.2.2.2.2.2.1) (z0_tongue := g1.2.2.2.2.2.2.2.1) (z0_till := g1.2.2.2.2.2.2.2.2.1) (z0_wealth := g1.2.2.2.2.2.2.2.2.2.1) (z0_sold := g1.2.2.2.2.2.2.2.2.2.2.1) (z0_ring := g1.2.2.2.2.2.2.2.2.2.2.2.1) (z0_grudges := g1.2.2.2.2.2.2.2.2.2.2.2.2.1) (z0_purse := g1.2.2.2.2.2.2.2.2.2.2.2.2.2.1) (z0_came := g1.2.2.2.2.2.2.2.2.2.2.2.2.2.2.1) (z0_had := g1.2.2.2.2.2.2.2.2.2.2.2.2.2.2.2.1) (z0_seller := g1.2.2.2.2.2.2.2.2.2.2.2.2.2.2.2.2.1) (z0_praise := g1.2.2.2.2.2.2.2.2.2.2.2.2.2.2.2.2.2.1) (z0_borne := g1.2.2.2.2.2.2.2.2.2.2.2.2.2.2.2.2.2.2) h11) rfl rfl (Nat.le_of_ble_eq_true rfl) kFair_closeMinute (List.mem_of_getElem? (i := 83) rfl) (by decide) (by decide) rfl rfl rfl rfl rfl rfl rfl dX9_findRains_97 ?_
        refine r_iinc (y := (x9 + (1 : Int32))) (lv' := [(9, .int (x9 + (1 : Int32))), (6, .long y9), (0, .ref ((a0 0) 0)), (1, .ref ((a1 0) 0)), (2, .ref (a2 0)), (3, .int x3), (4, .int x4), (5, .int x5), (8, .int x8)]) 8 dX9_findRains_100 rfl rfl (Nat.le_of_ble_eq_true rfl) rfl ?_
        refine r_goto 35 dX9_findRains_103 (by decide) ?_
        refine r_sub (lv' := [(0, .ref ((a0 0) 0)), (1, .ref ((a1 0) 0)), (2, .ref (a2 0)), (3, .int x3), (4, .int x4), (5, .int x5), (6, .long y9), (8, .int x8), (9, .int (x9 + (1 : Int32)))]) [2, 3, 4, 5, 6, 7, 1, 8, 0] rfl ?_
        exact ih y9 (x9 + (1 : Int32)) g0 (g1.1, g1.2.1, g1.2.2.1, g1.2.2.2.1, q11.1, g1.2.2.2.2.2.1, g1.2.2.2.2.2.2.1, g1.2.2.2.2.2.2.2.1, q11.2.1, q11.2.2, g1.2.2.2.2.2.2.2.2.2.2.1, g1.2.2.2.2.2.2.2.2.2.2.2.1, g1.2.2.2.2.2.2.2.2.2.2.2.2.1, g1.2.2.2.2.2.2.2.2.2.2.2.2.2.1, g1.2.2.2.2.2.2.2.2.2.2.2.2.2.2.1, g1.2.2.2.2.2.2.2.2.2.2.2.2.2.2.2.1, g1.2.2.2.2.2.2.2.2.2.2.2.2.2.2.2.2.1, g1.2.2.2.2.2.2.2.2.2.2.2.2.2.2.2.2.2.1, g1.2.2.2.2.2.2.2.2.2.2.2.2.2.2.2.2.2.2) g8 h
      · replace h := it_neg c10 h
        refine r_aload_n 1 dX9_findRains_75 rfl ?_
        refine gTrials_found 0 rfl (tb_in (i := 9) (j := 28) rfl rfl) dX9_findRains_76 ?_
        refine r_iconst (x := (0 : Int32)) dX9_findRains_79 (by decide) ?_
        refine r_dup2 dX9_findRains_80 rfl rfl ?_
        obtain ⟨h12, h⟩ := rq_some h
        refine lTrials_found 0 rfl (inb_in h12) dX9_findRains_81 ?_
        refine r_aload_n 1 dX9_findRains_82 rfl ?_
        refine gTrials_fair 0 rfl (tb_in (i := 9) (j := 23) rfl rfl) dX9_findRains_83 ?_
        refine r_aload_n 3 dX9_findRains_86 rfl ?_
        refine r_iconst (x := (-1 : Int32)) dX9_findRains_87 (by decide) ?_
        obtain ⟨q13, h13, h⟩ := bd_some h
        refine b_callVN (isC := [1, 8]) (ci := 1)  (st := [.int (g0.1 (0 : Int32).toNatClampNeg), .int (0 : Int32), .ref ((a0 0) 1)]) (bs1 := [bTrialsG K (a0 0) ((a0 1) 0) ((a0 2) 0) ((a0 3) 0) g0, bFair K (a0 1) g1.1 g1.2.1 g1.2.2.1 g1.2.2.2.1 g1.2.2.2.2.1 q13.2.1 g1.2.2.2.2.2.2.1 g1.2.2.2.2.2.2.2.1 q13.2.2.1 g1.2.2.2.2.2.2.2.2.2.1 q13.2.2.2.1 g1.2.2.2.2.2.2.2.2.2.2.2.1 g1.2.2.2.2.2.2.2.2.2.2.2.2.1 q13.2.2.2.2.1 g1.2.2.2.2.2.2.2.2.2.2.2.2.2.2.1 q13.2.2.2.2.2.1 g1.2.2.2.2.2.2.2.2.2.2.2.2.2.2.2.2.1 g1.2.2.2.2.2.2.2.2.2.2.2.2.2.2.2.2.2.1 g1.2.2.2.2.2.2.2.2.2.2.2.2.2.2.2.2.2.2, bOrderG K (a0 2) g2, bOrderG K (a0 3) g3, bWorldG K (a1 0) ((a1 1) 0) ((a1 2) 0) ((a1 3) 0) g4, bFairG K (a1 1) g5, bFairG K (a1 2) g6, bNotesG K (a1 3) g7, bRule K a2 g8.1 g8.2.1 g8.2.2.1 g8.2.2.2.1 g8.2.2.2.2.1 g8.2.2.2.2.2.1 g8.2.2.2.2.2.2.1 g8.2.2.2.2.2.2.2.1 q13.2.2.2.2.2.2.1 q13.2.2.2.2.2.2.2]) (cFair_trader (a0 := (a0 1)) (a1 := a2) (z0_lasts := g1.1) (z0_keeps := g1.2.1) (z0_stalls := g1.2.2.1) (z0_buyers := g1.2.2.2.1) (z0_minute := g1.2.2.2.2.1) (z0_goods := g1.2.2.2.2.2.1) (z0_price := g1.2.2.2.2.2.2.1) (z0_tongue := g1.2.2.2.2.2.2.2.1) (z0_till := g1.2.2.2.2.2.2.2.2.1) (z0_wealth := g1.2.2.2.2.2.2.2.2.2.1) (z0_sold := g1.2.2.2.2.2.2.2.2.2.2.1) (z0_ring := g1.2.2.2.2.2.2.2.2.2.2.2.1) (z0_grudges := g1.2.2.2.2.2.2.2.2.2.2.2.2.1) (z0_purse := g1.2.2.2.2.2.2.2.2.2.2.2.2.2.1) (z0_came := g1.2.2.2.2.2.2.2.2.2.2.2.2.2.2.1) (z0_had := g1.2.2.2.2.2.2.2.2.2.2.2.2.2.2.2.1) (z0_seller := g1.2.2.2.2.2.2.2.2.2.2.2.2.2.2.2.2.1) (z0_praise := g1.2.2.2.2.2.2.2.2.2.2.2.2.2.2.2.2.2.1) (z0_borne := g1.2.2.2.2.2.2.2.2.2.2.2.2.2.2.2.2.2.2) (z1_steps := g8.1) (z1_size := g8.2.1) (z1_sumFrom := g8.2.2.1) (z1_testFrom := g8.2.2.2.1) (z1_testTo := g8.2.2.2.2.1) (z1_clauses := g8.2.2.2.2.2.1) (z1_parts := g8.2.2.2.2.2.2.1) (z1_readsTime := g8.2.2.2.2.2.2.2.1) (z1_words := g8.2.2.2.2.2.2.2.2.1) (z1_stack := g8.2.2.2.2.2.2.2.2.2) h13) rfl rfl (Nat.le_of_ble_eq_true rfl) kFair_trader (List.mem_of_getElem? (i := 82) rfl) (by decide) (by decide) rfl rfl rfl rfl rfl rfl rfl dX9_findRains_88 ?_
        refine r_iadd dX9_findRains_91 ?_
        obtain ⟨h14, h⟩ := rq_some h
        obtain ⟨u14, e14, h⟩ := lt_some h
        refine sTrials_found (bs1 := [bTrials K (a0 0) ((a0 1) 0) ((a0 2) 0) ((a0 3) 0) u14 g0.2.1 g0.2.2.1 g0.2.2.2.1 g0.2.2.2.2, bFair K (a0 1) g1.1 g1.2.1 g1.2.2.1 g1.2.2.2.1 g1.2.2.2.2.1 q13.2.1 g1.2.2.2.2.2.2.1 g1.2.2.2.2.2.2.2.1 q13.2.2.1 g1.2.2.2.2.2.2.2.2.2.1 q13.2.2.2.1 g1.2.2.2.2.2.2.2.2.2.2.2.1 g1.2.2.2.2.2.2.2.2.2.2.2.2.1 q13.2.2.2.2.1 g1.2.2.2.2.2.2.2.2.2.2.2.2.2.2.1 q13.2.2.2.2.2.1 g1.2.2.2.2.2.2.2.2.2.2.2.2.2.2.2.2.1 g1.2.2.2.2.2.2.2.2.2.2.2.2.2.2.2.2.2.1 g1.2.2.2.2.2.2.2.2.2.2.2.2.2.2.2.2.2.2, bOrderG K (a0 2) g2, bOrderG K (a0 3) g3, bWorldG K (a1 0) ((a1 1) 0) ((a1 2) 0) ((a1 3) 0) g4, bFairG K (a1 1) g5, bFairG K (a1 2) g6, bNotesG K (a1 3) g7, bRule K a2 g8.1 g8.2.1 g8.2.2.1 g8.2.2.2.1 g8.2.2.2.2.1 g8.2.2.2.2.2.1 g8.2.2.2.2.2.2.1 g8.2.2.2.2.2.2.2.1 q13.2.2.2.2.2.2.1 q13.2.2.2.2.2.2.2]) 0 e14 rfl (inb_in h14) rfl dX9_findRains_92 ?_
        refine r_aload_n 1 dX9_findRains_93 rfl ?_
        refine gTrials_fair 0 rfl (tb_in (i := 9) (j := 23) rfl rfl) dX9_findRains_94 ?_
        obtain ⟨q15, h15, h⟩ := bd_some h
        refine b_callVN (isC := [1]) (ci := 1)  (st := []) (bs1 := [bTrials K (a0 0) ((a0 1) 0) ((a0 2) 0) ((a0 3) 0) u14 g0.2.1 g0.2.2.1 g0.2.2.2.1 g0.2.2.2.2, bFair K (a0 1) g1.1 g1.2.1 g1.2.2.1 g1.2.2.2.1 q15.1 q13.2.1 g1.2.2.2.2.2.2.1 g1.2.2.2.2.2.2.2.1 q15.2.1 q15.2.2 q13.2.2.2.1 g1.2.2.2.2.2.2.2.2.2.2.2.1 g1.2.2.2.2.2.2.2.2.2.2.2.2.1 q13.2.2.2.2.1 g1.2.2.2.2.2.2.2.2.2.2.2.2.2.2.1 q13.2.2.2.2.2.1 g1.2.2.2.2.2.2.2.2.2.2.2.2.2.2.2.2.1 g1.2.2.2.2.2.2.2.2.2.2.2.2.2.2.2.2.2.1 g1.2.2.2.2.2.2.2.2.2.2.2.2.2.2.2.2.2.2, bOrderG K (a0 2) g2, bOrderG K (a0 3) g3, bWorldG K (a1 0) ((a1 1) 0) ((a1 2) 0) ((a1 3) 0) g4, bFairG K (a1 1) g5, bFairG K (a1 2) g6, bNotesG K (a1 3) g7, bRule K a2 g8.1 g8.2.1 g8.2.2.1 g8.2.2.2.1 g8.2.2.2.2.1 g8.2.2.2.2.2.1 g8.2.2.2.2.2.2.1 g8.2.2.2.2.2.2.2.1 q13.2.2.2.2.2.2.1 q13.2.2.2.2.2.2.2]) (cFair_closeMinute (a0 := (a0 1)) (z0_lasts := g1.1) (z0_keeps := g1.2.1) (z0_stalls := g1.2.2.1) (z0_buyers := g1.2.2.2.1) (z0_minute := g1.2.2.2.2.1) (z0_goods := q13.2.1) (z0_price := g1.2.2.2.2.2.2.1) (z0_tongue := g1.2.2.2.2.2.2.2.1) (z0_till := q13.2.2.1) (z0_wealth := g1.2.2.2.2.2.2.2.2.2.1) (z0_sold := q13.2.2.2.1) (z0_ring := g1.2.2.2.2.2.2.2.2.2.2.2.1) (z0_grudges := g1.2.2.2.2.2.2.2.2.2.2.2.2.1) (z0_purse := q13.2.2.2.2.1) (z0_came := g1.2.2.2.2.2.2.2.2.2.2.2.2.2.2.1) (z0_had := q13.2.2.2.2.2.1) (z0_seller := g1.2.2.2.2.2.2.2.2.2.2.2.2.2.2.2.2.1) (z0_praise := g1.2.2.2.2.2.2.2.2.2.2.2.2.2.2.2.2.2.1) (z0_borne := g1.2.2.2.2.2.2.2.2.2.2.2.2.2.2.2.2.2.2) h15) rfl rfl (Nat.le_of_ble_eq_true rfl) kFair_closeMinute (List.mem_of_getElem? (i := 83) rfl) (by decide) (by decide) rfl rfl rfl rfl rfl rfl rfl dX9_findRains_97 ?_
        refine r_iinc (y := (x9 + (1 : Int32))) (lv' := [(9, .int (x9 + (1 : Int32))), (6, .long y9), (0, .ref ((a0 0) 0)), (1, .ref ((a1 0) 0)), (2, .ref (a2 0)), (3, .int x3), (4, .int x4), (5, .int x5), (8, .int x8)]) 8 dX9_findRains_100 rfl rfl (Nat.le_of_ble_eq_true rfl) rfl ?_
        refine r_goto 35 dX9_findRains_103 (by decide) ?_
        refine r_sub (lv' := [(0, .ref ((a0 0) 0)), (1, .ref ((a1 0) 0)), (2, .ref (a2 0)), (3, .int x3), (4, .int x4), (5, .int x5), (6, .long y9), (8, .int x8), (9, .int (x9 + (1 : Int32)))]) [2, 3, 4, 5, 6, 7, 1, 8, 0] rfl ?_
        exact ih y9 (x9 + (1 : Int32)) (u14, g0.2.1, g0.2.2.1, g0.2.2.2.1, g0.2.2.2.2) (g1.1, g1.2.1, g1.2.2.1, g1.2.2.2.1, q15.1, q13.2.1, g1.2.2.2.2.2.2.1, g1.2.2.2.2.2.2.2.1, q15.2.1, q15.2.2, q13.2.2.2.1, g1.2.2.2.2.2.2.2.2.2.2.2.1, g1.2.2.2.2.2.2.2.2.2.2.2.2.1, q13.2.2.2.2.1, g1.2.2.2.2.2.2.2.2.2.2.2.2.2.2.1, q13.2.2.2.2.2.1, g1.2.2.2.2.2.2.2.2.2.2.2.2.2.2.2.2.1, g1.2.2.2.2.2.2.2.2.2.2.2.2.2.2.2.2.2.1, g1.2.2.2.2.2.2.2.2.2.2.2.2.2.2.2.2.2.2) (g8.1, g8.2.1, g8.2.2.1, g8.2.2.2.1, g8.2.2.2.2.1, g8.2.2.2.2.2.1, g8.2.2.2.2.2.2.1, g8.2.2.2.2.2.2.2.1, q13.2.2.2.2.2.2.1, q13.2.2.2.2.2.2.2) h
def mTrials_findRainsrr_l17 (g4 : tyWorld) (g6 : tyFair) (x3 : Int32) (x4 : Int32) (x5 : Int32) : Nat → Int64 → Int32 → tyTrials → tyFair → tyRule → Option (tyTrials × tyFair × tyRule)
  | 0, _, _, _, _, _ => none
  | n + 1, x6, x8, g0, g1, g8 => (if x3 ≤ x8 then some (g0, g1, g8) else (mTrials_from g1 g6).bind (fun q4 => mTrials_findRainsrr_l35 g4 g6 x3 x4 x5 x8 (mTrials_findRainsrr_l17 g4 g6 x3 x4 x5 n) FU x6 (0 : Int32) g0 q4 g8))
set_option maxHeartbeats 4000000 in
set_option maxRecDepth 20000 in
theorem cTrials_findRainsrr_l17 {q : tyTrials × tyFair × tyRule} {x3 : Int32} {x4 : Int32} {x5 : Int32}  : ∀ (n : Nat) (x6 : Int64) (x8 : Int32) (g0 : tyTrials) (g1 : tyFair) (g8 : tyRule), mTrials_findRainsrr_l17 g4 g6 x3 x4 x5 n x6 x8 g0 g1 g8 = some q → rW l D Z (ty7 K) MTrials_findRainsrr 17 [(0, .ref ((a0 0) 0)), (1, .ref ((a1 0) 0)), (2, .ref (a2 0)), (3, .int x3), (4, .int x4), (5, .int x5), (6, .long x6), (8, .int x8)] [] (List.flatten [bTrialsG K (a0 0) ((a0 1) 0) ((a0 2) 0) ((a0 3) 0) g0, bFairG K (a0 1) g1, bOrderG K (a0 2) g2, bOrderG K (a0 3) g3, bWorldG K (a1 0) ((a1 1) 0) ((a1 2) 0) ((a1 3) 0) g4, bFairG K (a1 1) g5, bFairG K (a1 2) g6, bNotesG K (a1 3) g7, bRuleG K a2 g8]) (List.flatten [bTrialsG K (a0 0) ((a0 1) 0) ((a0 2) 0) ((a0 3) 0) q.1, bFairG K (a0 1) q.2.1, bOrderG K (a0 2) g2, bOrderG K (a0 3) g3, bWorldG K (a1 0) ((a1 1) 0) ((a1 2) 0) ((a1 3) 0) g4, bFairG K (a1 1) g5, bFairG K (a1 2) g6, bNotesG K (a1 3) g7, bRuleG K a2 q.2.2]) none := by
  intro n
  induction n with
  | zero => intro x6 x8 g0 g1 g8 h; unfold mTrials_findRainsrr_l17 at h; cases h
  | succ n ih =>
    intro x6 x8 g0 g1 g8 h
    unfold mTrials_findRainsrr_l17 at h
    refine r_iload 7 dX9_findRains_17 rfl ?_
    refine r_iload_n 3 dX9_findRains_19 rfl ?_
    refine r_icmp_ge 135 dX9_findRains_20 (by decide) (fun c3 => ?_) (fun c3 => ?_)
    · replace h := it_pos c3 h
      have hq := Option.some.inj h
      subst hq
      exact r_vret rfl dX9_findRains_135
    · replace h := it_neg c3 h
      refine r_aload_n 0 dX9_findRains_23 rfl ?_
      refine r_aload_n 1 dX9_findRains_24 rfl ?_
      refine gWorld_nowN 4 rfl (List.mem_of_getElem? (i := 56) rfl) dX9_findRains_25 ?_
      obtain ⟨q4, h4, h⟩ := bd_some h
      refine b_callV (isC := [0, 1, 2, 3, 6]) (ci := 7)  (st := []) (bs1 := [bTrialsG K (a0 0) ((a0 1) 0) ((a0 2) 0) ((a0 3) 0) g0, bFairG K (a0 1) q4, bOrderG K (a0 2) g2, bOrderG K (a0 3) g3, bWorldG K (a1 0) ((a1 1) 0) ((a1 2) 0) ((a1 3) 0) g4, bFairG K (a1 1) g5, bFairG K (a1 2) g6, bNotesG K (a1 3) g7, bRuleG K a2 g8]) (cTrials_from (a0 := a0) (a1 := (a1 2)) (g0 := g0) (g1 := g1) (g2 := g2) (g3 := g3) (g4 := g6) h4) rfl rfl (Nat.le_of_ble_eq_true rfl) kTrials_from (tb_in (i := 10) (j := 8) rfl rfl) (by decide) (by decide) rfl rfl rfl rfl rfl rfl rfl dX9_findRains_28 ?_
      refine r_pop dX9_findRains_31 rfl ?_
      refine r_iconst (x := (0 : Int32)) dX9_findRains_32 (by decide) ?_
      refine r_istore (lv' := [(9, .int (0 : Int32)), (0, .ref ((a0 0) 0)), (1, .ref ((a1 0) 0)), (2, .ref (a2 0)), (3, .int x3), (4, .int x4), (5, .int x5), (6, .long x6), (8, .int x8)]) dX9_findRains_33 (Nat.le_of_ble_eq_true rfl) rfl ?_
      refine r_sub (lv' := [(0, .ref ((a0 0) 0)), (1, .ref ((a1 0) 0)), (2, .ref (a2 0)), (3, .int x3), (4, .int x4), (5, .int x5), (6, .long x6), (8, .int x8), (9, .int (0 : Int32))]) [1, 2, 3, 4, 5, 6, 7, 8, 0] rfl ?_
      exact cTrials_findRainsrr_l35 (g4 := g4) (g6 := g6) (ih) FU x6 (0 : Int32) g0 q4 g8 h
def mTrials_findRainsrr (x3 : Int32) (x4 : Int32) (x5 : Int32) (g0 : tyTrials) (g1 : tyFair) (g4 : tyWorld) (g6 : tyFair) (g8 : tyRule) : Option (tyTrials × tyFair × tyRule) := lt (g4.2.2.toInt64) (fun y1 => (mTrials_find (0 : Int32) (0 : Int32) (0 : Int32) g0).bind (fun q2 => mTrials_findRainsrr_l17 g4 g6 x3 x4 x5 FU y1 (0 : Int32) q2 g1 g8))
set_option maxHeartbeats 4000000 in
set_option maxRecDepth 20000 in
theorem cTrials_findRainsrr {q : tyTrials × tyFair × tyRule} {x3 : Int32} {x4 : Int32} {x5 : Int32} (h : mTrials_findRainsrr x3 x4 x5 g0 g1 g4 g6 g8 = some q) : rMet l D Z (ty7 K) MTrials_findRainsrr [.ref ((a0 0) 0), .ref ((a1 0) 0), .ref (a2 0), .int x3, .int x4, .int x5] (List.flatten [bTrialsG K (a0 0) ((a0 1) 0) ((a0 2) 0) ((a0 3) 0) g0, bFairG K (a0 1) g1, bOrderG K (a0 2) g2, bOrderG K (a0 3) g3, bWorldG K (a1 0) ((a1 1) 0) ((a1 2) 0) ((a1 3) 0) g4, bFairG K (a1 1) g5, bFairG K (a1 2) g6, bNotesG K (a1 3) g7, bRuleG K a2 g8]) (List.flatten [bTrialsG K (a0 0) ((a0 1) 0) ((a0 2) 0) ((a0 3) 0) q.1, bFairG K (a0 1) q.2.1, bOrderG K (a0 2) g2, bOrderG K (a0 3) g3, bWorldG K (a1 0) ((a1 1) 0) ((a1 2) 0) ((a1 3) 0) g4, bFairG K (a1 1) g5, bFairG K (a1 2) g6, bNotesG K (a1 3) g7, bRuleG K a2 q.2.2]) none := by
  refine rMet.of (by decide) rfl (Nat.le_of_ble_eq_true rfl) ?_
  refine r_sub (lv' := [(0, .ref ((a0 0) 0)), (1, .ref ((a1 0) 0)), (2, .ref (a2 0)), (3, .int x3), (4, .int x4), (5, .int x5)]) [0, 1, 2, 3, 4, 5] rfl ?_
  unfold mTrials_findRainsrr at h
  refine r_aload_n 1 dX9_findRains_0 rfl ?_
  refine gWorld_xN 4 rfl (List.mem_of_getElem? (i := 52) rfl) dX9_findRains_1 ?_
  refine r_i2l dX9_findRains_4 ?_
  obtain ⟨y1, e1, h⟩ := lt_some h
  refine r_topl e1 ?_
  refine r_lstore (lv' := [(6, .long y1), (0, .ref ((a0 0) 0)), (1, .ref ((a1 0) 0)), (2, .ref (a2 0)), (3, .int x3), (4, .int x4), (5, .int x5)]) dX9_findRains_5 (Nat.le_of_ble_eq_true rfl) rfl ?_
  refine r_aload_n 1 dX9_findRains_7 rfl ?_
  refine r_iconst (x := (0 : Int32)) dX9_findRains_8 (by decide) ?_
  refine r_iconst (x := (0 : Int32)) dX9_findRains_9 (by decide) ?_
  refine r_iconst (x := (0 : Int32)) dX9_findRains_10 (by decide) ?_
  obtain ⟨q2, h2, h⟩ := bd_some h
  refine b_callV (isC := [0, 1, 2, 3]) (ci := 7)  (st := []) (bs1 := [bTrialsG K (a0 0) ((a0 1) 0) ((a0 2) 0) ((a0 3) 0) q2, bFairG K (a0 1) g1, bOrderG K (a0 2) g2, bOrderG K (a0 3) g3, bWorldG K (a1 0) ((a1 1) 0) ((a1 2) 0) ((a1 3) 0) g4, bFairG K (a1 1) g5, bFairG K (a1 2) g6, bNotesG K (a1 3) g7, bRuleG K a2 g8]) (cTrials_find (a0 := a0) (g0 := g0) (g1 := g1) (g2 := g2) (g3 := g3) h2) rfl rfl (Nat.le_of_ble_eq_true rfl) kTrials_find (tb_in (i := 10) (j := 20) rfl rfl) (by decide) (by decide) rfl rfl rfl rfl rfl rfl rfl dX9_findRains_11 ?_
  refine r_iconst (x := (0 : Int32)) dX9_findRains_14 (by decide) ?_
  refine r_istore (lv' := [(8, .int (0 : Int32)), (6, .long y1), (0, .ref ((a0 0) 0)), (1, .ref ((a1 0) 0)), (2, .ref (a2 0)), (3, .int x3), (4, .int x4), (5, .int x5)]) dX9_findRains_15 (Nat.le_of_ble_eq_true rfl) rfl ?_
  refine r_sub (lv' := [(0, .ref ((a0 0) 0)), (1, .ref ((a1 0) 0)), (2, .ref (a2 0)), (3, .int x3), (4, .int x4), (5, .int x5), (6, .long y1), (8, .int (0 : Int32))]) [2, 3, 4, 5, 6, 7, 1, 0] rfl ?_
  exact cTrials_findRainsrr_l17 (g4 := g4) (g6 := g6)  FU y1 (0 : Int32) q2 g1 g8 h
end
abbrev MTrials_findRainsrn : rx_M := (RX9, yX9_findRains, cX9_findRains, 10, none, 6)
theorem kTrials_findRainsrn : rKv MTrials_findRainsrn 5 := ⟨tb_in (i := 16) (j := 11) rfl rfl, tb_in (i := 16) (j := 12) rfl rfl, tb_in (i := 10) (j := 11) rfl rfl, tb_in (i := 11) (j := 27) rfl rfl, ⟨by decide, by decide, by decide +kernel⟩, by decide⟩
section
variable {a0 : Nat → Nat → Nat} {a1 : Nat → Nat → Nat} {g0 : tyTrials} {g1 : tyFair} {g2 : tyOrder} {g3 : tyOrder} {g4 : tyWorld} {g5 : tyFair} {g6 : tyFair} {g7 : tyNotes}
def mTrials_findRainsrn_l35 (g4 : tyWorld) (g6 : tyFair) (x3 : Int32) (x4 : Int32) (x5 : Int32) (x8 : Int32) (k17 : Int64 → Int32 → tyTrials → tyFair → Option (tyTrials × tyFair)) : Nat → Int64 → Int32 → tyTrials → tyFair → Option (tyTrials × tyFair)
  | 0, _, _, _, _ => none
  | n + 1, x6, x9, g0, g1 => (if x4 ≤ x9 then rq (inb (1 : Int32) 3) ((mFair_sumOf_goods g1.2.2.1 g1.2.2.2.2.2.1).bind (fun q7 => rq (inb (1 : Int32) 3) (lt (upd g0.1 (1 : Int32).toNatClampNeg ((g0.1 (1 : Int32).toNatClampNeg) + q7)) (fun u8 => k17 x6 (x8 + (1 : Int32)) (u8, g0.2.1, g0.2.2.1, g0.2.2.2.1, g0.2.2.2.2) g1)))) else lt (((x6 * (1103515245 : Int64)) + (12345 : Int64)) - ((x6 * (1103515245 : Int64)) + (12345 : Int64)) / (2147483648 : Int64) * (2147483648 : Int64)) (fun y9 => (if (lg_cmp ((y9 / (65536 : Int64)) - (y9 / (65536 : Int64)) / (100 : Int64) * (100 : Int64)) (x5.toInt64)) < 0 then (mFair_closeMinute g1.1 g1.2.1 g1.2.2.1 g1.2.2.2.2.1 g1.2.2.2.2.2.2.2.2.1 g1.2.2.2.2.2.2.2.2.2.1 g1.2.2.2.2.2.2.2.2.2.2.2.2.2.2.2.2.1).bind (fun q11 => mTrials_findRainsrn_l35 g4 g6 x3 x4 x5 x8 k17 n y9 (x9 + (1 : Int32)) g0 (g1.1, g1.2.1, g1.2.2.1, g1.2.2.2.1, q11.1, g1.2.2.2.2.2.1, g1.2.2.2.2.2.2.1, g1.2.2.2.2.2.2.2.1, q11.2.1, q11.2.2, g1.2.2.2.2.2.2.2.2.2.2.1, g1.2.2.2.2.2.2.2.2.2.2.2.1, g1.2.2.2.2.2.2.2.2.2.2.2.2.1, g1.2.2.2.2.2.2.2.2.2.2.2.2.2.1, g1.2.2.2.2.2.2.2.2.2.2.2.2.2.2.1, g1.2.2.2.2.2.2.2.2.2.2.2.2.2.2.2.1, g1.2.2.2.2.2.2.2.2.2.2.2.2.2.2.2.2.1, g1.2.2.2.2.2.2.2.2.2.2.2.2.2.2.2.2.2.1, g1.2.2.2.2.2.2.2.2.2.2.2.2.2.2.2.2.2.2)) else rq (inb (0 : Int32) 3) ((mFair_traden (-1 : Int32) g1.2.2.1 g1.2.2.2.1 g1.2.2.2.2.2.1 g1.2.2.2.2.2.2.1 g1.2.2.2.2.2.2.2.2.1 g1.2.2.2.2.2.2.2.2.2.2.1 g1.2.2.2.2.2.2.2.2.2.2.2.2.2.1 g1.2.2.2.2.2.2.2.2.2.2.2.2.2.2.1 g1.2.2.2.2.2.2.2.2.2.2.2.2.2.2.2.1 g1.2.2.2.2.2.2.2.2.2.2.2.2.2.2.2.2.1 g1.2.2.2.2.2.2.2.2.2.2.2.2.2.2.2.2.2.1).bind (fun q13 => rq (inb (0 : Int32) 3) (lt (upd g0.1 (0 : Int32).toNatClampNeg ((g0.1 (0 : Int32).toNatClampNeg) + q13.1)) (fun u14 => (mFair_closeMinute g1.1 g1.2.1 g1.2.2.1 g1.2.2.2.2.1 q13.2.2.1 g1.2.2.2.2.2.2.2.2.2.1 g1.2.2.2.2.2.2.2.2.2.2.2.2.2.2.2.2.1).bind (fun q15 => mTrials_findRainsrn_l35 g4 g6 x3 x4 x5 x8 k17 n y9 (x9 + (1 : Int32)) (u14, g0.2.1, g0.2.2.1, g0.2.2.2.1, g0.2.2.2.2) (g1.1, g1.2.1, g1.2.2.1, g1.2.2.2.1, q15.1, q13.2.1, g1.2.2.2.2.2.2.1, g1.2.2.2.2.2.2.2.1, q15.2.1, q15.2.2, q13.2.2.2.1, g1.2.2.2.2.2.2.2.2.2.2.2.1, g1.2.2.2.2.2.2.2.2.2.2.2.2.1, q13.2.2.2.2.1, g1.2.2.2.2.2.2.2.2.2.2.2.2.2.2.1, q13.2.2.2.2.2, g1.2.2.2.2.2.2.2.2.2.2.2.2.2.2.2.2.1, g1.2.2.2.2.2.2.2.2.2.2.2.2.2.2.2.2.2.1, g1.2.2.2.2.2.2.2.2.2.2.2.2.2.2.2.2.2.2)))))))))
set_option maxHeartbeats 4000000 in
set_option maxRecDepth 20000 in
theorem cTrials_findRainsrn_l35 {q : tyTrials × tyFair} {x3 : Int32} {x4 : Int32} {x5 : Int32} {x8 : Int32} {k17 : Int64 → Int32 → tyTrials → tyFair → Option (tyTrials × tyFair)} (hk17 : ∀ (x6 : Int64) (x8 : Int32) (g0 : tyTrials) (g1 : tyFair), k17 x6 x8 g0 g1 = some q → rW l D Z (ty7 K) MTrials_findRainsrn 17 [(0, .ref ((a0 0) 0)), (1, .ref ((a1 0) 0)), (2, .null), (3, .int x3), (4, .int x4), (5, .int x5), (6, .long x6), (8, .int x8)] [] (List.flatten [bTrialsG K (a0 0) ((a0 1) 0) ((a0 2) 0) ((a0 3) 0) g0, bFairG K (a0 1) g1, bOrderG K (a0 2) g2, bOrderG K (a0 3) g3, bWorldG K (a1 0) ((a1 1) 0) ((a1 2) 0) ((a1 3) 0) g4, bFairG K (a1 1) g5, bFairG K (a1 2) g6, bNotesG K (a1 3) g7]) (List.flatten [bTrialsG K (a0 0) ((a0 1) 0) ((a0 2) 0) ((a0 3) 0) q.1, bFairG K (a0 1) q.2, bOrderG K (a0 2) g2, bOrderG K (a0 3) g3, bWorldG K (a1 0) ((a1 1) 0) ((a1 2) 0) ((a1 3) 0) g4, bFairG K (a1 1) g5, bFairG K (a1 2) g6, bNotesG K (a1 3) g7]) none) : ∀ (n : Nat) (x6 : Int64) (x9 : Int32) (g0 : tyTrials) (g1 : tyFair), mTrials_findRainsrn_l35 g4 g6 x3 x4 x5 x8 k17 n x6 x9 g0 g1 = some q → rW l D Z (ty7 K) MTrials_findRainsrn 35 [(0, .ref ((a0 0) 0)), (1, .ref ((a1 0) 0)), (2, .null), (3, .int x3), (4, .int x4), (5, .int x5), (6, .long x6), (8, .int x8), (9, .int x9)] [] (List.flatten [bTrialsG K (a0 0) ((a0 1) 0) ((a0 2) 0) ((a0 3) 0) g0, bFairG K (a0 1) g1, bOrderG K (a0 2) g2, bOrderG K (a0 3) g3, bWorldG K (a1 0) ((a1 1) 0) ((a1 2) 0) ((a1 3) 0) g4, bFairG K (a1 1) g5, bFairG K (a1 2) g6, bNotesG K (a1 3) g7]) (List.flatten [bTrialsG K (a0 0) ((a0 1) 0) ((a0 2) 0) ((a0 3) 0) q.1, bFairG K (a0 1) q.2, bOrderG K (a0 2) g2, bOrderG K (a0 3) g3, bWorldG K (a1 0) ((a1 1) 0) ((a1 2) 0) ((a1 3) 0) g4, bFairG K (a1 1) g5, bFairG K (a1 2) g6, bNotesG K (a1 3) g7]) none := by
  intro n
  induction n with
  | zero => intro x6 x9 g0 g1 h; unfold mTrials_findRainsrn_l35 at h; cases h
  | succ n ih =>
    intro x6 x9 g0 g1 h
    unfold mTrials_findRainsrn_l35 at h
    refine r_iload 8 dX9_findRains_35 rfl ?_
    refine r_iload 4 dX9_findRains_37 rfl ?_
    refine r_icmp_ge 106 dX9_findRains_39 (by decide) (fun c5 => ?_) (fun c5 => ?_)
    · replace h := it_pos c5 h
      refine r_aload_n 0 dX9_findRains_106 rfl ?_
      refine gTrials_found 0 rfl (tb_in (i := 9) (j := 28) rfl rfl) dX9_findRains_107 ?_
      refine r_iconst (x := (1 : Int32)) dX9_findRains_110 (by decide) ?_
      refine r_dup2 dX9_findRains_111 rfl rfl ?_
      obtain ⟨h6, h⟩ := rq_some h
      refine lTrials_found 0 rfl (inb_in h6) dX9_findRains_112 ?_
      refine r_aload_n 0 dX9_findRains_113 rfl ?_
      refine gTrials_fair 0 rfl (tb_in (i := 9) (j := 23) rfl rfl) dX9_findRains_114 ?_
      refine r_aload_n 0 dX9_findRains_117 rfl ?_
      refine gTrials_fair 0 rfl (tb_in (i := 9) (j := 23) rfl rfl) dX9_findRains_118 ?_
      refine gFair_goodsN 1 rfl (List.mem_of_getElem? (i := 25) rfl) dX9_findRains_121 ?_
      obtain ⟨q7, h7, h⟩ := bd_some h
      refine b_callVN (isC := [1]) (ci := 1)  (st := [.int (g0.1 (1 : Int32).toNatClampNeg), .int (1 : Int32), .ref ((a0 0) 1)]) (bs1 := [bTrialsG K (a0 0) ((a0 1) 0) ((a0 2) 0) ((a0 3) 0) g0, bFairG K (a0 1) g1, bOrderG K (a0 2) g2, bOrderG K (a0 3) g3, bWorldG K (a1 0) ((a1 1) 0) ((a1 2) 0) ((a1 3) 0) g4, bFairG K (a1 1) g5, bFairG K (a1 2) g6, bNotesG K (a1 3) g7]) (cFair_sumOf_goods (a0 := (a0 1)) (z0_lasts := g1.1) (z0_keeps := g1.2.1) (z0_stalls := g1.2.2.1) (z0_buyers := g1.2.2.2.1) (z0_minute := g1.2.2.2.2.1) (z0_goods := g1.2.2.2.2.2.1) (z0_price := g1.2.2.2.2.2.2.1) (z0_tongue := g1.2.2.2.2.2.2.2.1) (z0_till := g1.2.2.2.2.2.2.2.2.1) (z0_wealth := g1.2.2.2.2.2.2.2.2.2.1) (z0_sold := g1.2.2.2.2.2.2.2.2.2.2.1) (z0_ring := g1.2.2.2.2.2.2.2.2.2.2.2.1) (z0_grudges := g1.2.2.2.2.2.2.2.2.2.2.2.2.1) (z0_purse := g1.2.2.2.2.2.2.2.2.2.2.2.2.2.1) (z0_came := g1.2.2.2.2.2.2.2.2.2.2.2.2.2.2.1) (z0_had := g1.2.2.2.2.2.2.2.2.2.2.2.2.2.2.2.1) (z0_seller := g1.2.2.2.2.2.2.2.2.2.2.2.2.2.2.2.2.1) (z0_praise := g1.2.2.2.2.2.2.2.2.2.2.2.2.2.2.2.2.2.1) (z0_borne := g1.2.2.2.2.2.2.2.2.2.2.2.2.2.2.2.2.2.2) h7) rfl rfl (Nat.le_of_ble_eq_true rfl) kFair_sumOf_goods (List.mem_of_getElem? (i := 63) rfl) (by decide) (by decide) rfl rfl rfl rfl rfl rfl rfl dX9_findRains_124 ?_
      refine r_iadd dX9_findRains_127 ?_
      obtain ⟨h8, h⟩ := rq_some h
      obtain ⟨u8, e8, h⟩ := lt_some h
      refine sTrials_found (bs1 := [bTrials K (a0 0) ((a0 1) 0) ((a0 2) 0) ((a0 3) 0) u8 g0.2.1 g0.2.2.1 g0.2.2.2.1 g0.2.2.2.2, bFairG K (a0 1) g1, bOrderG K (a0 2) g2, bOrderG K (a0 3) g3, bWorldG K (a1 0) ((a1 1) 0) ((a1 2) 0) ((a1 3) 0) g4, bFairG K (a1 1) g5, bFairG K (a1 2) g6, bNotesG K (a1 3) g7]) 0 e8 rfl (inb_in h8) rfl dX9_findRains_128 ?_
      refine r_iinc (y := (x8 + (1 : Int32))) (lv' := [(8, .int (x8 + (1 : Int32))), (0, .ref ((a0 0) 0)), (1, .ref ((a1 0) 0)), (2, .null), (3, .int x3), (4, .int x4), (5, .int x5), (6, .long x6), (9, .int x9)]) 7 dX9_findRains_129 rfl rfl (Nat.le_of_ble_eq_true rfl) rfl ?_
      refine r_goto 17 dX9_findRains_132 (by decide) ?_
      refine r_sub (lv' := [(0, .ref ((a0 0) 0)), (1, .ref ((a1 0) 0)), (2, .null), (3, .int x3), (4, .int x4), (5, .int x5), (6, .long x6), (8, .int (x8 + (1 : Int32)))]) [1, 2, 3, 4, 5, 6, 7, 0] rfl ?_
      exact hk17 x6 (x8 + (1 : Int32)) (u8, g0.2.1, g0.2.2.1, g0.2.2.2.1, g0.2.2.2.2) g1 h
    · replace h := it_neg c5 h
      refine r_lload 6 dX9_findRains_42 rfl ?_
      refine r_ldc2 (x := (1103515245 : Int64)) (tb_in (i := 11) (j := 22) rfl rfl) dX9_findRains_44 ?_
      refine r_lmul dX9_findRains_47 ?_
      refine r_ldc2 (x := (12345 : Int64)) (tb_in (i := 11) (j := 23) rfl rfl) dX9_findRains_48 ?_
      refine r_ladd dX9_findRains_51 ?_
      refine r_ldc2 (x := (2147483648 : Int64)) (tb_in (i := 11) (j := 24) rfl rfl) dX9_findRains_52 ?_
      refine r_lrem dX9_findRains_55 (by decide) ?_
      obtain ⟨y9, e9, h⟩ := lt_some h
      refine r_topl e9 ?_
      refine r_lstore (lv' := [(6, .long y9), (0, .ref ((a0 0) 0)), (1, .ref ((a1 0) 0)), (2, .null), (3, .int x3), (4, .int x4), (5, .int x5), (8, .int x8), (9, .int x9)]) dX9_findRains_56 (Nat.le_of_ble_eq_true rfl) rfl ?_
      refine r_lload 0 dX9_findRains_58 rfl ?_
      refine r_ldc2 (x := (65536 : Int64)) (tb_in (i := 11) (j := 25) rfl rfl) dX9_findRains_60 ?_
      refine r_ldiv dX9_findRains_63 (by decide) ?_
      refine r_ldc2 (x := (100 : Int64)) (tb_in (i := 11) (j := 26) rfl rfl) dX9_findRains_64 ?_
      refine r_lrem dX9_findRains_67 (by decide) ?_
      refine r_iload 6 dX9_findRains_68 rfl ?_
      refine r_i2l dX9_findRains_70 ?_
      refine r_lcmp dX9_findRains_71 ?_
      refine r_if_lt 93 dX9_findRains_72 (by decide) (fun c10 => ?_) (fun c10 => ?_)
      · replace h := it_pos c10 h
        refine r_aload_n 1 dX9_findRains_93 rfl ?_
        refine gTrials_fair 0 rfl (tb_in (i := 9) (j := 23) rfl rfl) dX9_findRains_94 ?_
        obtain ⟨q11, h11, h⟩ := bd_some h
        refine b_callVN (isC := [1]) (ci := 1)  (st := []) (bs1 := [bTrialsG K (a0 0) ((a0 1) 0) ((a0 2) 0) ((a0 3) 0) g0, bFair K (a0 1) g1.1 g1.2.1 g1.2.2.1 g1.2.2.2.1 q11.1 g1.2.2.2.2.2.1 g1.2.2.2.2.2.2.1 g1.2.2.2.2.2.2.2.1 q11.2.1 q11.2.2 g1.2.2.2.2.2.2.2.2.2.2.1 g1.2.2.2.2.2.2.2.2.2.2.2.1 g1.2.2.2.2.2.2.2.2.2.2.2.2.1 g1.2.2.2.2.2.2.2.2.2.2.2.2.2.1 g1.2.2.2.2.2.2.2.2.2.2.2.2.2.2.1 g1.2.2.2.2.2.2.2.2.2.2.2.2.2.2.2.1 g1.2.2.2.2.2.2.2.2.2.2.2.2.2.2.2.2.1 g1.2.2.2.2.2.2.2.2.2.2.2.2.2.2.2.2.2.1 g1.2.2.2.2.2.2.2.2.2.2.2.2.2.2.2.2.2.2, bOrderG K (a0 2) g2, bOrderG K (a0 3) g3, bWorldG K (a1 0) ((a1 1) 0) ((a1 2) 0) ((a1 3) 0) g4, bFairG K (a1 1) g5, bFairG K (a1 2) g6, bNotesG K (a1 3) g7]) (cFair_closeMinute (a0 := (a0 1)) (z0_lasts := g1.1) (z0_keeps := g1.2.1) (z0_stalls := g1.2.2.1) (z0_buyers := g1.2.2.2.1) (z0_minute := g1.2.2.2.2.1) (z0_goods := g1.2.2.2.2.2.1) (z0_price := g1.2.2.2.2.2.2.1) (z0_tongue := g1.2.2.2.2.2.2.2.1) (z0_till := g1.2.2.2.2.2.2.2.2.1) (z0_wealth := g1.2.2.2.2.2.2.2.2.2.1) (z0_sold := g1.2.2.2.2.2.2.2.2.2.2.1) (z0_ring := g1.2.2.2.2.2.2.2.2.2.2.2.1) (z0_grudges := g1.2.2.2.2.2.2.2.2.2.2.2.2.1) (z0_purse := g1.2.2.2.2.2.2.2.2.2.2.2.2.2.1) (z0_came := g1.2.2.2.2.2.2.2.2.2.2.2.2.2.2.1) (z0_had := g1.2.2.2.2.2.2.2.2.2.2.2.2.2.2.2.1) (z0_seller := g1.2.2.2.2.2.2.2.2.2.2.2.2.2.2.2.2.1) (z0_praise := g1.2.2.2.2.2.2.2.2.2.2.2.2.2.2.2.2.2.1) (z0_borne := g1.2.2.2.2.2.2.2.2.2.2.2.2.2.2.2.2.2.2) h11) rfl rfl (Nat.le_of_ble_eq_true rfl) kFair_closeMinute (List.mem_of_getElem? (i := 83) rfl) (by decide) (by decide) rfl rfl rfl rfl rfl rfl rfl dX9_findRains_97 ?_
        refine r_iinc (y := (x9 + (1 : Int32))) (lv' := [(9, .int (x9 + (1 : Int32))), (6, .long y9), (0, .ref ((a0 0) 0)), (1, .ref ((a1 0) 0)), (2, .null), (3, .int x3), (4, .int x4), (5, .int x5), (8, .int x8)]) 8 dX9_findRains_100 rfl rfl (Nat.le_of_ble_eq_true rfl) rfl ?_
        refine r_goto 35 dX9_findRains_103 (by decide) ?_
        refine r_sub (lv' := [(0, .ref ((a0 0) 0)), (1, .ref ((a1 0) 0)), (2, .null), (3, .int x3), (4, .int x4), (5, .int x5), (6, .long y9), (8, .int x8), (9, .int (x9 + (1 : Int32)))]) [2, 3, 4, 5, 6, 7, 1, 8, 0] rfl ?_
        exact ih y9 (x9 + (1 : Int32)) g0 (g1.1, g1.2.1, g1.2.2.1, g1.2.2.2.1, q11.1, g1.2.2.2.2.2.1, g1.2.2.2.2.2.2.1, g1.2.2.2.2.2.2.2.1, q11.2.1, q11.2.2, g1.2.2.2.2.2.2.2.2.2.2.1, g1.2.2.2.2.2.2.2.2.2.2.2.1, g1.2.2.2.2.2.2.2.2.2.2.2.2.1, g1.2.2.2.2.2.2.2.2.2.2.2.2.2.1, g1.2.2.2.2.2.2.2.2.2.2.2.2.2.2.1, g1.2.2.2.2.2.2.2.2.2.2.2.2.2.2.2.1, g1.2.2.2.2.2.2.2.2.2.2.2.2.2.2.2.2.1, g1.2.2.2.2.2.2.2.2.2.2.2.2.2.2.2.2.2.1, g1.2.2.2.2.2.2.2.2.2.2.2.2.2.2.2.2.2.2) h
      · replace h := it_neg c10 h
        refine r_aload_n 1 dX9_findRains_75 rfl ?_
        refine gTrials_found 0 rfl (tb_in (i := 9) (j := 28) rfl rfl) dX9_findRains_76 ?_
        refine r_iconst (x := (0 : Int32)) dX9_findRains_79 (by decide) ?_
        refine r_dup2 dX9_findRains_80 rfl rfl ?_
        obtain ⟨h12, h⟩ := rq_some h
        refine lTrials_found 0 rfl (inb_in h12) dX9_findRains_81 ?_
        refine r_aload_n 1 dX9_findRains_82 rfl ?_
        refine gTrials_fair 0 rfl (tb_in (i := 9) (j := 23) rfl rfl) dX9_findRains_83 ?_
        refine r_aload_nN 3 dX9_findRains_86 rfl ?_
        refine r_iconst (x := (-1 : Int32)) dX9_findRains_87 (by decide) ?_
        obtain ⟨q13, h13, h⟩ := bd_some h
        refine b_callVN (isC := [1]) (ci := 1)  (st := [.int (g0.1 (0 : Int32).toNatClampNeg), .int (0 : Int32), .ref ((a0 0) 1)]) (bs1 := [bTrialsG K (a0 0) ((a0 1) 0) ((a0 2) 0) ((a0 3) 0) g0, bFair K (a0 1) g1.1 g1.2.1 g1.2.2.1 g1.2.2.2.1 g1.2.2.2.2.1 q13.2.1 g1.2.2.2.2.2.2.1 g1.2.2.2.2.2.2.2.1 q13.2.2.1 g1.2.2.2.2.2.2.2.2.2.1 q13.2.2.2.1 g1.2.2.2.2.2.2.2.2.2.2.2.1 g1.2.2.2.2.2.2.2.2.2.2.2.2.1 q13.2.2.2.2.1 g1.2.2.2.2.2.2.2.2.2.2.2.2.2.2.1 q13.2.2.2.2.2 g1.2.2.2.2.2.2.2.2.2.2.2.2.2.2.2.2.1 g1.2.2.2.2.2.2.2.2.2.2.2.2.2.2.2.2.2.1 g1.2.2.2.2.2.2.2.2.2.2.2.2.2.2.2.2.2.2, bOrderG K (a0 2) g2, bOrderG K (a0 3) g3, bWorldG K (a1 0) ((a1 1) 0) ((a1 2) 0) ((a1 3) 0) g4, bFairG K (a1 1) g5, bFairG K (a1 2) g6, bNotesG K (a1 3) g7]) (cFair_traden (a0 := (a0 1)) (z0_lasts := g1.1) (z0_keeps := g1.2.1) (z0_stalls := g1.2.2.1) (z0_buyers := g1.2.2.2.1) (z0_minute := g1.2.2.2.2.1) (z0_goods := g1.2.2.2.2.2.1) (z0_price := g1.2.2.2.2.2.2.1) (z0_tongue := g1.2.2.2.2.2.2.2.1) (z0_till := g1.2.2.2.2.2.2.2.2.1) (z0_wealth := g1.2.2.2.2.2.2.2.2.2.1) (z0_sold := g1.2.2.2.2.2.2.2.2.2.2.1) (z0_ring := g1.2.2.2.2.2.2.2.2.2.2.2.1) (z0_grudges := g1.2.2.2.2.2.2.2.2.2.2.2.2.1) (z0_purse := g1.2.2.2.2.2.2.2.2.2.2.2.2.2.1) (z0_came := g1.2.2.2.2.2.2.2.2.2.2.2.2.2.2.1) (z0_had := g1.2.2.2.2.2.2.2.2.2.2.2.2.2.2.2.1) (z0_seller := g1.2.2.2.2.2.2.2.2.2.2.2.2.2.2.2.2.1) (z0_praise := g1.2.2.2.2.2.2.2.2.2.2.2.2.2.2.2.2.2.1) (z0_borne := g1.2.2.2.2.2.2.2.2.2.2.2.2.2.2.2.2.2.2) h13) rfl rfl (Nat.le_of_ble_eq_true rfl) kFair_traden (List.mem_of_getElem? (i := 82) rfl) (by decide) (by decide) rfl rfl rfl rfl rfl rfl rfl dX9_findRains_88 ?_
        refine r_iadd dX9_findRains_91 ?_
        obtain ⟨h14, h⟩ := rq_some h
        obtain ⟨u14, e14, h⟩ := lt_some h
        refine sTrials_found (bs1 := [bTrials K (a0 0) ((a0 1) 0) ((a0 2) 0) ((a0 3) 0) u14 g0.2.1 g0.2.2.1 g0.2.2.2.1 g0.2.2.2.2, bFair K (a0 1) g1.1 g1.2.1 g1.2.2.1 g1.2.2.2.1 g1.2.2.2.2.1 q13.2.1 g1.2.2.2.2.2.2.1 g1.2.2.2.2.2.2.2.1 q13.2.2.1 g1.2.2.2.2.2.2.2.2.2.1 q13.2.2.2.1 g1.2.2.2.2.2.2.2.2.2.2.2.1 g1.2.2.2.2.2.2.2.2.2.2.2.2.1 q13.2.2.2.2.1 g1.2.2.2.2.2.2.2.2.2.2.2.2.2.2.1 q13.2.2.2.2.2 g1.2.2.2.2.2.2.2.2.2.2.2.2.2.2.2.2.1 g1.2.2.2.2.2.2.2.2.2.2.2.2.2.2.2.2.2.1 g1.2.2.2.2.2.2.2.2.2.2.2.2.2.2.2.2.2.2, bOrderG K (a0 2) g2, bOrderG K (a0 3) g3, bWorldG K (a1 0) ((a1 1) 0) ((a1 2) 0) ((a1 3) 0) g4, bFairG K (a1 1) g5, bFairG K (a1 2) g6, bNotesG K (a1 3) g7]) 0 e14 rfl (inb_in h14) rfl dX9_findRains_92 ?_
        refine r_aload_n 1 dX9_findRains_93 rfl ?_
        refine gTrials_fair 0 rfl (tb_in (i := 9) (j := 23) rfl rfl) dX9_findRains_94 ?_
        obtain ⟨q15, h15, h⟩ := bd_some h
        refine b_callVN (isC := [1]) (ci := 1)  (st := []) (bs1 := [bTrials K (a0 0) ((a0 1) 0) ((a0 2) 0) ((a0 3) 0) u14 g0.2.1 g0.2.2.1 g0.2.2.2.1 g0.2.2.2.2, bFair K (a0 1) g1.1 g1.2.1 g1.2.2.1 g1.2.2.2.1 q15.1 q13.2.1 g1.2.2.2.2.2.2.1 g1.2.2.2.2.2.2.2.1 q15.2.1 q15.2.2 q13.2.2.2.1 g1.2.2.2.2.2.2.2.2.2.2.2.1 g1.2.2.2.2.2.2.2.2.2.2.2.2.1 q13.2.2.2.2.1 g1.2.2.2.2.2.2.2.2.2.2.2.2.2.2.1 q13.2.2.2.2.2 g1.2.2.2.2.2.2.2.2.2.2.2.2.2.2.2.2.1 g1.2.2.2.2.2.2.2.2.2.2.2.2.2.2.2.2.2.1 g1.2.2.2.2.2.2.2.2.2.2.2.2.2.2.2.2.2.2, bOrderG K (a0 2) g2, bOrderG K (a0 3) g3, bWorldG K (a1 0) ((a1 1) 0) ((a1 2) 0) ((a1 3) 0) g4, bFairG K (a1 1) g5, bFairG K (a1 2) g6, bNotesG K (a1 3) g7]) (cFair_closeMinute (a0 := (a0 1)) (z0_lasts := g1.1) (z0_keeps := g1.2.1) (z0_stalls := g1.2.2.1) (z0_buyers := g1.2.2.2.1) (z0_minute := g1.2.2.2.2.1) (z0_goods := q13.2.1) (z0_price := g1.2.2.2.2.2.2.1) (z0_tongue := g1.2.2.2.2.2.2.2.1) (z0_till := q13.2.2.1) (z0_wealth := g1.2.2.2.2.2.2.2.2.2.1) (z0_sold := q13.2.2.2.1) (z0_ring := g1.2.2.2.2.2.2.2.2.2.2.2.1) (z0_grudges := g1.2.2.2.2.2.2.2.2.2.2.2.2.1) (z0_purse := q13.2.2.2.2.1) (z0_came := g1.2.2.2.2.2.2.2.2.2.2.2.2.2.2.1) (z0_had := q13.2.2.2.2.2) (z0_seller := g1.2.2.2.2.2.2.2.2.2.2.2.2.2.2.2.2.1) (z0_praise := g1.2.2.2.2.2.2.2.2.2.2.2.2.2.2.2.2.2.1) (z0_borne := g1.2.2.2.2.2.2.2.2.2.2.2.2.2.2.2.2.2.2) h15) rfl rfl (Nat.le_of_ble_eq_true rfl) kFair_closeMinute (List.mem_of_getElem? (i := 83) rfl) (by decide) (by decide) rfl rfl rfl rfl rfl rfl rfl dX9_findRains_97 ?_
        refine r_iinc (y := (x9 + (1 : Int32))) (lv' := [(9, .int (x9 + (1 : Int32))), (6, .long y9), (0, .ref ((a0 0) 0)), (1, .ref ((a1 0) 0)), (2, .null), (3, .int x3), (4, .int x4), (5, .int x5), (8, .int x8)]) 8 dX9_findRains_100 rfl rfl (Nat.le_of_ble_eq_true rfl) rfl ?_
        refine r_goto 35 dX9_findRains_103 (by decide) ?_
        refine r_sub (lv' := [(0, .ref ((a0 0) 0)), (1, .ref ((a1 0) 0)), (2, .null), (3, .int x3), (4, .int x4), (5, .int x5), (6, .long y9), (8, .int x8), (9, .int (x9 + (1 : Int32)))]) [2, 3, 4, 5, 6, 7, 1, 8, 0] rfl ?_
        exact ih y9 (x9 + (1 : Int32)) (u14, g0.2.1, g0.2.2.1, g0.2.2.2.1, g0.2.2.2.2) (g1.1, g1.2.1, g1.2.2.1, g1.2.2.2.1, q15.1, q13.2.1, g1.2.2.2.2.2.2.1, g1.2.2.2.2.2.2.2.1, q15.2.1, q15.2.2, q13.2.2.2.1, g1.2.2.2.2.2.2.2.2.2.2.2.1, g1.2.2.2.2.2.2.2.2.2.2.2.2.1, q13.2.2.2.2.1, g1.2.2.2.2.2.2.2.2.2.2.2.2.2.2.1, q13.2.2.2.2.2, g1.2.2.2.2.2.2.2.2.2.2.2.2.2.2.2.2.1, g1.2.2.2.2.2.2.2.2.2.2.2.2.2.2.2.2.2.1, g1.2.2.2.2.2.2.2.2.2.2.2.2.2.2.2.2.2.2) h
def mTrials_findRainsrn_l17 (g4 : tyWorld) (g6 : tyFair) (x3 : Int32) (x4 : Int32) (x5 : Int32) : Nat → Int64 → Int32 → tyTrials → tyFair → Option (tyTrials × tyFair)
  | 0, _, _, _, _ => none
  | n + 1, x6, x8, g0, g1 => (if x3 ≤ x8 then some (g0, g1) else (mTrials_from g1 g6).bind (fun q4 => mTrials_findRainsrn_l35 g4 g6 x3 x4 x5 x8 (mTrials_findRainsrn_l17 g4 g6 x3 x4 x5 n) FU x6 (0 : Int32) g0 q4))
set_option maxHeartbeats 4000000 in
set_option maxRecDepth 20000 in
theorem cTrials_findRainsrn_l17 {q : tyTrials × tyFair} {x3 : Int32} {x4 : Int32} {x5 : Int32}  : ∀ (n : Nat) (x6 : Int64) (x8 : Int32) (g0 : tyTrials) (g1 : tyFair), mTrials_findRainsrn_l17 g4 g6 x3 x4 x5 n x6 x8 g0 g1 = some q → rW l D Z (ty7 K) MTrials_findRainsrn 17 [(0, .ref ((a0 0) 0)), (1, .ref ((a1 0) 0)), (2, .null), (3, .int x3), (4, .int x4), (5, .int x5), (6, .long x6), (8, .int x8)] [] (List.flatten [bTrialsG K (a0 0) ((a0 1) 0) ((a0 2) 0) ((a0 3) 0) g0, bFairG K (a0 1) g1, bOrderG K (a0 2) g2, bOrderG K (a0 3) g3, bWorldG K (a1 0) ((a1 1) 0) ((a1 2) 0) ((a1 3) 0) g4, bFairG K (a1 1) g5, bFairG K (a1 2) g6, bNotesG K (a1 3) g7]) (List.flatten [bTrialsG K (a0 0) ((a0 1) 0) ((a0 2) 0) ((a0 3) 0) q.1, bFairG K (a0 1) q.2, bOrderG K (a0 2) g2, bOrderG K (a0 3) g3, bWorldG K (a1 0) ((a1 1) 0) ((a1 2) 0) ((a1 3) 0) g4, bFairG K (a1 1) g5, bFairG K (a1 2) g6, bNotesG K (a1 3) g7]) none := by
  intro n
  induction n with
  | zero => intro x6 x8 g0 g1 h; unfold mTrials_findRainsrn_l17 at h; cases h
  | succ n ih =>
    intro x6 x8 g0 g1 h
    unfold mTrials_findRainsrn_l17 at h
    refine r_iload 7 dX9_findRains_17 rfl ?_
    refine r_iload_n 3 dX9_findRains_19 rfl ?_
    refine r_icmp_ge 135 dX9_findRains_20 (by decide) (fun c3 => ?_) (fun c3 => ?_)
    · replace h := it_pos c3 h
      have hq := Option.some.inj h
      subst hq
      exact r_vret rfl dX9_findRains_135
    · replace h := it_neg c3 h
      refine r_aload_n 0 dX9_findRains_23 rfl ?_
      refine r_aload_n 1 dX9_findRains_24 rfl ?_
      refine gWorld_nowN 4 rfl (List.mem_of_getElem? (i := 56) rfl) dX9_findRains_25 ?_
      obtain ⟨q4, h4, h⟩ := bd_some h
      refine b_callV (isC := [0, 1, 2, 3, 6]) (ci := 7)  (st := []) (bs1 := [bTrialsG K (a0 0) ((a0 1) 0) ((a0 2) 0) ((a0 3) 0) g0, bFairG K (a0 1) q4, bOrderG K (a0 2) g2, bOrderG K (a0 3) g3, bWorldG K (a1 0) ((a1 1) 0) ((a1 2) 0) ((a1 3) 0) g4, bFairG K (a1 1) g5, bFairG K (a1 2) g6, bNotesG K (a1 3) g7]) (cTrials_from (a0 := a0) (a1 := (a1 2)) (g0 := g0) (g1 := g1) (g2 := g2) (g3 := g3) (g4 := g6) h4) rfl rfl (Nat.le_of_ble_eq_true rfl) kTrials_from (tb_in (i := 10) (j := 8) rfl rfl) (by decide) (by decide) rfl rfl rfl rfl rfl rfl rfl dX9_findRains_28 ?_
      refine r_pop dX9_findRains_31 rfl ?_
      refine r_iconst (x := (0 : Int32)) dX9_findRains_32 (by decide) ?_
      refine r_istore (lv' := [(9, .int (0 : Int32)), (0, .ref ((a0 0) 0)), (1, .ref ((a1 0) 0)), (2, .null), (3, .int x3), (4, .int x4), (5, .int x5), (6, .long x6), (8, .int x8)]) dX9_findRains_33 (Nat.le_of_ble_eq_true rfl) rfl ?_
      refine r_sub (lv' := [(0, .ref ((a0 0) 0)), (1, .ref ((a1 0) 0)), (2, .null), (3, .int x3), (4, .int x4), (5, .int x5), (6, .long x6), (8, .int x8), (9, .int (0 : Int32))]) [1, 2, 3, 4, 5, 6, 7, 8, 0] rfl ?_
      exact cTrials_findRainsrn_l35 (g4 := g4) (g6 := g6) (ih) FU x6 (0 : Int32) g0 q4 h
def mTrials_findRainsrn (x3 : Int32) (x4 : Int32) (x5 : Int32) (g0 : tyTrials) (g1 : tyFair) (g4 : tyWorld) (g6 : tyFair) : Option (tyTrials × tyFair) := lt (g4.2.2.toInt64) (fun y1 => (mTrials_find (0 : Int32) (0 : Int32) (0 : Int32) g0).bind (fun q2 => mTrials_findRainsrn_l17 g4 g6 x3 x4 x5 FU y1 (0 : Int32) q2 g1))
set_option maxHeartbeats 4000000 in
set_option maxRecDepth 20000 in
theorem cTrials_findRainsrn {q : tyTrials × tyFair} {x3 : Int32} {x4 : Int32} {x5 : Int32} (h : mTrials_findRainsrn x3 x4 x5 g0 g1 g4 g6 = some q) : rMet l D Z (ty7 K) MTrials_findRainsrn [.ref ((a0 0) 0), .ref ((a1 0) 0), .null, .int x3, .int x4, .int x5] (List.flatten [bTrialsG K (a0 0) ((a0 1) 0) ((a0 2) 0) ((a0 3) 0) g0, bFairG K (a0 1) g1, bOrderG K (a0 2) g2, bOrderG K (a0 3) g3, bWorldG K (a1 0) ((a1 1) 0) ((a1 2) 0) ((a1 3) 0) g4, bFairG K (a1 1) g5, bFairG K (a1 2) g6, bNotesG K (a1 3) g7]) (List.flatten [bTrialsG K (a0 0) ((a0 1) 0) ((a0 2) 0) ((a0 3) 0) q.1, bFairG K (a0 1) q.2, bOrderG K (a0 2) g2, bOrderG K (a0 3) g3, bWorldG K (a1 0) ((a1 1) 0) ((a1 2) 0) ((a1 3) 0) g4, bFairG K (a1 1) g5, bFairG K (a1 2) g6, bNotesG K (a1 3) g7]) none := by
  refine rMet.of (by decide) rfl (Nat.le_of_ble_eq_true rfl) ?_
  refine r_sub (lv' := [(0, .ref ((a0 0) 0)), (1, .ref ((a1 0) 0)), (2, .null), (3, .int x3), (4, .int x4), (5, .int x5)]) [0, 1, 2, 3, 4, 5] rfl ?_
  unfold mTrials_findRainsrn at h
  refine r_aload_n 1 dX9_findRains_0 rfl ?_
  refine gWorld_xN 4 rfl (List.mem_of_getElem? (i := 52) rfl) dX9_findRains_1 ?_
  refine r_i2l dX9_findRains_4 ?_
  obtain ⟨y1, e1, h⟩ := lt_some h
  refine r_topl e1 ?_
  refine r_lstore (lv' := [(6, .long y1), (0, .ref ((a0 0) 0)), (1, .ref ((a1 0) 0)), (2, .null), (3, .int x3), (4, .int x4), (5, .int x5)]) dX9_findRains_5 (Nat.le_of_ble_eq_true rfl) rfl ?_
  refine r_aload_n 1 dX9_findRains_7 rfl ?_
  refine r_iconst (x := (0 : Int32)) dX9_findRains_8 (by decide) ?_
  refine r_iconst (x := (0 : Int32)) dX9_findRains_9 (by decide) ?_
  refine r_iconst (x := (0 : Int32)) dX9_findRains_10 (by decide) ?_
  obtain ⟨q2, h2, h⟩ := bd_some h
  refine b_callV (isC := [0, 1, 2, 3]) (ci := 7)  (st := []) (bs1 := [bTrialsG K (a0 0) ((a0 1) 0) ((a0 2) 0) ((a0 3) 0) q2, bFairG K (a0 1) g1, bOrderG K (a0 2) g2, bOrderG K (a0 3) g3, bWorldG K (a1 0) ((a1 1) 0) ((a1 2) 0) ((a1 3) 0) g4, bFairG K (a1 1) g5, bFairG K (a1 2) g6, bNotesG K (a1 3) g7]) (cTrials_find (a0 := a0) (g0 := g0) (g1 := g1) (g2 := g2) (g3 := g3) h2) rfl rfl (Nat.le_of_ble_eq_true rfl) kTrials_find (tb_in (i := 10) (j := 20) rfl rfl) (by decide) (by decide) rfl rfl rfl rfl rfl rfl rfl dX9_findRains_11 ?_
  refine r_iconst (x := (0 : Int32)) dX9_findRains_14 (by decide) ?_
  refine r_istore (lv' := [(8, .int (0 : Int32)), (6, .long y1), (0, .ref ((a0 0) 0)), (1, .ref ((a1 0) 0)), (2, .null), (3, .int x3), (4, .int x4), (5, .int x5)]) dX9_findRains_15 (Nat.le_of_ble_eq_true rfl) rfl ?_
  refine r_sub (lv' := [(0, .ref ((a0 0) 0)), (1, .ref ((a1 0) 0)), (2, .null), (3, .int x3), (4, .int x4), (5, .int x5), (6, .long y1), (8, .int (0 : Int32))]) [2, 3, 4, 5, 6, 7, 1, 0] rfl ?_
  exact cTrials_findRainsrn_l17 (g4 := g4) (g6 := g6)  FU y1 (0 : Int32) q2 g1 h
end
theorem dX0_take_0 : decode cX0_take 0 = .ok (.aload_n 0, 1) := by decide +kernel
theorem dX0_take_1 : decode cX0_take 1 = .ok (.aload_n 1, 1) := by decide +kernel
theorem dX0_take_2 : decode cX0_take 2 = .ok (.getfield 25, 3) := by decide +kernel
theorem dX0_take_5 : decode cX0_take 5 = .ok (.putfield 15, 3) := by decide +kernel
theorem dX0_take_8 : decode cX0_take 8 = .ok (.aload_n 1, 1) := by decide +kernel
theorem dX0_take_9 : decode cX0_take 9 = .ok (.getfield 28, 3) := by decide +kernel
theorem dX0_take_12 : decode cX0_take 12 = .ok (.iconst 0, 1) := by decide +kernel
theorem dX0_take_13 : decode cX0_take 13 = .ok (.aload_n 0, 1) := by decide +kernel
theorem dX0_take_14 : decode cX0_take 14 = .ok (.getfield 9, 3) := by decide +kernel
theorem dX0_take_17 : decode cX0_take 17 = .ok (.iconst 0, 1) := by decide +kernel
theorem dX0_take_18 : decode cX0_take 18 = .ok (.aload_n 0, 1) := by decide +kernel
theorem dX0_take_19 : decode cX0_take 19 = .ok (.getfield 15, 3) := by decide +kernel
theorem dX0_take_22 : decode cX0_take 22 = .ok (.invokestatic 31, 3) := by decide +kernel
theorem dX0_take_25 : decode cX0_take 25 = .ok (.aload_n 1, 1) := by decide +kernel
theorem dX0_take_26 : decode cX0_take 26 = .ok (.iconst 0, 1) := by decide +kernel
theorem dX0_take_27 : decode cX0_take 27 = .ok (.putfield 25, 3) := by decide +kernel
theorem dX0_take_30 : decode cX0_take 30 = .ok (.aload_n 0, 1) := by decide +kernel
theorem dX0_take_31 : decode cX0_take 31 = .ok (.iconst 0, 1) := by decide +kernel
theorem dX0_take_32 : decode cX0_take 32 = .ok (.putfield 19, 3) := by decide +kernel
theorem dX0_take_35 : decode cX0_take 35 = .ok (.aload_n 0, 1) := by decide +kernel
theorem dX0_take_36 : decode cX0_take 36 = .ok (.iconst 0, 1) := by decide +kernel
theorem dX0_take_37 : decode cX0_take 37 = .ok (.putfield 22, 3) := by decide +kernel
theorem dX0_take_40 : decode cX0_take 40 = .ok (.return_, 1) := by decide +kernel
abbrev MCursor_take : rx_M := (RX0, yX0_take, cX0_take, 2, none, 3)
theorem kCursor_take : rKv MCursor_take 1 := ⟨tb_in (i := 13) (j := 18) rfl rfl, tb_in (i := 13) (j := 19) rfl rfl, tb_in (i := 1) (j := 31) rfl rfl, tb_in (i := 0) (j := 9) rfl rfl, ⟨by decide, by decide, by decide +kernel⟩, by decide⟩
section
variable {a0 : Nat → Nat} {a1 : Nat → Nat} {z0_text : Nat → Int32} {z0_size : Int32} {z0_at : Int32} {z0_fault : Int32} {z1_bytes : Nat → Int32} {z1_size : Int32}
def mCursor_take (z0_text : Nat → Int32) (z0_size : Int32) (z0_at : Int32) (z0_fault : Int32) (z1_bytes : Nat → Int32) (z1_size : Int32) : Option ((Nat → Int32) × Int32 × Int32 × Int32 × Int32) := rq (cpin (0 : Int32) (0 : Int32) z1_size 400 400) (rq (cpfit z1_bytes (0 : Int32) z1_size) (lt (va_cpy z1_bytes z0_text (0 : Int32).toNatClampNeg (0 : Int32).toNatClampNeg z1_size.toNatClampNeg) (fun u1 => some (u1, z1_size, (0 : Int32), (0 : Int32), (0 : Int32)))))
set_option maxHeartbeats 4000000 in
set_option maxRecDepth 20000 in
theorem cCursor_take {q : (Nat → Int32) × Int32 × Int32 × Int32 × Int32}  (h : mCursor_take z0_text z0_size z0_at z0_fault z1_bytes z1_size = some q) : rMet l D Z (ty7 K) MCursor_take [.ref (a0 0), .ref (a1 0)] (List.flatten [bCursor K a0 z0_text z0_size z0_at z0_fault, bTape K a1 z1_bytes z1_size]) (List.flatten [bCursor K a0 q.1 q.2.1 q.2.2.1 q.2.2.2.1, bTape K a1 z1_bytes q.2.2.2.2]) none := by
  refine rMet.of (by decide) rfl (Nat.le_of_ble_eq_true rfl) ?_
  refine r_sub (lv' := [(0, .ref (a0 0)), (1, .ref (a1 0))]) [0, 1] rfl ?_
  unfold mCursor_take at h
  refine r_aload_n 0 dX0_take_0 rfl ?_
  refine r_aload_n 1 dX0_take_1 rfl ?_
  refine gTape_sizeN 1 rfl (List.mem_of_getElem? (i := 1) rfl) dX0_take_2 ?_
  refine pCursor_size (bs1 := [bCursor K a0 z0_text z1_size z0_at z0_fault, bTape K a1 z1_bytes z1_size]) 0 rfl rfl (tb_in (i := 0) (j := 6) rfl rfl) dX0_take_5 ?_
  refine r_aload_n 1 dX0_take_8 rfl ?_
  refine gTape_bytesN 1 rfl (List.mem_of_getElem? (i := 0) rfl) dX0_take_9 ?_
  refine r_iconst (x := (0 : Int32)) dX0_take_12 (by decide) ?_
  refine r_aload_n 0 dX0_take_13 rfl ?_
  refine gCursor_text 0 rfl (tb_in (i := 0) (j := 5) rfl rfl) dX0_take_14 ?_
  refine r_iconst (x := (0 : Int32)) dX0_take_17 (by decide) ?_
  refine r_aload_n 0 dX0_take_18 rfl ?_
  refine gCursor_size 0 rfl (tb_in (i := 0) (j := 6) rfl rfl) dX0_take_19 ?_
  obtain ⟨h1, h⟩ := rq_some h
  obtain ⟨h2, h⟩ := rq_some h
  obtain ⟨u1, e1, h⟩ := lt_some h
  refine b_copy (bs1 := [bCursor K a0 u1 z1_size z0_at z0_fault, bTape K a1 z1_bytes z1_size]) (ty := .byte) 1 1 0 1 0 e1 h1 (of_decide_eq_true h2) rfl rfl rfl rfl rfl rfl rfl (tb_in (i := 0) (j := 10) rfl rfl) (tb_in (i := 0) (j := 11) rfl rfl) (tb_in (i := 0) (j := 12) rfl rfl) (tb_in (i := 0) (j := 13) rfl rfl) (by decide) (Nat.le_of_ble_eq_true rfl) dX0_take_22 ?_
  refine r_aload_n 1 dX0_take_25 rfl ?_
  refine r_iconst (x := (0 : Int32)) dX0_take_26 (by decide) ?_
  refine pTape_sizeN (bs1 := [bCursor K a0 u1 z1_size z0_at z0_fault, bTape K a1 z1_bytes (0 : Int32)]) 1 rfl rfl (List.mem_of_getElem? (i := 1) rfl) dX0_take_27 ?_
  refine r_aload_n 0 dX0_take_30 rfl ?_
  refine r_iconst (x := (0 : Int32)) dX0_take_31 (by decide) ?_
  refine pCursor_at (bs1 := [bCursor K a0 u1 z1_size (0 : Int32) z0_fault, bTape K a1 z1_bytes (0 : Int32)]) 0 rfl rfl (tb_in (i := 0) (j := 7) rfl rfl) dX0_take_32 ?_
  refine r_aload_n 0 dX0_take_35 rfl ?_
  refine r_iconst (x := (0 : Int32)) dX0_take_36 (by decide) ?_
  refine pCursor_fault (bs1 := [bCursor K a0 u1 z1_size (0 : Int32) (0 : Int32), bTape K a1 z1_bytes (0 : Int32)]) 0 rfl rfl (tb_in (i := 0) (j := 8) rfl rfl) dX0_take_37 ?_
  have hq := Option.some.inj h
  subst hq
  exact r_vret rfl dX0_take_40
end
theorem dX0_isFine_0 : decode cX0_isFine 0 = .ok (.aload_n 0, 1) := by decide +kernel
theorem dX0_isFine_1 : decode cX0_isFine 1 = .ok (.getfield 22, 3) := by decide +kernel
theorem dX0_isFine_4 : decode cX0_isFine 4 = .ok (.ifCond .ne 7, 3) := by decide +kernel
theorem dX0_isFine_7 : decode cX0_isFine 7 = .ok (.iconst 1, 1) := by decide +kernel
theorem dX0_isFine_8 : decode cX0_isFine 8 = .ok (.goto 4, 3) := by decide +kernel
theorem dX0_isFine_11 : decode cX0_isFine 11 = .ok (.iconst 0, 1) := by decide +kernel
theorem dX0_isFine_12 : decode cX0_isFine 12 = .ok (.ireturn, 1) := by decide +kernel
abbrev MCursor_isFine : rx_M := (RX0, yX0_isFine, cX0_isFine, 1, (some .boolean), 1)
theorem kCursor_isFine : rKv MCursor_isFine 0 := ⟨tb_in (i := 6) (j := 6) rfl rfl, tb_in (i := 6) (j := 7) rfl rfl, tb_in (i := 1) (j := 31) rfl rfl, tb_in (i := 0) (j := 14) rfl rfl, ⟨by decide, by decide, by decide +kernel⟩, by decide⟩
section
variable {a0 : Nat → Nat} {z0_text : Nat → Int32} {z0_size : Int32} {z0_at : Int32} {z0_fault : Int32}
def mCursor_isFine (z0_fault : Int32) : Option (Int32) := (if z0_fault = 0 then some ((1 : Int32)) else some ((0 : Int32)))
set_option maxHeartbeats 4000000 in
set_option maxRecDepth 20000 in
theorem cCursor_isFine {q : Int32}  (h : mCursor_isFine z0_fault = some q) : rMet l D Z (ty7 K) MCursor_isFine [.ref (a0 0)] (List.flatten [bCursor K a0 z0_text z0_size z0_at z0_fault]) (List.flatten [bCursor K a0 z0_text z0_size z0_at z0_fault]) (some (.int q)) := by
  refine rMet.of (by decide) rfl (Nat.le_of_ble_eq_true rfl) ?_
  refine r_sub (lv' := [(0, .ref (a0 0))]) [0] rfl ?_
  unfold mCursor_isFine at h
  refine r_aload_n 0 dX0_isFine_0 rfl ?_
  refine gCursor_fault 0 rfl (tb_in (i := 0) (j := 8) rfl rfl) dX0_isFine_1 ?_
  refine r_if_ne 11 dX0_isFine_4 (by decide) (fun c1 => ?_) (fun c1 => ?_)
  · replace h := it_neg c1 h
    refine r_iconst (x := (0 : Int32)) dX0_isFine_11 (by decide) ?_
    have hq := Option.some.inj h
    subst hq
    exact r_zret (ty := .boolean) rfl rfl dX0_isFine_12
  · replace h := it_pos c1 h
    refine r_iconst (x := (1 : Int32)) dX0_isFine_7 (by decide) ?_
    refine r_goto 12 dX0_isFine_8 (by decide) ?_
    have hq := Option.some.inj h
    subst hq
    exact r_zret (ty := .boolean) rfl rfl dX0_isFine_12
end
end PC4
