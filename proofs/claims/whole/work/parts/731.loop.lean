/-! the law's loop -/
section LL
variable {D : va_G} {Z : (Nat → Nat) × (Nat → Nat)} {K : Nat → ClassId} {p : Program} {l : Launch} {e : Env} {s : State} {m : MethodId} {below : List Frame} {meth : Method} {c : Code} {b L : Nat} {xs : Nat → Int32} {cells slots i : Nat} {a0 ff fr fi : Nat → Nat → Nat} {ad : Nat → Nat}
set_option maxHeartbeats 4000000 in
theorem law_loop (C : lC D Z K p s m meth c b L xs) (hc1 : cells ≤ 600000) (hs1 : slots ≤ 7302250) (hL : L ≤ 3072) : ∀ (n i : Nat), i ≤ 4000 → L < i + 6 * n → ∀ (g0 : tyNextStall) (g1 : tyTape) (g2 : tyCursor) (g3 : tyWorld) (g4 : tyFair) (g5 : tyFair) (g6 : tyNotes) (g7 : tyPast) (g8 : tyTrials) (g9 : tyFair) (g10 : tyOrder) (g11 : tyOrder) (pf : Nat → tyFair) (pr : Nat → tyRule) (pw : Nat → tyWorld) (pt : Nat → tyFair) (pn : Nat → tyFair) (po : Nat → tyNotes) (tape : Nat → Int32) (taped : Int32) (rules : Int32) (sign : Nat → Int32) (length : Nat → Int32) (clause : Nat → Int32) (clauses : Nat → Int32) (rd : Nat → Int32) (nx : Int32) (wr : Int32) (nb : Int32) (tx : Int32) (mdd : Int32) (dp : Int32) (li : Int32) (opn : Nat → Int32) (opd : Int32) (stk : Nat → Int64) (top : Int32) (wd : Nat → Int64) (said : Nat → Int32) (force : Int32) (x : Int32) (absent : Int32) (rain : Int32) (was : Nat → Int32) (undone : Int32) (kept : Nat → Int32) (ord : Nat → Int32) (bor : Nat → Int32) (hb : Nat → Int32) (wt : Nat → Int32) (isf : Nat → Int32) (till : Nat → Int32) (dx : Int64) (images : Nat → Int32) (iforce : Nat → Int32) (ix : Nat → Int32) (made : Nat → Int32), INV g0 g1 g3 g4 g5 g6 g7 pr pf pw pt pn po tape taped rules sign clause clauses said force x absent rain was undone images iforce ix made → lW D p l e s m below meth c b cells slots 18 [(0, .ref b), (1, .ref (a0 0 0)), (2, .ref (ad 0)), (3, .int (nI i))] [] [lwA K a0 ff fr fi g0 g1 g2 g3 g4 g5 g6 g7 g8 g9 g10 g11, lwF K ff pf, lwR K fr pr, lwI K fi pw pt pn po, wM K ad tape taped rules sign length clause clauses rd nx wr nb tx mdd dp li opn opd stk top wd said force x absent rain was undone kept ord bor hb wt isf till dx images iforce ix made] := by
  intro n
  induction n with
  | zero =>
    intro i hi0 hn g0 g1 g2 g3 g4 g5 g6 g7 g8 g9 g10 g11 pf pr pw pt pn po tape taped rules sign length clause clauses rd nx wr nb tx mdd dp li opn opd stk top wd said force x absent rain was undone kept ord bor hb wt isf till dx images iforce ix made hI
    refine lz_iload_n C 3 dL_law_18 rfl ?_
    refine lz_aload_n C 0 dL_law_19 rfl ?_
    refine lz_slen C dL_law_20 ?_
    refine lz_bipush C (x := (6 : Int32)) dL_law_21 (by decide) ?_
    refine lz_isub C dL_law_23 ?_
    have hy : (nI L - (6 : Int32)).toInt = (L : Int) - 6 := by
      show (nn L - nn 6).toInt = _
      rw [i_sub (by rw [nn_toInt (by omega), nn_toInt (by omega)]; omega) (by rw [nn_toInt (by omega), nn_toInt (by omega)]; omega), nn_toInt (by omega), nn_toInt (by omega)]
      omega
    have hi : (nI i).toInt = (i : Int) := nn_toInt (by omega)
    refine lz_icmp_gt C 1269 dL_law_24 (by decide) (fun _ => ?_) (fun h => ?_)
    · refine lz_iconst C (x := (1 : Int32)) dL_law_1269 (by decide) ?_
      exact lz_ret C hc1 hs1 dL_law_1270
    · exact absurd (by rw [Int32.lt_iff_toInt_lt, hy, hi]; omega) h
  | succ n ih =>
    intro i hi0 hn g0 g1 g2 g3 g4 g5 g6 g7 g8 g9 g10 g11 pf pr pw pt pn po tape taped rules sign length clause clauses rd nx wr nb tx mdd dp li opn opd stk top wd said force x absent rain was undone kept ord bor hb wt isf till dx images iforce ix made hI
    refine lz_iload_n C 3 dL_law_18 rfl ?_
    refine lz_aload_n C 0 dL_law_19 rfl ?_
    refine lz_slen C dL_law_20 ?_
    refine lz_bipush C (x := (6 : Int32)) dL_law_21 (by decide) ?_
    refine lz_isub C dL_law_23 ?_
    have hy : (nI L - (6 : Int32)).toInt = (L : Int) - 6 := by
      show (nn L - nn 6).toInt = _
      rw [i_sub (by rw [nn_toInt (by omega), nn_toInt (by omega)]; omega) (by rw [nn_toInt (by omega), nn_toInt (by omega)]; omega), nn_toInt (by omega), nn_toInt (by omega)]
      omega
    have hi : (nI i).toInt = (i : Int) := nn_toInt (by omega)
    refine lz_icmp_gt C 1269 dL_law_24 (by decide) (fun _ => ?_) (fun h => ?_)
    · refine lz_iconst C (x := (1 : Int32)) dL_law_1269 (by decide) ?_
      exact lz_ret C hc1 hs1 dL_law_1270
    · have hi6 : i + 6 ≤ L := by
        rw [Int32.lt_iff_toInt_lt, hy, hi] at h
        omega
      -- behind a call
      have kk : ∀ (g0 : tyNextStall) (g1 : tyTape) (g2 : tyCursor) (g3 : tyWorld) (g4 : tyFair) (g5 : tyFair) (g6 : tyNotes) (g7 : tyPast) (g8 : tyTrials) (g9 : tyFair) (g10 : tyOrder) (g11 : tyOrder) (pf : Nat → tyFair) (pr : Nat → tyRule) (pw : Nat → tyWorld) (pt : Nat → tyFair) (pn : Nat → tyFair) (po : Nat → tyNotes) (tape : Nat → Int32) (taped : Int32) (rules : Int32) (sign : Nat → Int32) (length : Nat → Int32) (clause : Nat → Int32) (clauses : Nat → Int32) (rd : Nat → Int32) (nx : Int32) (wr : Int32) (nb : Int32) (tx : Int32) (mdd : Int32) (dp : Int32) (li : Int32) (opn : Nat → Int32) (opd : Int32) (stk : Nat → Int64) (top : Int32) (wd : Nat → Int64) (said : Nat → Int32) (force : Int32) (x : Int32) (absent : Int32) (rain : Int32) (was : Nat → Int32) (undone : Int32) (kept : Nat → Int32) (ord : Nat → Int32) (bor : Nat → Int32) (hb : Nat → Int32) (wt : Nat → Int32) (isf : Nat → Int32) (till : Nat → Int32) (dx : Int64) (images : Nat → Int32) (iforce : Nat → Int32) (ix : Nat → Int32) (made : Nat → Int32), INV g0 g1 g3 g4 g5 g6 g7 pr pf pw pt pn po tape taped rules sign clause clauses said force x absent rain was undone images iforce ix made → lW D p l e s m below meth c b cells slots 1263 [(0, .ref b), (1, .ref (a0 0 0)), (2, .ref (ad 0)), (3, .int (nI i))] [] [lwA K a0 ff fr fi g0 g1 g2 g3 g4 g5 g6 g7 g8 g9 g10 g11, lwF K ff pf, lwR K fr pr, lwI K fi pw pt pn po, wM K ad tape taped rules sign length clause clauses rd nx wr nb tx mdd dp li opn opd stk top wd said force x absent rain was undone kept ord bor hb wt isf till dx images iforce ix made] := by
        intro g0 g1 g2 g3 g4 g5 g6 g7 g8 g9 g10 g11 pf pr pw pt pn po tape taped rules sign length clause clauses rd nx wr nb tx mdd dp li opn opd stk top wd said force x absent rain was undone kept ord bor hb wt isf till dx images iforce ix made hI
        refine lz_iinc C (y := nI (i + 6)) (lv' := [(3, .int (nI (i + 6))), (0, .ref b), (1, .ref (a0 0 0)), (2, .ref (ad 0))]) 3 dL_law_1263 rfl (by show nn i + nn 6 = nn (i + 6); rw [nn_add]) (by decide) rfl ?_
        refine lz_goto C 18 dL_law_1266 (by decide) ?_
        refine lz_sub (lv' := [(0, .ref b), (1, .ref (a0 0 0)), (2, .ref (ad 0)), (3, .int (nI (i + 6)))]) [1, 2, 3, 0] rfl ?_
        exact ih (i + 6) (by omega) (by omega) _ _ _ _ _ _ _ _ _ _ _ _ _ _ _ _ _ _ _ _ _ _ _ _ _ _ _ _ _ _ _ _ _ _ _ _ _ _ _ _ _ _ _ _ _ _ _ _ _ _ _ _ _ _ _ _ _ hI
      refine lz_aload_n C 0 dL_law_27 rfl ?_
      refine lz_iload_n C 3 dL_law_28 rfl ?_
      refine lz_sld C (vp_in_nI (by omega) (by omega)) dL_law_29 ?_
      refine lz_bipush C (x := (63 : Int32)) dL_law_30 (by decide) ?_
      refine lz_iand C dL_law_32 ?_
      generalize hz : (xs (nI i).toNatClampNeg &&& (63 : Int32)) = z
      by_cases ho : z.toInt < 0 ∨ 34 < z.toInt
      · refine lz_tabOut C 1263 dL_law_33 ho (by decide) ?_
        exact kk _ _ _ _ _ _ _ _ _ _ _ _ _ _ _ _ _ _ _ _ _ _ _ _ _ _ _ _ _ _ _ _ _ _ _ _ _ _ _ _ _ _ _ _ _ _ _ _ _ _ _ _ _ _ _ _ _ hI
      · obtain ⟨k, hk⟩ : ∃ k : Nat, z.toInt = (k : Int) := ⟨z.toInt.toNat, by omega⟩
        rcases (show k = 0 ∨ k = 1 ∨ k = 2 ∨ k = 3 ∨ k = 4 ∨ k = 5 ∨ k = 6 ∨ k = 7 ∨ k = 8 ∨ k = 9 ∨ k = 10 ∨ k = 11 ∨ k = 12 ∨ k = 13 ∨ k = 14 ∨ k = 15 ∨ k = 16 ∨ k = 17 ∨ k = 18 ∨ k = 19 ∨ k = 20 ∨ k = 21 ∨ k = 22 ∨ k = 23 ∨ k = 24 ∨ k = 25 ∨ k = 26 ∨ k = 27 ∨ k = 28 ∨ k = 29 ∨ k = 30 ∨ k = 31 ∨ k = 32 ∨ k = 33 ∨ k = 34 by omega) with rfl | rfl | rfl | rfl | rfl | rfl | rfl | rfl | rfl | rfl | rfl | rfl | rfl | rfl | rfl | rfl | rfl | rfl | rfl | rfl | rfl | rfl | rfl | rfl | rfl | rfl | rfl | rfl | rfl | rfl | rfl | rfl | rfl | rfl | rfl
        · refine lz_tabIn C 188 dL_law_33 (by omega) (by omega) (by rw [hk]; rfl) (by decide) ?_
          exact lc_feed C hc1 hs1 hL hi6 hI kk
        · refine lz_tabIn C 251 dL_law_33 (by omega) (by omega) (by rw [hk]; rfl) (by decide) ?_
          exact lc_end C hc1 hs1 hL hi6 hI kk
        · refine lz_tabIn C 274 dL_law_33 (by omega) (by omega) (by rw [hk]; rfl) (by decide) ?_
          exact lc_fair C hc1 hs1 hL hi6 hI kk
        · refine lz_tabIn C 287 dL_law_33 (by omega) (by omega) (by rw [hk]; rfl) (by decide) ?_
          exact lc_rule C hc1 hs1 hL hi6 hI kk
        · refine lz_tabIn C 300 dL_law_33 (by omega) (by omega) (by rw [hk]; rfl) (by decide) ?_
          exact lc_force C hc1 hs1 hL hi6 hI kk
        · refine lz_tabIn C 323 dL_law_33 (by omega) (by omega) (by rw [hk]; rfl) (by decide) ?_
          exact lc_stall C hc1 hs1 hL hi6 hI kk
        · refine lz_tabIn C 356 dL_law_33 (by omega) (by omega) (by rw [hk]; rfl) (by decide) ?_
          exact lc_buyer C hc1 hs1 hL hi6 hI kk
        · refine lz_tabIn C 389 dL_law_33 (by omega) (by omega) (by rw [hk]; rfl) (by decide) ?_
          exact lc_had C hc1 hs1 hL hi6 hI kk
        · refine lz_tabIn C 422 dL_law_33 (by omega) (by omega) (by rw [hk]; rfl) (by decide) ?_
          exact lc_minute C hc1 hs1 hL hi6 hI kk
        · refine lz_tabIn C 435 dL_law_33 (by omega) (by omega) (by rw [hk]; rfl) (by decide) ?_
          exact lc_move C hc1 hs1 hL hi6 hI kk
        · refine lz_tabIn C 468 dL_law_33 (by omega) (by omega) (by rw [hk]; rfl) (by decide) ?_
          exact lc_price C hc1 hs1 hL hi6 hI kk
        · refine lz_tabIn C 501 dL_law_33 (by omega) (by omega) (by rw [hk]; rfl) (by decide) ?_
          exact lc_grudge C hc1 hs1 hL hi6 hI kk
        · refine lz_tabIn C 534 dL_law_33 (by omega) (by omega) (by rw [hk]; rfl) (by decide) ?_
          exact lc_earn C hc1 hs1 hL hi6 hI kk
        · refine lz_tabIn C 567 dL_law_33 (by omega) (by omega) (by rw [hk]; rfl) (by decide) ?_
          exact lc_undo C hc1 hs1 hL hi6 hI kk
        · refine lz_tabIn C 580 dL_law_33 (by omega) (by omega) (by rw [hk]; rfl) (by decide) ?_
          exact lc_ahead C hc1 hs1 hL hi6 hI kk
        · refine lz_tabIn C 623 dL_law_33 (by omega) (by omega) (by rw [hk]; rfl) (by decide) ?_
          exact lc_out C hc1 hs1 hL hi6 hI kk
        · refine lz_tabIn C 646 dL_law_33 (by omega) (by omega) (by rw [hk]; rfl) (by decide) ?_
          exact lc_taken C hc1 hs1 hL hi6 hI kk
        · refine lz_tabIn C 669 dL_law_33 (by omega) (by omega) (by rw [hk]; rfl) (by decide) ?_
          exact lc_bestRing C hc1 hs1 hL hi6 hI kk
        · refine lz_tabIn C 702 dL_law_33 (by omega) (by omega) (by rw [hk]; rfl) (by decide) ?_
          exact lc_quietRing C hc1 hs1 hL hi6 hI kk
        · refine lz_tabIn C 725 dL_law_33 (by omega) (by omega) (by rw [hk]; rfl) (by decide) ?_
          exact lc_fairPrice C hc1 hs1 hL hi6 hI kk
        · refine lz_tabIn C 768 dL_law_33 (by omega) (by omega) (by rw [hk]; rfl) (by decide) ?_
          exact lc_rests C hc1 hs1 hL hi6 hI kk
        · refine lz_tabIn C 821 dL_law_33 (by omega) (by omega) (by rw [hk]; rfl) (by decide) ?_
          exact lc_commission C hc1 hs1 hL hi6 hI kk
        · refine lz_tabIn C 864 dL_law_33 (by omega) (by omega) (by rw [hk]; rfl) (by decide) ?_
          exact lc_makeUp C hc1 hs1 hL hi6 hI kk
        · refine lz_tabIn C 897 dL_law_33 (by omega) (by omega) (by rw [hk]; rfl) (by decide) ?_
          exact lc_away C hc1 hs1 hL hi6 hI kk
        · refine lz_tabIn C 930 dL_law_33 (by omega) (by omega) (by rw [hk]; rfl) (by decide) ?_
          exact lc_swaps C hc1 hs1 hL hi6 hI kk
        · refine lz_tabIn C 963 dL_law_33 (by omega) (by omega) (by rw [hk]; rfl) (by decide) ?_
          exact lc_pence C hc1 hs1 hL hi6 hI kk
        · refine lz_tabIn C 996 dL_law_33 (by omega) (by omega) (by rw [hk]; rfl) (by decide) ?_
          exact lc_note C hc1 hs1 hL hi6 hI kk
        · refine lz_tabIn C 1039 dL_law_33 (by omega) (by omega) (by rw [hk]; rfl) (by decide) ?_
          exact lc_ruled C hc1 hs1 hL hi6 hI kk
        · refine lz_tabIn C 1062 dL_law_33 (by omega) (by omega) (by rw [hk]; rfl) (by decide) ?_
          exact lc_look C hc1 hs1 hL hi6 hI kk
        · refine lz_tabIn C 1095 dL_law_33 (by omega) (by omega) (by rw [hk]; rfl) (by decide) ?_
          exact lc_rings C hc1 hs1 hL hi6 hI kk
        · refine lz_tabIn C 1118 dL_law_33 (by omega) (by omega) (by rw [hk]; rfl) (by decide) ?_
          exact lc_seed C hc1 hs1 hL hi6 hI kk
        · refine lz_tabIn C 1141 dL_law_33 (by omega) (by omega) (by rw [hk]; rfl) (by decide) ?_
          exact lc_rains C hc1 hs1 hL hi6 hI kk
        · refine lz_tabIn C 1194 dL_law_33 (by omega) (by omega) (by rw [hk]; rfl) (by decide) ?_
          exact lc_count C hc1 hs1 hL hi6 hI kk
        · refine lz_tabIn C 1217 dL_law_33 (by omega) (by omega) (by rw [hk]; rfl) (by decide) ?_
          exact lc_image C hc1 hs1 hL hi6 hI kk
        · refine lz_tabIn C 1240 dL_law_33 (by omega) (by omega) (by rw [hk]; rfl) (by decide) ?_
          exact lc_back C hc1 hs1 hL hi6 hI kk
end LL
