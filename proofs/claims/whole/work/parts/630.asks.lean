/-! asks -/
section asks
variable {g0 : tyNextStall} {g1 : tyTape} {g3 : tyWorld} {g4 g5 : tyFair} {g6 : tyNotes} {g7 : tyPast} {pr : Nat → tyRule} {pf : Nat → tyFair} {pw : Nat → tyWorld} {pt pn : Nat → tyFair} {po : Nat → tyNotes}
  {tape : Nat → Int32} {taped rules : Int32} {sign clause clauses said : Nat → Int32} {force x absent rain : Int32} {was : Nat → Int32} {undone : Int32} {images iforce ix made : Nat → Int32}
theorem pl_ev (x : Int32) : mNextStall_isPlaceOrNone x = some (b01 (wi x (-1) 5 = true)) := by
  unfold mNextStall_isPlaceOrNone
  rw [within_ev, bs, rq_bob]
  rfl
theorem who_ev {N : Nat} {o : Nat → Nat} {x : Int32} {g : tyOrder} (hN : N ≤ 6) (hs : g.2 = nn N) : mTrials_whoStandsAt x g = some (if wi x 0 ((N : Int) - 1) = true then g.1 x.toNatClampNeg else -nn 2) := by
  unfold mTrials_whoStandsAt
  rw [within_ev, bs, hs, li1, nn_pred (by omega), show (0 : Int32).toInt = 0 from rfl]
  by_cases e : wi x 0 ((N : Int) - 1) = true
  · rw [ifb_t e, if_pos e]
    obtain ⟨k, hk, ek⟩ := wi_st e
    subst ek
    rw [rq_inb (by omega) (by omega)]
  · rw [ifb_f e, if_neg e]
    rfl
theorem fd0 {f : Nat → Int32} {a b c : Int32} : upd (upd (upd f 0 a) 1 b) 2 c 0 = a := by rw [upd_o (by omega), upd_o (by omega), upd_s]
theorem fd1 {f : Nat → Int32} {a b c : Int32} : upd (upd (upd f 0 a) 1 b) 2 c 1 = b := by rw [upd_o (by omega), upd_s]
theorem fd2 {f : Nat → Int32} {a b c : Int32} : upd (upd (upd f 0 a) 1 b) 2 c 2 = c := upd_s _ _ _
theorem bst_first {f : Nat → Int32} {k i : Nat} {b b' m : Int32} (h : m < f i) : bstS f (k + 1) i b m = bstS f (k + 1) i b' m := by
  rw [bstS, bstS, if_pos h, if_pos h]
theorem m1_lt {k : Nat} (h : k < 2147483648) : -nn 1 < nn k := by
  rw [Int32.lt_iff_toInt_lt, nn_toInt h, show (-nn 1).toInt = -1 from by decide]; omega
theorem bd_w {N s : Nat} {d : Nat → Int32} (h : bdR N d) (hs : s < N) : -nn 1 < d (11 + 4 * s + 3) := by
  obtain ⟨T, W, G, K, _, _, hv, hsum⟩ := h
  rw [(hv s hs).2.2]
  exact m1_lt (by have := bd_one hsum hs; omega)
theorem two_ev {f : Nat → Int32} {j : Nat} {p : Int32 × Int32} (hj : j ≤ 1) (h0 : f 0 = p.1) (h1 : f 1 = p.2) : f j = (if nn j = nn 0 then p.1 else p.2) := by
  match j, hj with
  | 0, _ => rw [if_pos rfl]; exact h0
  | 1, _ => rw [if_neg (by decide)]; exact h1
theorem of3_ev {f : Nat → Int32} {j : Nat} {s : Int32 × Int32 × Int32} (hj : j ≤ 2) (h : (f 0, f 1, f 2) = s) : f j = of3 (nn j) s := by
  subst h
  unfold of3
  match j, hj with
  | 0, _ => rw [if_pos rfl]
  | 1, _ => rw [if_neg (by decide), if_pos rfl]
  | 2, _ => rw [if_neg (by decide), if_neg (by decide)]
theorem INV_up {t : Nat} {q : tyRule} (h : INV g0 g1 g3 g4 g5 g6 g7 pr pf pw pt pn po tape taped rules sign clause clauses said force x absent rain was undone images iforce ix made) (e : rqE (pr t) q) : INV g0 g1 g3 g4 g5 g6 g7 ((va_up pr t q)) pf pw pt pn po tape taped rules sign clause clauses said force x absent rain was undone images iforce ix made := INV_pr h ((prE.refl pr).up e)
theorem bd_keeps {N k : Nat} {d : Nat → Int32} (h : bdR N d) (hk : k ≤ 9) : bdR N (upd d 2 (nn k)) := by
  obtain ⟨T, W, G, K, hK, h2, hv, hsum⟩ := h
  refine ⟨T, W, G, k, hk, upd_s _ _ _, fun s hs => ?_, hsum⟩
  obtain ⟨a1, a2, a3⟩ := hv s hs
  exact ⟨by rw [upd_o (by omega)]; exact a1, by rw [upd_o (by omega)]; exact a2, by rw [upd_o (by omega)]; exact a3⟩
theorem upd_self (d : Nat → Int32) (k : Nat) : upd d k (d k) = d := by
  funext j
  by_cases e : j = k
  · subst e; exact upd_s _ _ _
  · exact upd_o e
theorem T_fairPrice (h : INV g0 g1 g3 g4 g5 g6 g7 pr pf pw pt pn po tape taped rules sign clause clauses said force x absent rain was undone images iforce ix made) (a b c : Int32) (g8 : tyTrials) (g9 : tyFair) (z : Nat → Int64) (tp : Int32) (wd : Nat → Int64) (kept : Nat → Int32) : ∃ v g8' g9' pr' z' tp' wd' rain' kept', mNextStall_fairPrice a b c g0 g3 g5 g8 g9 pr = some (v, g8', g9', pr') ∧ m_fairPrice a b c sign clause clauses z tp wd said force absent rain kept = some (v, z', tp', wd', said, rain', kept') ∧ INV g0 g1 g3 g4 g5 g6 g7 pr' pf pw pt pn po tape taped rules sign clause clauses said force x absent rain' was undone images iforce ix made := by
  have h0 := h
  obtain ⟨h1, h2, h3, R, hR, h5, h6, h7⟩ := h
  subst h2; subst h3
  obtain ⟨N, B, hN, hB, s3, c3, s4, c4, hop⟩ := wd_st h5
  unfold mNextStall_fairPrice m_fairPrice
  rw [cisStall_ev (by omega) c3, misStall_ev (by omega) s3, bs, bs]
  by_cases e1 : ¬ wi a 0 ((N : Int) - 1) = true
  · rw [ifb_f e1, ifb_f e1]
    exact ⟨_, g8, g9, pr, z, tp, wd, nn 0, kept, rfl, rfl, h0⟩
  replace e1 := Classical.not_not.1 e1
  rw [ifb_t e1, ifb_t e1]
  obtain ⟨st, hs, es⟩ := wi_st e1
  subst es
  obtain ⟨L, rg, pl, ho⟩ := hop (Or.inl (by omega))
  have hr := ho.1
  have hF := ho.2.1
  have hf := hF.1.2.2.2.2.1
  rw [within_ev, in_ev, bs, bs, show (1 : Int32).toInt = 1 from rfl, show (60 : Int32).toInt = 60 from rfl, show (1 : Int64).toInt = 1 from rfl, show (60 : Int64).toInt = 60 from rfl]
  by_cases e2 : ¬ wi b 1 60 = true
  · rw [ifb_f e2, ifb_f e2]
    exact ⟨_, g8, g9, pr, z, tp, wd, nn 0, kept, rfl, rfl, h0⟩
  replace e2 := Classical.not_not.1 e2
  rw [ifb_t e2, ifb_t e2]
  obtain ⟨M, lM, uM, eM⟩ := wi_nn (a := 1) (b := 60) e2
  subst eM
  rw [within_ev, in_ev, bs, bs, show (0 : Int32).toInt = 0 from rfl, show (1 : Int32).toInt = 1 from rfl, show (0 : Int64).toInt = 0 from rfl, show (1 : Int64).toInt = 1 from rfl]
  by_cases e3 : ¬ wi c 0 1 = true
  · rw [ifb_f e3, ifb_f e3]
    exact ⟨_, g8, g9, pr, z, tp, wd, nn 0, kept, rfl, rfl, h0⟩
  replace e3 := Classical.not_not.1 e3
  rw [ifb_t e3, ifb_t e3]
  obtain ⟨j, lj, uj, ej⟩ := wi_nn (a := 0) (b := 1) e3
  subst ej
  obtain ⟨ru, o, f1, f2, f3⟩ := force_ev hR h5
  obtain ⟨kp, k1, k2⟩ := keeps_ev said kept
  obtain ⟨z', tp', wd', p1⟩ := fairPrice_l45_ev f1 hr hf (show M < 4000 by omega) k2 hs (nn j) 40 1 FU (-nn 1) (-nn 1) z tp wd (by omega) (by unfold FU; omega)
  rw [k1, bs, li1, p1, f2, bs]
  rcases f3 with ⟨e1, e2⟩ | ⟨t, r, len, ht, e1, e2, e3⟩
  · subst e1; subst e2
    obtain ⟨t', g1', q1, q2, q3⟩ := c_fpn hr hF (show M < 4000 by omega) hs 40 1 FU (upd (upd (upd g8.1 0 (nn 0)) 1 (-nn 1)) 2 (nn 0), g8.2) g9 (by omega) (by unfold FU; omega) (by omega)
    dsimp only at q2 q3
    rw [fd0, fd1, bst_first (b' := -nn 1) (show -nn 1 < fpF none N B rg pl said st M 1 from bd_w (bd_mins hr hN hB M _ _ (bd_ring ho.2.2.1 hN (fun k hk hne => upd_o (fun e => hne ⟨st, hs, e⟩))) (fR_price hr hF hs (show 1 ≤ 1 by omega) (by omega)).1.2.2.2.2.2.2).1 hs)] at q2 q3
    have cl : mTrials_findFairPricern (nn st) (nn M) g8 g9 g5 = some (t', g1') := by
      unfold mTrials_findFairPricern
      rw [find_ev, bs, li0, li1]
      exact q1
    rw [mtn, cl, bs, rq_inb (show j < 3 by omega) (by omega), nn_tn (by omega), two_ev uj q2 q3]
    exact ⟨_, _, _, pr, z', tp', wd', nn 0, kp, rfl, rfl, h0⟩
  · subst e1; subst e2
    obtain ⟨t', g1', q', q1, q2, q3, q4⟩ := c_fpr e3 hr hF (show M < 4000 by omega) hs 40 1 FU (upd (upd (upd g8.1 0 (nn 0)) 1 (-nn 1)) 2 (nn 0), g8.2) g9 (pr t) (by omega) (by unfold FU; omega) (by omega) (rqE.refl _)
    dsimp only at q2 q3
    rw [fd0, fd1, bst_first (b' := -nn 1) (show -nn 1 < fpF (some r) N B rg pl said st M 1 from bd_w (bd_mins hr hN hB M _ _ (bd_ring ho.2.2.1 hN (fun k hk hne => upd_o (fun e => hne ⟨st, hs, e⟩))) (fR_price hr hF hs (show 1 ≤ 1 by omega) (by omega)).1.2.2.2.2.2.2).1 hs)] at q2 q3
    have cl : mTrials_findFairPricerr (nn st) (nn M) g8 g9 g5 (pr t) = some (t', g1', q') := by
      unfold mTrials_findFairPricerr
      rw [find_ev, bs, li0, li1]
      exact q1
    rw [mts, rq_dec (show t < 6 by omega), cl, bs, rq_inb (show j < 3 by omega) (by omega), nn_tn (by omega), two_ev uj q2 q3]
    exact ⟨_, _, _, _, z', tp', wd', nn 0, kp, rfl, rfl, INV_up h0 q4⟩
theorem T_commission (h : INV g0 g1 g3 g4 g5 g6 g7 pr pf pw pt pn po tape taped rules sign clause clauses said force x absent rain was undone images iforce ix made) (a b c : Int32) (g8 : tyTrials) (g9 : tyFair) (z : Nat → Int64) (tp : Int32) (wd : Nat → Int64) (kept : Nat → Int32) : ∃ v g8' g9' pr' z' tp' wd' rain' kept', mNextStall_commission a b c g0 g3 g5 g8 g9 pr = some (v, g8', g9', pr') ∧ m_commission a b c sign clause clauses z tp wd said force absent rain kept = some (v, z', tp', wd', said, rain', kept') ∧ INV g0 g1 g3 g4 g5 g6 g7 pr' pf pw pt pn po tape taped rules sign clause clauses said force x absent rain' was undone images iforce ix made := by
  have h0 := h
  obtain ⟨h1, h2, h3, R, hR, h5, h6, h7⟩ := h
  subst h2; subst h3
  obtain ⟨N, B, hN, hB, s3, c3, s4, c4, hop⟩ := wd_st h5
  unfold mNextStall_commission m_commission
  rw [cisStall_ev (by omega) c3, misStall_ev (by omega) s3, bs, bs]
  by_cases e1 : ¬ wi a 0 ((N : Int) - 1) = true
  · rw [ifb_f e1, ifb_f e1]
    exact ⟨_, g8, g9, pr, z, tp, wd, nn 0, kept, rfl, rfl, h0⟩
  replace e1 := Classical.not_not.1 e1
  rw [ifb_t e1, ifb_t e1]
  obtain ⟨st, hs, es⟩ := wi_st e1
  subst es
  obtain ⟨L, rg, pl, ho⟩ := hop (Or.inl (by omega))
  have hr := ho.1
  have hF := ho.2.1
  have hf := hF.1.2.2.2.2.1
  rw [within_ev, in_ev, bs, bs, show (1 : Int32).toInt = 1 from rfl, show (60 : Int32).toInt = 60 from rfl, show (1 : Int64).toInt = 1 from rfl, show (60 : Int64).toInt = 60 from rfl]
  by_cases e2 : ¬ wi b 1 60 = true
  · rw [ifb_f e2, ifb_f e2]
    exact ⟨_, g8, g9, pr, z, tp, wd, nn 0, kept, rfl, rfl, h0⟩
  replace e2 := Classical.not_not.1 e2
  rw [ifb_t e2, ifb_t e2]
  obtain ⟨M, lM, uM, eM⟩ := wi_nn (a := 1) (b := 60) e2
  subst eM
  rw [within_ev, in_ev, bs, bs, show (0 : Int32).toInt = 0 from rfl, show (1 : Int32).toInt = 1 from rfl, show (0 : Int64).toInt = 0 from rfl, show (1 : Int64).toInt = 1 from rfl]
  by_cases e3 : ¬ wi c 0 1 = true
  · rw [ifb_f e3, ifb_f e3]
    exact ⟨_, g8, g9, pr, z, tp, wd, nn 0, kept, rfl, rfl, h0⟩
  replace e3 := Classical.not_not.1 e3
  rw [ifb_t e3, ifb_t e3]
  obtain ⟨j, lj, uj, ej⟩ := wi_nn (a := 0) (b := 1) e3
  subst ej
  obtain ⟨ru, o, f1, f2, f3⟩ := force_ev hR h5
  obtain ⟨kp, k1, k2⟩ := keeps_ev said kept
  obtain ⟨z', tp', wd', p1⟩ := commission_l53_ev f1 hr (show M < 4000 by omega) hs (nn j) hf k2 10 0 FU (-nn 1) (-nn 1) (said 2) z tp wd (by omega) (by unfold FU; omega)
  rw [upd_self] at p1
  rw [li2, rq_inb (show 2 < 156 by omega) (by omega), ltp, nn_tn (k := 2) (by omega), k1, bs, li0, li1, p1, f2, bs]
  rcases f3 with ⟨e1, e2⟩ | ⟨t, r, len, ht, e1, e2, e3⟩
  · subst e1; subst e2
    obtain ⟨t', g1', q1, q2, q3⟩ := c_con hr hF (show M < 4000 by omega) hs 10 0 FU (upd (upd (upd g8.1 0 (nn 0)) 1 (-nn 1)) 2 (nn 0), g8.2) g9 (by omega) (by unfold FU; omega) 
    dsimp only at q2 q3
    rw [fd0, fd1, bst_first (b' := -nn 1) (show -nn 1 < coF none N B rg pl said st M 0 from bd_w (bd_mins hr hN hB M _ _ (bd_keeps ho.2.2.1 (show 0 ≤ 9 by omega)) (fR_keeps hr hF).1.2.2.2.2.2.2).1 hs)] at q2 q3
    have cl : mTrials_findCommissionrn (nn st) (nn M) g8 g9 g5 = some (t', g1') := by
      unfold mTrials_findCommissionrn
      rw [find_ev, bs, li0, li1]
      exact q1
    rw [mtn, cl, bs, rq_inb (show j < 3 by omega) (by omega), nn_tn (by omega), two_ev uj q2 q3]
    exact ⟨_, _, _, pr, z', tp', wd', nn 0, kp, rfl, rfl, h0⟩
  · subst e1; subst e2
    obtain ⟨t', g1', q', q1, q2, q3, q4⟩ := c_cor e3 hr hF (show M < 4000 by omega) hs 10 0 FU (upd (upd (upd g8.1 0 (nn 0)) 1 (-nn 1)) 2 (nn 0), g8.2) g9 (pr t) (by omega) (by unfold FU; omega)  (rqE.refl _)
    dsimp only at q2 q3
    rw [fd0, fd1, bst_first (b' := -nn 1) (show -nn 1 < coF (some r) N B rg pl said st M 0 from bd_w (bd_mins hr hN hB M _ _ (bd_keeps ho.2.2.1 (show 0 ≤ 9 by omega)) (fR_keeps hr hF).1.2.2.2.2.2.2).1 hs)] at q2 q3
    have cl : mTrials_findCommissionrr (nn st) (nn M) g8 g9 g5 (pr t) = some (t', g1', q') := by
      unfold mTrials_findCommissionrr
      rw [find_ev, bs, li0, li1]
      exact q1
    rw [mts, rq_dec (show t < 6 by omega), cl, bs, rq_inb (show j < 3 by omega) (by omega), nn_tn (by omega), two_ev uj q2 q3]
    exact ⟨_, _, _, _, z', tp', wd', nn 0, kp, rfl, rfl, INV_up h0 q4⟩
end asks
