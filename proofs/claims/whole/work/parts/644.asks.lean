/-! asks -/
section asks
variable {g0 : tyNextStall} {g1 : tyTape} {g3 : tyWorld} {g4 g5 : tyFair} {g6 : tyNotes} {g7 : tyPast} {pr : Nat → tyRule} {pf : Nat → tyFair} {pw : Nat → tyWorld} {pt pn : Nat → tyFair} {po : Nat → tyNotes}
  {tape : Nat → Int32} {taped rules : Int32} {sign clause clauses said : Nat → Int32} {force x absent rain : Int32} {was : Nat → Int32} {undone : Int32} {images iforce ix made : Nat → Int32}
theorem rains_shut {a b c d : Int32} {g8 : tyTrials} {g9 : tyFair} (w : g3.1 = 0) : mNextStall_rains a b c d g0 g3 g5 g8 g9 pr = some (-1, g8, g9, pr) := by
  have j45 : ∀ s, mNextStall_rains_j45 a b c d g0 g3 g5 g8 g9 pr s = some (-1, g8, g9, pr) := by
    intro s; unfold mNextStall_rains_j45; rw [if_pos w]
  unfold mNextStall_rains mNextStall_rains_j44
  simp only [within_ev, bs, j45, ite_self]
theorem T_rains (h : INV g0 g1 g3 g4 g5 g6 g7 pr pf pw pt pn po tape taped rules sign clause clauses said force x absent rain was undone images iforce ix made) (a b c d : Int32) (g8 : tyTrials) (g9 : tyFair) (z : Nat → Int64) (tp : Int32) (wd : Nat → Int64) (kept : Nat → Int32) (dx : Int64) : ∃ v g8' g9' pr' z' tp' wd' rain' kept' dx', mNextStall_rains a b c d g0 g3 g5 g8 g9 pr = some (v, g8', g9', pr') ∧ m_rains a b c d sign clause clauses z tp wd said force x absent rain kept dx = some (v, z', tp', wd', said, rain', kept', dx') ∧ INV g0 g1 g3 g4 g5 g6 g7 pr' pf pw pt pn po tape taped rules sign clause clauses said force x absent rain' was undone images iforce ix made := by
  have h0 := h
  obtain ⟨h1, h2, h3, R, hR, h5, h6, h7⟩ := h
  subst h2; subst h3
  have h5' := h5
  obtain ⟨_, x2, ⟨X, hX, eX⟩, _, hw⟩ := h5'
  rw [eX] at x2
  rcases hw with ⟨w1, w0, _⟩ | ⟨w1, w0, N, B, L, rg, pl, ho⟩
  · rw [rains_shut (show g3.1 = 0 by rw [w1, li0])]
    unfold m_rains
    rw [isFair_0 w0, bs, ifn0]
    exact ⟨_, g8, g9, pr, z, tp, wd, nn 0, kept, dx, rfl, rfl, h0⟩
  unfold mNextStall_rains m_rains
  rw [isFair_1 w0, bs, ifn1]
  have hr := ho.1
  have hF := ho.2.1
  have hf := hF.1.2.2.2.2.1
  rw [within_ev, in_ev, bs, bs, show (1 : Int32).toInt = 1 from rfl, show (10 : Int32).toInt = 10 from rfl, show (1 : Int64).toInt = 1 from rfl, show (10 : Int64).toInt = 10 from rfl]
  by_cases k0 : ¬ wi a 1 10 = true
  · rw [ifb_f k0, ifb_f k0]
    unfold mNextStall_rains_j44 mNextStall_rains_j45
    rw [if_neg (show ¬ g3.1 = 0 by rw [w1, li0]; decide), if_pos rfl]
    exact ⟨_, g8, g9, pr, z, tp, wd, nn 0, kept, dx, rfl, rfl, h0⟩
  replace k0 := Classical.not_not.1 k0
  rw [ifb_t k0, ifb_t k0]
  obtain ⟨m, lm, um, em⟩ := wi_nn (a := 1) (b := 10) k0
  subst em
  rw [within_ev, in_ev, bs, bs, show (1 : Int32).toInt = 1 from rfl, show (60 : Int32).toInt = 60 from rfl, show (1 : Int64).toInt = 1 from rfl, show (60 : Int64).toInt = 60 from rfl]
  by_cases k1 : ¬ wi b 1 60 = true
  · rw [ifb_f k1, ifb_f k1]
    unfold mNextStall_rains_j44 mNextStall_rains_j45
    rw [if_neg (show ¬ g3.1 = 0 by rw [w1, li0]; decide), if_pos rfl]
    exact ⟨_, g8, g9, pr, z, tp, wd, nn 0, kept, dx, rfl, rfl, h0⟩
  replace k1 := Classical.not_not.1 k1
  rw [ifb_t k1, ifb_t k1]
  obtain ⟨M, lM, uM, eM⟩ := wi_nn (a := 1) (b := 60) k1
  subst eM
  rw [within_ev, in_ev, bs, bs, show (0 : Int32).toInt = 0 from rfl, show (100 : Int32).toInt = 100 from rfl, show (0 : Int64).toInt = 0 from rfl, show (100 : Int64).toInt = 100 from rfl]
  by_cases k2 : ¬ wi c 0 100 = true
  · rw [ifb_f k2, ifb_f k2]
    unfold mNextStall_rains_j44 mNextStall_rains_j45
    rw [if_neg (show ¬ g3.1 = 0 by rw [w1, li0]; decide), if_pos rfl]
    exact ⟨_, g8, g9, pr, z, tp, wd, nn 0, kept, dx, rfl, rfl, h0⟩
  replace k2 := Classical.not_not.1 k2
  rw [ifb_t k2, ifb_t k2]
  obtain ⟨Q, lQ, uQ, eQ⟩ := wi_nn (a := 0) (b := 100) k2
  subst eQ
  rw [within_ev, in_ev, bs, bs, show (0 : Int32).toInt = 0 from rfl, show (1 : Int32).toInt = 1 from rfl, show (0 : Int64).toInt = 0 from rfl, show (1 : Int64).toInt = 1 from rfl]
  by_cases k3 : ¬ wi d 0 1 = true
  · rw [ifb_f k3, ifb_f k3]
    unfold mNextStall_rains_j44 mNextStall_rains_j45
    rw [if_neg (show ¬ g3.1 = 0 by rw [w1, li0]; decide), if_pos rfl]
    exact ⟨_, g8, g9, pr, z, tp, wd, nn 0, kept, dx, rfl, rfl, h0⟩
  replace k3 := Classical.not_not.1 k3
  rw [ifb_t k3, ifb_t k3]
  obtain ⟨j, lj, uj, ej⟩ := wi_nn (a := 0) (b := 1) k3
  subst ej
  unfold mNextStall_rains_j45
  rw [if_neg (show ¬ g3.1 = 0 by rw [w1, li0]; decide), if_neg (show ¬ (1 : Int32) = 0 by decide)]
  obtain ⟨ru, o, f1, f2, f3⟩ := force_ev hR h5
  obtain ⟨kp, k1, k2⟩ := keeps_ev said kept
  obtain ⟨z', tp', wd', X', p1⟩ := rains_l78_ev (z_x := x) f1 hr hf (show M < 1000 by omega) (show Q < 1000 by omega) (show m < 1000 by omega) k2 (nn j) m 0 FU X (nn 0, nn 0) z tp wd (by omega) (by unfold FU; omega) hX
  dsimp only at p1
  rw [ltp, k1, bs, li0, show x.toInt64 = ll X by rw [eX, nn_ll hX], p1, f2, bs]
  rcases f3 with ⟨e1, e2⟩ | ⟨t, r, len, ht, e1, e2, e3⟩
  · subst e1; subst e2
    obtain ⟨t', g1', q1, q2⟩ := c_raOn (g4 := g3) hr hF (show M < 1000 by omega) (show Q < 1000 by omega) (show m < 1000 by omega) m 0 FU X (upd (upd (upd g8.1 0 (nn 0)) 1 (nn 0)) 2 (nn 0), g8.2) g9 (by omega) (by unfold FU; omega) hX
    dsimp only at q2
    rw [fd0, fd1] at q2
    have cl : mTrials_findRainsrn (nn m) (nn M) (nn Q) g8 g9 g3 g5 = some (t', g1') := by
      unfold mTrials_findRainsrn
      rw [ltp, x2, nn_ll hX, find_ev, bs, li0]
      exact q1
    rw [mtn, cl, bs, rq_inb (show j < 3 by omega) (by omega), nn_tn (by omega)]
    dsimp only
    rw [two_ev (f := t'.1) (p := raO none N B rg pl Q M said m X (nn 0, nn 0)) uj (congrArg Prod.fst q2) (congrArg Prod.snd q2)]
    exact ⟨_, _, _, pr, z', tp', wd', nn 0, kp, X', rfl, rfl, h0⟩
  · subst e1; subst e2
    obtain ⟨t', g1', q', q1, q2, q4⟩ := c_raOr (g4 := g3) e3 hr hF (show M < 1000 by omega) (show Q < 1000 by omega) (show m < 1000 by omega) m 0 FU X (upd (upd (upd g8.1 0 (nn 0)) 1 (nn 0)) 2 (nn 0), g8.2) g9 (pr t) (by omega) (by unfold FU; omega) hX (rqE.refl _)
    dsimp only at q2
    rw [fd0, fd1] at q2
    have cl : mTrials_findRainsrr (nn m) (nn M) (nn Q) g8 g9 g3 g5 (pr t) = some (t', g1', q') := by
      unfold mTrials_findRainsrr
      rw [ltp, x2, nn_ll hX, find_ev, bs, li0]
      exact q1
    rw [mts, rq_dec (show t < 6 by omega), cl, bs, rq_inb (show j < 3 by omega) (by omega), nn_tn (by omega)]
    dsimp only
    rw [two_ev (f := t'.1) (p := raO (some r) N B rg pl Q M said m X (nn 0, nn 0)) uj (congrArg Prod.fst q2) (congrArg Prod.snd q2)]
    exact ⟨_, _, _, _, z', tp', wd', nn 0, kp, X', rfl, rfl, INV_up h0 q4⟩
end asks
