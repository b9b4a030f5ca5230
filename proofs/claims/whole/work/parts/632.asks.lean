/-! asks -/
section asks
variable {g0 : tyNextStall} {g1 : tyTape} {g3 : tyWorld} {g4 g5 : tyFair} {g6 : tyNotes} {g7 : tyPast} {pr : Nat → tyRule} {pf : Nat → tyFair} {pw : Nat → tyWorld} {pt pn : Nat → tyFair} {po : Nat → tyNotes}
  {tape : Nat → Int32} {taped rules : Int32} {sign clause clauses said : Nat → Int32} {force x absent rain : Int32} {was : Nat → Int32} {undone : Int32} {images iforce ix made : Nat → Int32}
theorem T_away (h : INV g0 g1 g3 g4 g5 g6 g7 pr pf pw pt pn po tape taped rules sign clause clauses said force x absent rain was undone images iforce ix made) (a b : Int32) (g8 : tyTrials) (g9 : tyFair) (z : Nat → Int64) (tp : Int32) (wd : Nat → Int64) (kept : Nat → Int32) : ∃ v g8' g9' pr' z' tp' wd' absent' rain' kept', mNextStall_away a b g0 g3 g5 g8 g9 pr = some (v, g8', g9', pr') ∧ m_away a b sign clause clauses z tp wd said force absent rain kept = some (v, z', tp', wd', said, absent', rain', kept') ∧ INV g0 g1 g3 g4 g5 g6 g7 pr' pf pw pt pn po tape taped rules sign clause clauses said force x absent' rain' was undone images iforce ix made := by
  have h0 := h
  obtain ⟨h1, h2, h3, R, hR, h5, h6, h7⟩ := h
  subst h2; subst h3
  have h5' := h5
  obtain ⟨_, _, _, _, hw⟩ := h5'
  unfold mNextStall_away m_away
  rcases hw with ⟨w1, w0, _⟩ | ⟨w1, w0, N, B, L, rg, pl, ho⟩
  · rw [isFair_0 w0, bs, ifn0, if_pos (show g3.1 = 0 by rw [w1, li0])]
    exact ⟨_, g8, g9, pr, z, tp, wd, (-nn 1), nn 0, kept, rfl, rfl, h0⟩
  rw [isFair_1 w0, bs, ifn1, if_neg (show ¬ g3.1 = 0 by rw [w1, li0]; decide)]
  have hr := ho.1
  have hF := ho.2.1
  have hf := hF.1.2.2.2.2.1
  have hN := hf.1
  have hB := hf.2.1
  rw [within_ev, in_ev, bs, bs, show (1 : Int32).toInt = 1 from rfl, show (40 : Int32).toInt = 40 from rfl, show (1 : Int64).toInt = 1 from rfl, show (40 : Int64).toInt = 40 from rfl]
  by_cases e2 : ¬ wi a 1 40 = true
  · rw [ifb_f e2, ifb_f e2]
    exact ⟨_, g8, g9, pr, z, tp, wd, (-nn 1), nn 0, kept, rfl, rfl, h0⟩
  replace e2 := Classical.not_not.1 e2
  rw [ifb_t e2, ifb_t e2]
  obtain ⟨M, lM, uM, eM⟩ := wi_nn (a := 1) (b := 40) e2
  subst eM
  rw [within_ev, in_ev, bs, bs, show (0 : Int32).toInt = 0 from rfl, show (1 : Int32).toInt = 1 from rfl, show (0 : Int64).toInt = 0 from rfl, show (1 : Int64).toInt = 1 from rfl]
  by_cases e3 : ¬ wi b 0 1 = true
  · rw [ifb_f e3, ifb_f e3]
    exact ⟨_, g8, g9, pr, z, tp, wd, (-nn 1), nn 0, kept, rfl, rfl, h0⟩
  replace e3 := Classical.not_not.1 e3
  rw [ifb_t e3, ifb_t e3]
  obtain ⟨j, lj, uj, ej⟩ := wi_nn (a := 0) (b := 1) e3
  subst ej
  obtain ⟨ru, o, f1, f2, f3⟩ := force_ev hR h5
  obtain ⟨kp, k1, k2⟩ := keeps_ev said kept
  obtain ⟨z1, tp1, wd1, p0⟩ := takenIn_ev (ac := acA) (absent := -nn 1) f1 acR_all hr hf (show M < 4000 by omega) (fun _ _ => rfl) k2 z tp wd
  obtain ⟨z', tp', wd', p1⟩ := away_l48_ev f1 hr hf (show M < 4000 by omega) k2 (nn j) B 0 FU (-nn 1) (minsS ru N rg pl acA B M said (nn 0)).2 (-nn 1) z1 tp1 wd1 (by omega) (by unfold FU; omega)
  rw [k1, bs, p0, bs]
  dsimp only
  rw [li0, li1, p1, f2, bs]
  rcases f3 with ⟨e1, e2⟩ | ⟨t, r, len, ht, e1, e2, e3⟩
  · subst e1; subst e2
    obtain ⟨q, hq, eq⟩ := from_ev g9 g5
    have hQ := fR_gEq hF eq
    obtain ⟨m', go, ti, we, so, pu, ha, gq, hG⟩ := gon_g acR_all hr (show M < 4000 by omega) hQ
    obtain ⟨t', g1', q1, q2, q3⟩ := c_awn hr hF (show M < 4000 by omega) B 0 FU (upd (upd (upd g8.1 0 (-nn 1)) 1 (minsS none N rg pl acA B M said (nn 0)).2) 2 (nn 0), g8.2) (gUp q m' go ti we so pu ha) (by omega) (by unfold FU; omega)
    dsimp only at q2 q3
    rw [fd0, fd1] at q2 q3
    have cl : mTrials_findAwayrn (nn M) g8 g9 g5 = some (t', g1') := by
      unfold mTrials_findAwayrn
      rw [hq, bs, li1, gq, bs, find_ev, bs, li0]
      exact q1
    rw [mtn, cl, bs, rq_inb (show j < 3 by omega) (by omega), nn_tn (by omega), two_ev uj q2 q3]
    exact ⟨_, _, _, pr, z', tp', wd', -nn 1, nn 0, kp, rfl, rfl, h0⟩
  · subst e1; subst e2
    obtain ⟨q, hq, eq⟩ := from_ev g9 g5
    have hQ := fR_gEq hF eq
    obtain ⟨m', go, ti, we, so, pu, ha, wd2, z2, gq, hG⟩ := gor_g e3 acR_all hr (show M < 4000 by omega) hQ _ _
    obtain ⟨t', g1', q', q1, q2, q3, q4⟩ := c_awr e3 hr hF (show M < 4000 by omega) B 0 FU (upd (upd (upd g8.1 0 (-nn 1)) 1 (minsS (some r) N rg pl acA B M said (nn 0)).2) 2 (nn 0), g8.2) (gUp q m' go ti we so pu ha) (qUp (pr t) wd2 z2) (by omega) (by unfold FU; omega) (rqE.refl _).up
    dsimp only at q2 q3
    rw [fd0, fd1] at q2 q3
    have cl : mTrials_findAwayrr (nn M) g8 g9 g5 (pr t) = some (t', g1', q') := by
      unfold mTrials_findAwayrr
      rw [hq, bs, li1, gq, bs, find_ev, bs, li0]
      exact q1
    rw [mts, rq_dec (show t < 6 by omega), cl, bs, rq_inb (show j < 3 by omega) (by omega), nn_tn (by omega), two_ev uj q2 q3]
    exact ⟨_, _, _, _, z', tp', wd', -nn 1, nn 0, kp, rfl, rfl, INV_up h0 q4⟩
theorem T_makeUp (h : INV g0 g1 g3 g4 g5 g6 g7 pr pf pw pt pn po tape taped rules sign clause clauses said force x absent rain was undone images iforce ix made) (a b : Int32) (g8 : tyTrials) (g9 : tyFair) (z : Nat → Int64) (tp : Int32) (wd : Nat → Int64) (kept : Nat → Int32) : ∃ v g8' g9' pr' z' tp' wd' rain' kept', mNextStall_makeUp a b g0 g3 g5 g8 g9 pr = some (v, g8', g9', pr') ∧ m_makeUp a b sign clause clauses z tp wd said force absent rain kept = some (v, z', tp', wd', said, rain', kept') ∧ INV g0 g1 g3 g4 g5 g6 g7 pr' pf pw pt pn po tape taped rules sign clause clauses said force x absent rain' was undone images iforce ix made := by
  have h0 := h
  obtain ⟨h1, h2, h3, R, hR, h5, h6, h7⟩ := h
  subst h2; subst h3
  have h5' := h5
  obtain ⟨_, _, _, _, hw⟩ := h5'
  unfold mNextStall_makeUp m_makeUp
  rcases hw with ⟨w1, w0, _⟩ | ⟨w1, w0, N, B, L, rg, pl, ho⟩
  · rw [isFair_0 w0, bs, ifn0, if_pos (show g3.1 = 0 by rw [w1, li0])]
    exact ⟨_, g8, g9, pr, z, tp, wd, nn 0, kept, rfl, rfl, h0⟩
  rw [isFair_1 w0, bs, ifn1, if_neg (show ¬ g3.1 = 0 by rw [w1, li0]; decide)]
  have hr := ho.1
  have hF := ho.2.1
  have hf := hF.1.2.2.2.2.1
  have hN := hf.1
  have hB := hf.2.1
  rw [within_ev, in_ev, bs, bs, show (1 : Int32).toInt = 1 from rfl, show (40 : Int32).toInt = 40 from rfl, show (1 : Int64).toInt = 1 from rfl, show (40 : Int64).toInt = 40 from rfl]
  by_cases e2 : ¬ wi a 1 40 = true
  · rw [ifb_f e2, ifb_f e2]
    exact ⟨_, g8, g9, pr, z, tp, wd, nn 0, kept, rfl, rfl, h0⟩
  replace e2 := Classical.not_not.1 e2
  rw [ifb_t e2, ifb_t e2]
  obtain ⟨M, lM, uM, eM⟩ := wi_nn (a := 1) (b := 40) e2
  subst eM
  rw [within_ev, in_ev, bs, bs, show (0 : Int32).toInt = 0 from rfl, show (2 : Int32).toInt = 2 from rfl, show (0 : Int64).toInt = 0 from rfl, show (2 : Int64).toInt = 2 from rfl]
  by_cases e3 : ¬ wi b 0 2 = true
  · rw [ifb_f e3, ifb_f e3]
    exact ⟨_, g8, g9, pr, z, tp, wd, nn 0, kept, rfl, rfl, h0⟩
  replace e3 := Classical.not_not.1 e3
  rw [ifb_t e3, ifb_t e3]
  obtain ⟨j, lj, uj, ej⟩ := wi_nn (a := 0) (b := 2) e3
  subst ej
  obtain ⟨ru, o, f1, f2, f3⟩ := force_ev hR h5
  obtain ⟨kp, k1, k2⟩ := keeps_ev said kept
  obtain ⟨z1, tp1, wd1, p0⟩ := takenIn_ev (ac := acA) (absent := -nn 1) f1 acR_all hr hf (show M < 4000 by omega) (fun _ _ => rfl) k2 z tp wd
  obtain ⟨z', tp', wd', p1⟩ := makeUp_l54_ev f1 hr hf (show M < 4000 by omega) k2 (nn j) N 0 FU ((minsS ru N rg pl acA B M said (nn 0)).2, -nn 2, -nn 2) z1 tp1 wd1 (by omega) (by unfold FU; omega)
  dsimp only at p1
  rw [k1, bs, p0, bs]
  dsimp only
  rw [li0, li2, p1, f2, bs]
  rcases f3 with ⟨e1, e2⟩ | ⟨t, r, len, ht, e1, e2, e3⟩
  · subst e1; subst e2
    obtain ⟨q, hq, eq⟩ := from_ev g9 g5
    have hQ := fR_gEq hF eq
    obtain ⟨m', go, ti, we, so, pu, ha, gq, hG⟩ := gon_g acR_all hr (show M < 4000 by omega) hQ
    obtain ⟨t', g1', q1, q2⟩ := c_mkOn hr hF (show M < 4000 by omega) N 0 FU (upd (upd (upd g8.1 0 (minsS none N rg pl acA B M said (nn 0)).2) 1 (-nn 2)) 2 (-nn 2), g8.2) (gUp q m' go ti we so pu ha) (by omega) (by unfold FU; omega)
    dsimp only at q2
    rw [fd0, fd1, fd2] at q2
    have cl : mTrials_findMakeUprn (nn M) g8 g9 g5 = some (t', g1') := by
      unfold mTrials_findMakeUprn
      rw [hq, bs, li1, gq, bs, find_ev, bs, li0, li2]
      exact q1
    rw [mtn, cl, bs, rq_inb (show j < 3 by omega) (by omega), nn_tn (by omega), of3_ev uj q2]
    exact ⟨_, _, _, pr, z', tp', wd', nn 0, kp, rfl, rfl, h0⟩
  · subst e1; subst e2
    obtain ⟨q, hq, eq⟩ := from_ev g9 g5
    have hQ := fR_gEq hF eq
    obtain ⟨m', go, ti, we, so, pu, ha, wd2, z2, gq, hG⟩ := gor_g e3 acR_all hr (show M < 4000 by omega) hQ _ _
    obtain ⟨t', g1', q', q1, q2, q4⟩ := c_mkOr e3 hr hF (show M < 4000 by omega) N 0 FU (upd (upd (upd g8.1 0 (minsS (some r) N rg pl acA B M said (nn 0)).2) 1 (-nn 2)) 2 (-nn 2), g8.2) (gUp q m' go ti we so pu ha) (qUp (pr t) wd2 z2) (by omega) (by unfold FU; omega) (rqE.refl _).up
    dsimp only at q2
    rw [fd0, fd1, fd2] at q2
    have cl : mTrials_findMakeUprr (nn M) g8 g9 g5 (pr t) = some (t', g1', q') := by
      unfold mTrials_findMakeUprr
      rw [hq, bs, li1, gq, bs, find_ev, bs, li0, li2]
      exact q1
    rw [mts, rq_dec (show t < 6 by omega), cl, bs, rq_inb (show j < 3 by omega) (by omega), nn_tn (by omega), of3_ev uj q2]
    exact ⟨_, _, _, _, z', tp', wd', nn 0, kp, rfl, rfl, INV_up h0 q4⟩
end asks
