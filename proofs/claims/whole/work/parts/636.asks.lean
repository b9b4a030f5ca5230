/-! asks -/
section asks
variable {g0 : tyNextStall} {g1 : tyTape} {g3 : tyWorld} {g4 g5 : tyFair} {g6 : tyNotes} {g7 : tyPast} {pr : Nat → tyRule} {pf : Nat → tyFair} {pw : Nat → tyWorld} {pt pn : Nat → tyFair} {po : Nat → tyNotes}
  {tape : Nat → Int32} {taped rules : Int32} {sign clause clauses said : Nat → Int32} {force x absent rain : Int32} {was : Nat → Int32} {undone : Int32} {images iforce ix made : Nat → Int32}
theorem rsA_ev {f : Nat → Int32} {j : Nat} {p : Nat → Bool} (hj : j ≤ 2) (h : (f 0, f 1, f 2) = rsS p 25 0 (nn 0, -nn 2, -nn 2)) : f j = rsA (nn j) (cntS p 25 0) (frsS p 25 0) := by
  rw [rsS_val 25 0 0 _ (by omega), if_pos rfl, Nat.zero_add] at h
  rw [of3_ev hj h]
  unfold of3 rsA
  by_cases e : nn j = nn 0
  · rw [if_pos e, if_pos e]
  · rw [if_neg e, if_neg e]
    cases frsS p 25 0 with
    | none =>
      dsimp only
      by_cases e1 : nn j = nn 1
      · rw [if_pos e1]
      · rw [if_neg e1]
    | some c => rfl
theorem T_rests (h : INV g0 g1 g3 g4 g5 g6 g7 pr pf pw pt pn po tape taped rules sign clause clauses said force x absent rain was undone images iforce ix made) (a b c d : Int32) (g8 : tyTrials) (g9 : tyFair) (z : Nat → Int64) (tp : Int32) (wd : Nat → Int64) (kept : Nat → Int32) (hb : Nat → Int32) : ∃ v g8' g9' pr' z' tp' wd' rain' kept' hb', mNextStall_rests a b c d g0 g3 g5 g8 g9 pr = some (v, g8', g9', pr') ∧ m_rests a b c d sign clause clauses z tp wd said force absent rain kept hb = some (v, z', tp', wd', said, rain', kept', hb') ∧ INV g0 g1 g3 g4 g5 g6 g7 pr' pf pw pt pn po tape taped rules sign clause clauses said force x absent rain' was undone images iforce ix made := by
  have h0 := h
  obtain ⟨h1, h2, h3, R, hR, h5, h6, h7⟩ := h
  subst h2; subst h3
  obtain ⟨N, B, hN, hB, s3, c3, s4, c4, hop⟩ := wd_st h5
  unfold mNextStall_rests m_rests
  rcases areTwo_ev a b (by omega) s3 c3 with ⟨e1, e2⟩ | ⟨i1, i2, hi1, hi2, hij, ea, eb, e1, e2⟩
  · rw [e1, e2, bs, bs, ifn0, ifn0]
    exact ⟨_, g8, g9, pr, z, tp, wd, nn 0, kept, hb, rfl, rfl, h0⟩
  subst ea; subst eb
  rw [e1, e2, bs, bs, ifn1, ifn1]
  obtain ⟨L, rg, pl, ho⟩ := hop (Or.inl (by omega))
  have hr := ho.1
  have hF := ho.2.1
  have hf := hF.1.2.2.2.2.1
  rw [within_ev, in_ev, bs, bs, show (1 : Int32).toInt = 1 from rfl, show (20 : Int32).toInt = 20 from rfl, show (1 : Int64).toInt = 1 from rfl, show (20 : Int64).toInt = 20 from rfl]
  by_cases e2 : ¬ wi c 1 20 = true
  · rw [ifb_f e2, ifb_f e2]
    exact ⟨_, g8, g9, pr, z, tp, wd, nn 0, kept, hb, rfl, rfl, h0⟩
  replace e2 := Classical.not_not.1 e2
  rw [ifb_t e2, ifb_t e2]
  obtain ⟨M, lM, uM, eM⟩ := wi_nn (a := 1) (b := 20) e2
  subst eM
  rw [within_ev, in_ev, bs, bs, show (0 : Int32).toInt = 0 from rfl, show (2 : Int32).toInt = 2 from rfl, show (0 : Int64).toInt = 0 from rfl, show (2 : Int64).toInt = 2 from rfl]
  by_cases e3 : ¬ wi d 0 2 = true
  · rw [ifb_f e3, ifb_f e3]
    exact ⟨_, g8, g9, pr, z, tp, wd, nn 0, kept, hb, rfl, rfl, h0⟩
  replace e3 := Classical.not_not.1 e3
  rw [ifb_t e3, ifb_t e3]
  obtain ⟨j, lj, uj, ej⟩ := wi_nn (a := 0) (b := 2) e3
  subst ej
  obtain ⟨ru, o, f1, f2, f3⟩ := force_ev hR h5
  obtain ⟨kp, k1, k2⟩ := keeps_ev said kept
  obtain ⟨z', tp', wd', hb', p1⟩ := rests_l43_ev f1 hr hf (show M < 4000 by omega) k2 hi1 hi2 (nn j) 25 0 FU hb z tp wd (by omega) (by unfold FU; omega) (fun c h => by omega)
  rw [k1, bs, li0, p1, f2, bs]
  rcases f3 with ⟨e1, e2⟩ | ⟨t, r, len, ht, e1, e2, e3⟩
  · subst e1; subst e2
    obtain ⟨t', g1', q1, q2⟩ := c_rsn hr hF (show M < 4000 by omega) hi1 hi2 25 0 FU g8 g9 (by omega) (by unfold FU; omega) (fun c h => by omega) (fun c h => by omega)
    have cl : mTrials_findRestsrn (nn i1) (nn i2) (nn M) g8 g9 g5 = some (t', g1') := by
      unfold mTrials_findRestsrn
      rw [li0]
      exact q1
    rw [mtn, cl, bs, rq_inb (show j < 3 by omega) (by omega), nn_tn (by omega), rsA_ev uj q2]
    exact ⟨_, _, _, pr, z', tp', wd', nn 0, kp, hb', rfl, rfl, h0⟩
  · subst e1; subst e2
    obtain ⟨t', g1', q', q1, q2, q4⟩ := c_rsr e3 hr hF (show M < 4000 by omega) hi1 hi2 25 0 FU g8 g9 (pr t) (by omega) (by unfold FU; omega) (fun c h => by omega) (fun c h => by omega) (rqE.refl _)
    have cl : mTrials_findRestsrr (nn i1) (nn i2) (nn M) g8 g9 g5 (pr t) = some (t', g1', q') := by
      unfold mTrials_findRestsrr
      rw [li0]
      exact q1
    rw [mts, rq_dec (show t < 6 by omega), cl, bs, rq_inb (show j < 3 by omega) (by omega), nn_tn (by omega), rsA_ev uj q2]
    exact ⟨_, _, _, _, z', tp', wd', nn 0, kp, hb', rfl, rfl, INV_up h0 q4⟩
end asks
