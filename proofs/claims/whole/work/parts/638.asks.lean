/-! asks -/
section asks
variable {g0 : tyNextStall} {g1 : tyTape} {g3 : tyWorld} {g4 g5 : tyFair} {g6 : tyNotes} {g7 : tyPast} {pr : Nat → tyRule} {pf : Nat → tyFair} {pw : Nat → tyWorld} {pt pn : Nat → tyFair} {po : Nat → tyNotes}
  {tape : Nat → Int32} {taped rules : Int32} {sign clause clauses said : Nat → Int32} {force x absent rain : Int32} {was : Nat → Int32} {undone : Int32} {images iforce ix made : Nat → Int32}
theorem ring_ans {N : Nat} {f : Nat → Nat} {w w' : Nat → Int32} {x : Int32} (hN : N ≤ 6) (h : ∀ k, k < N → w k = nn (f k)) (h' : ∀ k, k < N → w' k = nn (f k)) : (if wi x 0 ((N : Int) - 1) = true then w x.toNatClampNeg else -nn 2) = (if wi x 0 ((N : Int) - 1) = true then w' x.toNatClampNeg else -nn 2) := by
  by_cases e : wi x 0 ((N : Int) - 1) = true
  · rw [if_pos e, if_pos e]
    obtain ⟨k, hk, ek⟩ := wi_st e
    subst ek
    rw [nn_tn (by omega), h k hk, h' k hk]
  · rw [if_neg e, if_neg e]
theorem T_bestRing (h : INV g0 g1 g3 g4 g5 g6 g7 pr pf pw pt pn po tape taped rules sign clause clauses said force x absent rain was undone images iforce ix made) (a b : Int32) (g9 : tyFair) (g10 : tyOrder) (g11 : tyOrder) (z : Nat → Int64) (tp : Int32) (wd : Nat → Int64) (kept : Nat → Int32) (od : Nat → Int32) (bo : Nat → Int32) : ∃ v g9' g10' g11' pr' z' tp' wd' rain' kept' od' bo', mNextStall_bestRing a b g0 g3 g5 g9 g10 g11 pr = some (v, g9', g10', g11', pr') ∧ m_bestRing a b sign clause clauses z tp wd said force absent rain kept od bo = some (v, z', tp', wd', said, rain', kept', od', bo') ∧ INV g0 g1 g3 g4 g5 g6 g7 pr' pf pw pt pn po tape taped rules sign clause clauses said force x absent rain' was undone images iforce ix made := by
  have h0 := h
  obtain ⟨h1, h2, h3, R, hR, h5, h6, h7⟩ := h
  subst h2; subst h3
  have h5' := h5
  obtain ⟨_, _, _, _, hw⟩ := h5'
  unfold mNextStall_bestRing m_bestRing
  rcases hw with ⟨w1, w0, _⟩ | ⟨w1, w0, N, B, L, rg, pl, ho⟩
  · rw [isFair_0 w0, bs, ifn0, if_pos (show g3.1 = 0 by rw [w1, li0])]
    exact ⟨_, g9, g10, g11, pr, z, tp, wd, nn 0, kept, od, bo, rfl, rfl, h0⟩
  rw [isFair_1 w0, bs, ifn1, if_neg (show ¬ g3.1 = 0 by rw [w1, li0]; decide)]
  have hr := ho.1
  have hF := ho.2.1
  have hf := hF.1.2.2.2.2.1
  have hN := hf.1
  have hB := hf.2.1
  rw [within_ev, in_ev, bs, bs, show (1 : Int32).toInt = 1 from rfl, show (40 : Int32).toInt = 40 from rfl, show (1 : Int64).toInt = 1 from rfl, show (40 : Int64).toInt = 40 from rfl]
  by_cases e2 : ¬ wi a 1 40 = true
  · rw [ifb_f e2, ifb_f e2]
    exact ⟨_, g9, g10, g11, pr, z, tp, wd, nn 0, kept, od, bo, rfl, rfl, h0⟩
  replace e2 := Classical.not_not.1 e2
  rw [ifb_t e2, ifb_t e2]
  obtain ⟨M, lM, uM, eM⟩ := wi_nn (a := 1) (b := 40) e2
  subst eM
  rw [pl_ev, in_ev, bs, bs, show (-1 : Int64).toInt = -1 from rfl, show (5 : Int64).toInt = 5 from rfl]
  by_cases e3 : ¬ wi b (-1) 5 = true
  · rw [ifb_f e3, ifb_f e3]
    exact ⟨_, g9, g10, g11, pr, z, tp, wd, nn 0, kept, od, bo, rfl, rfl, h0⟩
  replace e3 := Classical.not_not.1 e3
  rw [ifb_t e3, ifb_t e3]
  obtain ⟨ru, o, f1, f2, f3⟩ := force_ev hR h5
  obtain ⟨kp, k1, k2⟩ := keeps_ev said kept
  have hst : g5.2.2.1 = nn N := by rw [hF.1.1.2.1, hf.2.2.2.2.1]
  obtain ⟨w1', b1, b2⟩ := m_begin_ev hN od
  obtain ⟨w3, d1, d2⟩ := c_begin_ev hN g10.1 g10.2
  obtain ⟨z', tp', wd', w4, wb', p1, p2⟩ := bestRing_l49_ev f1 hf hF.1.2.2.2.2.2.2 (show M < 4000 by omega) k2 b 120 FU (fun k => k) (-nn 1) (fun _ => 0) z tp wd w1' bo (by unfold FU; omega) (oL_start hN) b2 (Or.inl rfl)
  rw [k1, bs, b1, bs, li1, p1, f2, bs]
  rcases f3 with ⟨e1, e2⟩ | ⟨t, r, len, ht, e1, e2, e3⟩
  · subst e1; subst e2
    obtain ⟨g1', g2', g3', q1, q2, q3⟩ := c_brn hF (show M < 4000 by omega) 120 0 FU (fun k => k) (-nn 1) (fun _ => 0) g9 (w3, nn N) g11 (by omega) (by unfold FU; omega) (oL_start hN) d2 rfl (Or.inl rfl)
    have cl : mTrials_findBestRingrn (nn M) g9 g10 g11 g5 = some ((boS N (brF none N B M said) 120 (fun k => k) (-nn 1) (fun _ => 0)).1, g1', g2', g3') := by
      unfold mTrials_findBestRingrn
      rw [hst, d1, bs, li0, li1]
      exact q1
    rw [mtn, cl, bs]
    by_cases eb : b = -nn 1
    · rw [if_pos eb, if_pos eb]
      exact ⟨_, _, _, _, pr, z', tp', wd', nn 0, kp, w4, wb', rfl, rfl, h0⟩
    · rw [if_neg eb, if_neg eb]
      dsimp only
      rw [who_ev (o := fun k => k) hN q3, bs, ring_ans hN (fun k hk => (q2 k hk).1) p2]
      exact ⟨_, _, _, _, pr, z', tp', wd', nn 0, kp, w4, wb', rfl, rfl, h0⟩
  · subst e1; subst e2
    obtain ⟨g1', g2', g3', q', q1, q2, q3, q4⟩ := c_brr e3 hF (show M < 4000 by omega) 120 0 FU (fun k => k) (-nn 1) (fun _ => 0) g9 (w3, nn N) g11 (pr t) (by omega) (by unfold FU; omega) (oL_start hN) d2 rfl (Or.inl rfl) (rqE.refl _)
    have cl : mTrials_findBestRingrr (nn M) g9 g10 g11 g5 (pr t) = some ((boS N (brF (some r) N B M said) 120 (fun k => k) (-nn 1) (fun _ => 0)).1, g1', g2', g3', q') := by
      unfold mTrials_findBestRingrr
      rw [hst, d1, bs, li0, li1]
      exact q1
    rw [mts, rq_dec (show t < 6 by omega), cl, bs]
    by_cases eb : b = -nn 1
    · rw [if_pos eb, if_pos eb]
      exact ⟨_, _, _, _, _, z', tp', wd', nn 0, kp, w4, wb', rfl, rfl, INV_up h0 q4⟩
    · rw [if_neg eb, if_neg eb]
      dsimp only
      rw [who_ev (o := fun k => k) hN q3, bs, ring_ans hN (fun k hk => (q2 k hk).1) p2]
      exact ⟨_, _, _, _, _, z', tp', wd', nn 0, kp, w4, wb', rfl, rfl, INV_up h0 q4⟩
theorem T_quietRing (h : INV g0 g1 g3 g4 g5 g6 g7 pr pf pw pt pn po tape taped rules sign clause clauses said force x absent rain was undone images iforce ix made) (a : Int32) (g9 : tyFair) (g10 : tyOrder) (g11 : tyOrder) (od : Nat → Int32) (bo : Nat → Int32) : ∃ v g9' g10' g11' od' bo', mNextStall_quietRing a g3 g5 g9 g10 g11 = some (v, g9', g10', g11') ∧ m_quietRing a said od bo = some (v, od', bo') ∧ INV g0 g1 g3 g4 g5 g6 g7 pr pf pw pt pn po tape taped rules sign clause clauses said force x absent rain was undone images iforce ix made := by
  have h0 := h
  obtain ⟨h1, h2, h3, R, hR, h5, h6, h7⟩ := h
  subst h2; subst h3
  have h5' := h5
  obtain ⟨_, _, _, _, hw⟩ := h5'
  unfold mNextStall_quietRing m_quietRing
  rcases hw with ⟨w1, w0, _⟩ | ⟨w1, w0, N, B, L, rg, pl, ho⟩
  · rw [isFair_0 w0, bs, ifn0, if_pos (show g3.1 = 0 by rw [w1, li0])]
    exact ⟨_, g9, g10, g11, od, bo, rfl, rfl, h0⟩
  rw [isFair_1 w0, bs, ifn1, if_neg (show ¬ g3.1 = 0 by rw [w1, li0]; decide)]
  have hr := ho.1
  have hF := ho.2.1
  have hf := hF.1.2.2.2.2.1
  have hN := hf.1
  have hB := hf.2.1
  rw [pl_ev, in_ev, bs, bs, show (-1 : Int64).toInt = -1 from rfl, show (5 : Int64).toInt = 5 from rfl]
  by_cases e2 : ¬ wi a (-1) 5 = true
  · rw [ifb_f e2, ifb_f e2]
    exact ⟨_, g9, g10, g11, od, bo, rfl, rfl, h0⟩
  replace e2 := Classical.not_not.1 e2
  rw [ifb_t e2, ifb_t e2]
  have hst : g5.2.2.1 = nn N := by rw [hF.1.1.2.1, hf.2.2.2.2.1]
  obtain ⟨w1', b1, b2⟩ := m_begin_ev hN od
  obtain ⟨w3, d1, d2⟩ := c_begin_ev hN g10.1 g10.2
  obtain ⟨q, hq, eq⟩ := from_ev g9 g5
  have hQ := fR_gEq hF eq
  obtain ⟨w4, wb', p1, p2⟩ := quiet_l32_ev hN hf.2.2.2.2.1 a 120 FU (fun k => k) (-nn 1) 7 (fun _ => 0) w1' bo (by unfold FU; omega) (oL_start hN) b2 (Or.inl ⟨rfl, rfl⟩)
  obtain ⟨g1', g2', g3', q1, q2, q3⟩ := c_quiet hF 120 0 FU (fun k => k) 7 (fun _ => 0) rg pl said q (w3, nn N) g11 (by omega) (by unfold FU; omega) (oL_start hN) d2 rfl (Or.inl rfl) hQ (fun _ _ => rfl)
  have cl : mTrials_findQuietRing g9 g10 g11 g5 = some (nn (qoS N said 120 (fun k => k) 7 (fun _ => 0)).1, g1', g2', g3') := by
    unfold mTrials_findQuietRing
    rw [hq, bs, hst, d1, bs, li0, li1, li7]
    exact q1
  rw [b1, bs, cl, bs, li1, p1]
  by_cases eb : a = -nn 1
  · rw [if_pos eb, if_pos eb]
    exact ⟨_, _, _, _, w4, wb', rfl, rfl, h0⟩
  · rw [if_neg eb, if_neg eb]
    dsimp only
    rw [who_ev (o := fun k => k) hN q3, bs, ring_ans hN (fun k hk => (q2 k hk).1) p2]
    exact ⟨_, _, _, _, w4, wb', rfl, rfl, h0⟩
end asks
