/-! asks -/
section asks
variable {g0 : tyNextStall} {g1 : tyTape} {g3 : tyWorld} {g4 g5 : tyFair} {g6 : tyNotes} {g7 : tyPast} {pr : Nat → tyRule} {pf : Nat → tyFair} {pw : Nat → tyWorld} {pt pn : Nat → tyFair} {po : Nat → tyNotes}
  {tape : Nat → Int32} {taped rules : Int32} {sign clause clauses said : Nat → Int32} {force x absent rain : Int32} {was : Nat → Int32} {undone : Int32} {images iforce ix made : Nat → Int32}
theorem if_and_l {α : Type} {p q : Prop} [Decidable p] [Decidable q] {x y : α} (h : p) : (if p ∧ q then x else y) = (if q then x else y) := by
  by_cases e : q
  · rw [if_pos ⟨h, e⟩, if_pos e]
  · rw [if_neg (fun h2 => e h2.2), if_neg e]
theorem T_rings (h : INV g0 g1 g3 g4 g5 g6 g7 pr pf pw pt pn po tape taped rules sign clause clauses said force x absent rain was undone images iforce ix made) (a : Int32) (g9 : tyFair) (g10 : tyOrder) (g11 : tyOrder) (z : Nat → Int64) (tp : Int32) (wd : Nat → Int64) (kept : Nat → Int32) (od : Nat → Int32) (bo : Nat → Int32) (tt : Nat → Int32) : ∃ v g9' g10' g11' pr' z' tp' wd' rain' kept' od' bo' tt', mNextStall_rings a g0 g3 g4 g6 g9 g10 g11 pr = some (v, g9', g10', g11', pr') ∧ m_rings a sign clause clauses z tp wd said force absent rain kept od bo tt = some (v, z', tp', wd', said, rain', kept', od', bo', tt') ∧ INV g0 g1 g3 g4 g5 g6 g7 pr' pf pw pt pn po tape taped rules sign clause clauses said force x absent rain' was undone images iforce ix made := by
  have h0 := h
  obtain ⟨h1, h2, h3, R, hR, h5, h6, h7⟩ := h
  subst h2; subst h3
  have h5' := h5
  obtain ⟨_, _, _, _, hw⟩ := h5'
  unfold mNextStall_rings m_rings
  rcases hw with ⟨w1, w0, _⟩ | ⟨w1, w0, N, B, L, rg, pl, ho⟩
  · rw [isFair_0 w0, bs, ifn0, if_pos (show g3.1 = 0 by rw [w1, li0])]
    exact ⟨_, g9, g10, g11, pr, z, tp, wd, nn 0, kept, od, bo, tt, rfl, rfl, h0⟩
  rw [isFair_1 w0, bs, ifn1, if_neg (show ¬ g3.1 = 0 by rw [w1, li0]; decide)]
  have hr := ho.1
  have hF := ho.2.1
  have hf := hF.1.2.2.2.2.1
  have hN := hf.1
  have hB := hf.2.1
  rw [pl_ev, in_ev, bs, bs, show (-1 : Int64).toInt = -1 from rfl, show (5 : Int64).toInt = 5 from rfl]
  by_cases e2 : ¬ wi a (-1) 5 = true
  · rw [ifb_f e2, ifb_f e2]
    exact ⟨_, g9, g10, g11, pr, z, tp, wd, nn 0, kept, od, bo, tt, rfl, rfl, h0⟩
  replace e2 := Classical.not_not.1 e2
  rw [ifb_t e2, ifb_t e2]
  obtain ⟨ru, o, f1, f2, f3⟩ := force_ev hR h5
  obtain ⟨kp, k1, k2⟩ := keeps_ev said kept
  obtain ⟨n, nr, nc, hn, hnt⟩ := ho.2.2.2.2.2.2
  have hFt := ho.2.2.2.2.1
  have hst4 : g4.2.2.1 = nn N := by rw [hFt.1.1.2.1, hFt.1.2.2.2.2.1.2.2.2.2.1]
  obtain ⟨w1', b1, b2⟩ := m_begin_ev hN od
  obtain ⟨w3, d1, d2⟩ := c_begin_ev hN g10.1 g10.2
  obtain ⟨w5, d3, d4⟩ := c_begin_ev (N := 0) (by omega) g11.1 g11.2
  obtain ⟨z', tp', wd', w4, wb', tt', p1, p2⟩ := rings_l36_ev f1 hf hn k2 a 120 FU (fun k => k) 0 (fun _ => 0) z tp wd said w1' bo tt (by unfold FU; omega) (by omega) (oL_start hN) b2 (fun _ _ => rfl) (fun h => by omega)
  rw [k1, bs, b1, bs, li0, li1, p1, f2, bs]
  rcases f3 with ⟨e1, e2⟩ | ⟨t, r, len, ht, e1, e2, e3⟩
  · subst e1; subst e2
    obtain ⟨g1', g2', g3', q1, q2⟩ := c_ringsn hnt hFt 120 0 FU (fun k => k) 0 (fun _ => 0) g9 (w3, nn N) (w5, nn 0) (by omega) (by unfold FU; omega) (by omega) (oL_start hN) d2 rfl (Or.inl ⟨rfl, rfl⟩)
    have cl : mTrials_findRingsrn g9 g10 g11 g4 g6 = some (nn (rnS N (rgB none N B said nr n) 120 (fun k => k) 0 (fun _ => 0)).1, g1', g2', g3') := by
      unfold mTrials_findRingsrn
      rw [li0, d3, bs, hst4, d1, bs, li1]
      exact q1
    rw [mtn, cl, bs]
    by_cases eb : a = -nn 1
    · rw [if_pos eb, if_pos eb]
      exact ⟨_, _, _, _, pr, z', tp', wd', nn 0, kp, w4, wb', tt', rfl, rfl, h0⟩
    · rw [if_neg eb, if_neg eb]
      dsimp only
      rcases q2 with ⟨c0, c1⟩ | ⟨c0, c1, c2⟩
      · rw [who_ev (N := 0) (o := fun k => k) (by omega) c1, bs, if_neg (show ¬ wi a 0 (((0 : Nat) : Int) - 1) = true by rw [wi_iff]; omega), if_neg (fun h => by have := h.1; omega)]
        exact ⟨_, _, _, _, pr, z', tp', wd', nn 0, kp, w4, wb', tt', rfl, rfl, h0⟩
      · rw [who_ev (o := fun k => k) hN c2, bs, ring_ans hN (fun k hk => (c1 k hk).1) (p2 c0), if_and_l c0]
        exact ⟨_, _, _, _, pr, z', tp', wd', nn 0, kp, w4, wb', tt', rfl, rfl, h0⟩
  · subst e1; subst e2
    obtain ⟨g1', g2', g3', q', q1, q2, q4⟩ := c_ringsr e3 hnt hFt 120 0 FU (fun k => k) 0 (fun _ => 0) g9 (w3, nn N) (w5, nn 0) (pr t) (by omega) (by unfold FU; omega) (by omega) (oL_start hN) d2 rfl (Or.inl ⟨rfl, rfl⟩) (rqE.refl _)
    have cl : mTrials_findRingsrr g9 g10 g11 g4 g6 (pr t) = some (nn (rnS N (rgB (some r) N B said nr n) 120 (fun k => k) 0 (fun _ => 0)).1, g1', g2', g3', q') := by
      unfold mTrials_findRingsrr
      rw [li0, d3, bs, hst4, d1, bs, li1]
      exact q1
    rw [mts, rq_dec (show t < 6 by omega), cl, bs]
    by_cases eb : a = -nn 1
    · rw [if_pos eb, if_pos eb]
      exact ⟨_, _, _, _, _, z', tp', wd', nn 0, kp, w4, wb', tt', rfl, rfl, INV_up h0 q4⟩
    · rw [if_neg eb, if_neg eb]
      dsimp only
      rcases q2 with ⟨c0, c1⟩ | ⟨c0, c1, c2⟩
      · rw [who_ev (N := 0) (o := fun k => k) (by omega) c1, bs, if_neg (show ¬ wi a 0 (((0 : Nat) : Int) - 1) = true by rw [wi_iff]; omega), if_neg (fun h => by have := h.1; omega)]
        exact ⟨_, _, _, _, _, z', tp', wd', nn 0, kp, w4, wb', tt', rfl, rfl, INV_up h0 q4⟩
      · rw [who_ev (o := fun k => k) hN c2, bs, ring_ans hN (fun k hk => (c1 k hk).1) (p2 c0), if_and_l c0]
        exact ⟨_, _, _, _, _, z', tp', wd', nn 0, kp, w4, wb', tt', rfl, rfl, INV_up h0 q4⟩
end asks
