/-! acts -/
section acts
variable {g0 : tyNextStall} {g1 : tyTape} {g3 : tyWorld} {g4 g5 : tyFair} {g6 : tyNotes} {g7 : tyPast} {pr : Nat → tyRule} {pf : Nat → tyFair} {pw : Nat → tyWorld} {pt pn : Nat → tyFair} {po : Nat → tyNotes}
  {tape : Nat → Int32} {taped rules : Int32} {sign clause clauses said : Nat → Int32} {force x absent rain : Int32} {was : Nat → Int32} {undone : Int32} {images iforce ix made : Nat → Int32}
theorem force_ev {R : Nat} (hR : rlR R g0 pr rules sign clause clauses) (hw : wdR R said force x g3 g4 g5 g6) : ∃ ru o, frR sign clause clauses force ru ∧ mNextStall_ruleInForce g0 g3 = some o ∧ ((ru = none ∧ o = none) ∨ ∃ t r len, t < 6 ∧ ru = some r ∧ o = some t ∧ rcR (pr t).1 (pr t).2.1 (pr t).2.2.1 (pr t).2.2.2.1 (pr t).2.2.2.2.1 (pr t).2.2.2.2.2.1 (pr t).2.2.2.2.2.2.2.1 r len) := by
  obtain ⟨a1, a2, a3, a4⟩ := hR
  obtain ⟨b1, _, _, b4, _⟩ := hw
  have e1 : (-nn 1).toInt = -1 := by decide
  unfold mNextStall_ruleInForce
  rw [within_ev, bs, b1, a2, li1, nn_pred (by omega), show (0 : Int32).toInt = 0 from rfl]
  rcases b4 with b4 | ⟨t, ht, b4⟩
  · subst b4
    rw [ifb_f (by rw [wi_iff, e1]; omega)]
    exact ⟨none, none, rfl, rfl, Or.inl ⟨rfl, rfl⟩⟩
  · subst b4
    obtain ⟨r, len, c1, c2⟩ := a4 t ht
    rw [ifb_t (by rw [wi_iff, nn_toInt (by omega)]; omega), rq_inb (by omega) (by omega), ltp, nn_tn (by omega)]
    exact ⟨some r, some t, ⟨t, len, by omega, rfl, c2⟩, rfl, Or.inr ⟨t, r, len, by omega, rfl, rfl, c1⟩⟩
theorem T_grudge (h : INV g0 g1 g3 g4 g5 g6 g7 pr pf pw pt pn po tape taped rules sign clause clauses said force x absent rain was undone images iforce ix made) (a b : Int32) : ∃ v g5' g7' pf' said' was' undone', mNextStall_grudge a b g5 g7 pf = some (v, g5', g7', pf') ∧ m_grudge a b said was undone = some (v, said', was', undone') ∧ INV g0 g1 g3 g4 g5' g6 g7' pr pf' pw pt pn po tape taped rules sign clause clauses said' force x absent rain was' undone' images iforce ix made := by
  have h0 := h
  obtain ⟨h1, h2, h3, R, hR, h5, h6, h7⟩ := h
  obtain ⟨N, B, hN, hB, s3, c3, s4, c4, hop⟩ := wd_st h5
  unfold mNextStall_grudge m_grudge
  rcases areTwo_ev a b (by omega) s3 c3 with ⟨e1, e2⟩ | ⟨i, j, hi, hj, hij, ea, eb, e1, e2⟩
  · rw [e1, e2, bs, bs, ifn0, ifn0]
    exact ⟨_, g5, g7, pf, said, was, undone, rfl, rfl, h0⟩
  · subst ea; subst eb
    obtain ⟨L, rg, pl, ho⟩ := hop (Or.inl (by omega))
    obtain ⟨w1, w0⟩ := wd_open h5 s3 s4 hN hB (Or.inl (by omega))
    have hr := ho.1
    have hF := ho.2.1
    obtain ⟨was', undone', g7', pf', k1, k2, k3⟩ := keep_ev h6 (op_paS ho)
    obtain ⟨gr, se, pr', bo, m1, m2⟩ := flip_ev hr hF hi hj
    have egr : gr i = said (41 + i) ^^^ bt j := by have := m2.2.2.2 i hi; rw [upd_s] at this; exact this
    have oo : oEq said (upd said (41 + i) (said (41 + i) ^^^ bt j)) := oEq_upd (by omega) (by omega)
    have eb : nn 1 <<< (nn j &&& nn 31) = bt j := rfl
    rw [e1, e2, bs, bs, ifn1, ifn1, k1, k2, bs, bs, m1, bs]
    dsimp only
    rw [cbears_ev (by omega), bs, egr, ltp, li41, nn_add, rq_inb (by omega) (by omega), rq_inb (by omega) (by omega), ltp, nn_tn (by omega), li1, show (31 : Int32) = nn 31 from id rfl, eb, bears_ev (by omega), bs, upd_s]
    have fin : INV g0 g1 g3 g4 ((g5.1, g5.2.1, g5.2.2.1, g5.2.2.2.1, g5.2.2.2.2.1, g5.2.2.2.2.2.1, g5.2.2.2.2.2.2.1, g5.2.2.2.2.2.2.2.1, g5.2.2.2.2.2.2.2.2.1, g5.2.2.2.2.2.2.2.2.2.1, g5.2.2.2.2.2.2.2.2.2.2.1, g5.2.2.2.2.2.2.2.2.2.2.2.1, gr, g5.2.2.2.2.2.2.2.2.2.2.2.2.2.1, g5.2.2.2.2.2.2.2.2.2.2.2.2.2.2.1, g5.2.2.2.2.2.2.2.2.2.2.2.2.2.2.2.1, se, pr', bo)) g6 g7' pr pf' pw pt pn po tape taped rules sign clause clauses (upd said (41 + i) (said (41 + i) ^^^ bt j)) force x absent rain was' undone' images iforce ix made := by
      refine ⟨h1, h2, h3, R, hR, wd_act h5 oo w1 w0 (op_act ho oo hr m2 ?_ ?_), paR_o k3 oo, h7⟩
      · exact bd_ring ho.2.2.1 hN (fun k hk _ => upd_o (by omega))
      · obtain ⟨m, hm, em⟩ := ho.2.2.2.1
        exact ⟨m, hm, by rw [upd_o (by omega)]; exact em⟩
    by_cases e : gB (said (41 + i) ^^^ bt j) j = true
    · rw [ifb_t e, ifb_t e]
      exact ⟨_, _, g7', pf', _, was', undone', rfl, rfl, fin⟩
    · rw [ifb_f e, ifb_f e]
      exact ⟨_, _, g7', pf', _, was', undone', rfl, rfl, fin⟩
theorem fR_purse {N B L b : Nat} {rg pl : Nat → Nat} {d : Nat → Int32} {g : tyFair} {v : Int32} (hr : rOK N rg pl) (h : fR N B L rg pl d g) (hb : b < B) : fR N B L rg pl (upd d (47 + b) v) (g.1, g.2.1, g.2.2.1, g.2.2.2.1, g.2.2.2.2.1, g.2.2.2.2.2.1, g.2.2.2.2.2.2.1, g.2.2.2.2.2.2.2.1, g.2.2.2.2.2.2.2.2.1, g.2.2.2.2.2.2.2.2.2.1, g.2.2.2.2.2.2.2.2.2.2.1, g.2.2.2.2.2.2.2.2.2.2.2.1, g.2.2.2.2.2.2.2.2.2.2.2.2.1, upd g.2.2.2.2.2.2.2.2.2.2.2.2.2.1 b v, g.2.2.2.2.2.2.2.2.2.2.2.2.2.2.1, g.2.2.2.2.2.2.2.2.2.2.2.2.2.2.2.1, g.2.2.2.2.2.2.2.2.2.2.2.2.2.2.2.2.1, g.2.2.2.2.2.2.2.2.2.2.2.2.2.2.2.2.2.1, g.2.2.2.2.2.2.2.2.2.2.2.2.2.2.2.2.2.2) := by
  obtain ⟨⟨hS, hD, hW, hK, hf, ht, hpr⟩, h1, h2, h3⟩ := h
  obtain ⟨s1, s2, s3, s4, s5, s6, s7, s8, s9⟩ := hS
  obtain ⟨d1, d2, d3, d4, d5⟩ := hD
  obtain ⟨hN, hB, f3, f4, f5, f6, f7, f8⟩ := hf
  refine ⟨⟨⟨?_, ?_, ?_, ?_, fun s hs => ?_, fun s hs => ?_, s7, fun s hs => ?_, fun s hs => ?_⟩, ⟨fun s hs => ?_, fun s hs => ?_, fun s hs => ?_, fun s hs => ?_, fun b s hb hs => ?_⟩, fun s hs => ?_, ?_, ⟨hN, hB, f3, f4, ?_, ?_, ?_, rSt_upd f8 hN (by omega)⟩, fun s hs => ?_, fun s hs => ?_⟩, fun s hs => ?_, fun s hs => ?_, fun s hs => ?_⟩
  · rw [upd_o (by omega)]; exact s1
  · rw [upd_o (by omega)]; exact s2
  · rw [upd_o (by omega)]; exact s3
  · rw [upd_o (by omega)]; exact s4
  · rw [upd_o (by omega)]; exact s5 s hs
  · rw [upd_o (by omega)]; exact s6 s hs
  · rw [(prS_congr hr hs (fun k hk => ⟨upd_o (by omega), upd_o (by omega)⟩)).1]; exact s8 s hs
  · rw [(prS_congr hr hs (fun k hk => ⟨upd_o (by omega), upd_o (by omega)⟩)).2]; exact s9 s hs
  · rw [upd_o (by omega)]; exact d1 s hs
  · rw [upd_o (by omega)]; exact d2 s hs
  · rw [upd_o (by omega), upd_o (by omega)]; exact d3 s hs
  · by_cases e : s = b
    · subst e; rw [upd_s]; exact upd_s _ _ _
    · rw [upd_o (by omega)]; exact (upd_o e).trans (d4 s hs)
  · rw [upd_o (by omega)]; exact d5 b s hb hs
  · rw [upd_o (by omega)]; exact hW s hs
  · rw [upd_o (by omega)]; exact hK
  · rw [upd_o (by omega)]; exact f5
  · rw [upd_o (by omega)]; exact f6
  · rw [upd_o (by omega)]; exact f7
  · rw [upd_o (by omega)]; exact ht s hs
  · rw [upd_o (by omega)]; exact hpr s hs
  · rw [upd_o (by omega)]; exact h1 s hs
  · rw [upd_o (by omega)]; exact h2 s hs
  · rw [upd_o (by omega)]; exact h3 s hs
theorem T_earn (h : INV g0 g1 g3 g4 g5 g6 g7 pr pf pw pt pn po tape taped rules sign clause clauses said force x absent rain was undone images iforce ix made) (a p : Int32) : ∃ v g5' g7' pf' said' was' undone', mNextStall_earn a p g5 g7 pf = some (v, g5', g7', pf') ∧ m_earn a p said was undone = some (v, said', was', undone') ∧ INV g0 g1 g3 g4 g5' g6 g7' pr pf' pw pt pn po tape taped rules sign clause clauses said' force x absent rain was' undone' images iforce ix made := by
  have h0 := h
  obtain ⟨h1, h2, h3, R, hR, h5, h6, h7⟩ := h
  obtain ⟨N, B, hN, hB, s3, c3, s4, c4, hop⟩ := wd_st h5
  unfold mNextStall_earn m_earn
  rw [cisBuyer_ev (by omega) c4, misBuyer_ev (by omega) s4, bs, bs, within_ev, in_ev, bs, bs, show (1 : Int32).toInt = 1 from rfl, show (99 : Int32).toInt = 99 from rfl, show (1 : Int64).toInt = 1 from rfl, show (99 : Int64).toInt = 99 from rfl]
  by_cases e : wi a 0 ((B : Int) - 1) = true
  · rw [ifb_t e, ifb_t e]
    obtain ⟨i, hi, ei⟩ := wi_st e
    subst ei
    by_cases e2 : wi p 1 99 = true
    · rw [ifb_t e2, ifb_t e2]
      obtain ⟨L, rg, pl, ho⟩ := hop (Or.inr (by omega))
      obtain ⟨w1, w0⟩ := wd_open h5 s3 s4 hN hB (Or.inr (by omega))
      have hF := ho.2.1
      have ep := hF.1.2.1.2.2.2.1 i hi
      obtain ⟨was', undone', g7', pf', k1, k2, k3⟩ := keep_ev h6 (op_paS ho)
      have fin : ∀ v : Int32, INV g0 g1 g3 g4 ((g5.1, g5.2.1, g5.2.2.1, g5.2.2.2.1, g5.2.2.2.2.1, g5.2.2.2.2.2.1, g5.2.2.2.2.2.2.1, g5.2.2.2.2.2.2.2.1, g5.2.2.2.2.2.2.2.2.1, g5.2.2.2.2.2.2.2.2.2.1, g5.2.2.2.2.2.2.2.2.2.2.1, g5.2.2.2.2.2.2.2.2.2.2.2.1, g5.2.2.2.2.2.2.2.2.2.2.2.2.1, upd g5.2.2.2.2.2.2.2.2.2.2.2.2.2.1 i v, g5.2.2.2.2.2.2.2.2.2.2.2.2.2.2.1, g5.2.2.2.2.2.2.2.2.2.2.2.2.2.2.2.1, g5.2.2.2.2.2.2.2.2.2.2.2.2.2.2.2.2.1, g5.2.2.2.2.2.2.2.2.2.2.2.2.2.2.2.2.2.1, g5.2.2.2.2.2.2.2.2.2.2.2.2.2.2.2.2.2.2)) g6 g7' pr pf' pw pt pn po tape taped rules sign clause clauses (upd said (47 + i) v) force x absent rain was' undone' images iforce ix made := by
        intro v
        have oo : oEq said (upd said (47 + i) v) := oEq_upd (by omega) (by omega)
        refine ⟨h1, h2, h3, R, hR, wd_act h5 oo w1 w0 (op_act ho oo ho.1 (fR_purse ho.1 hF hi) ?_ ?_), paR_o k3 oo, h7⟩
        · exact bd_ring ho.2.2.1 hN (fun k hk _ => upd_o (by omega))
        · obtain ⟨m, hm, em⟩ := ho.2.2.2.1
          exact ⟨m, hm, by rw [upd_o (by omega)]; exact em⟩
      rw [k1, k2, bs, bs, rq_inb (by omega) (by omega), rq_inb (by omega) (by omega), ltp, rq_inb (by omega) (by omega), nn_tn (by omega), ep, upd_s, li47, nn_add, rq_inb (by omega) (by omega), rq_inb (by omega) (by omega), nn_tn (by omega), ltp]
      generalize hy : said (47 + i) + p = y
      by_cases e3 : y ≤ (999 : Int32)
      · have e4 : (if y < (999 : Int32) then y else 999) = y := by
          by_cases e5 : y < (999 : Int32)
          · rw [if_pos e5]
          · rw [if_neg e5]
            apply i_eq
            rw [Int32.le_iff_toInt_le] at e3
            rw [Int32.lt_iff_toInt_lt] at e5
            omega
        rw [if_pos e3, e4, rq_inb (by omega) (by omega), ltp, rq_inb (by omega) (by omega), upd_s]
        exact ⟨_, _, g7', pf', _, was', undone', rfl, rfl, fin y⟩
      · have e4 : (if y < (999 : Int32) then y else 999) = 999 := if_neg (by
          rw [Int32.lt_iff_toInt_lt]; rw [Int32.le_iff_toInt_le] at e3; omega)
        rw [if_neg e3, e4, ltp, rq_inb (by omega) (by omega), upd_s]
        exact ⟨_, _, g7', pf', _, was', undone', rfl, rfl, fin 999⟩
    · rw [ifb_f e2, ifb_f e2]
      exact ⟨_, g5, g7, pf, said, was, undone, rfl, rfl, h0⟩
  · rw [ifb_f e, ifb_f e]
    exact ⟨_, g5, g7, pf, said, was, undone, rfl, rfl, h0⟩
end acts
