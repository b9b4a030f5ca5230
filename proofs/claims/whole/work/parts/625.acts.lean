/-! acts -/
section acts
variable {g0 : tyNextStall} {g1 : tyTape} {g3 : tyWorld} {g4 g5 : tyFair} {g6 : tyNotes} {g7 : tyPast} {pr : Nat → tyRule} {pf : Nat → tyFair} {pw : Nat → tyWorld} {pt pn : Nat → tyFair} {po : Nat → tyNotes}
  {tape : Nat → Int32} {taped rules : Int32} {sign clause clauses said : Nat → Int32} {force x absent rain : Int32} {was : Nat → Int32} {undone : Int32} {images iforce ix made : Nat → Int32}
theorem T_ahead (h : INV g0 g1 g3 g4 g5 g6 g7 pr pf pw pt pn po tape taped rules sign clause clauses said force x absent rain was undone images iforce ix made) (a b c : Int32) (g9 : tyFair) (z : Nat → Int64) (tp : Int32) (wd : Nat → Int64) (kept : Nat → Int32) : ∃ v g9' pr' z' tp' wd' rain' kept', mNextStall_ahead a b c g0 g3 g5 g9 pr = some (v, g9', pr') ∧ m_ahead a b c sign clause clauses z tp wd said force absent rain kept = some (v, z', tp', wd', said, rain', kept') ∧ INV g0 g1 g3 g4 g5 g6 g7 pr' pf pw pt pn po tape taped rules sign clause clauses said force x absent rain' was undone images iforce ix made := by
  have h0 := h
  obtain ⟨h1, h2, h3, R, hR, h5, h6, h7⟩ := h
  subst h2; subst h3
  obtain ⟨N, B, hN, hB, s3, c3, s4, c4, hop⟩ := wd_st h5
  unfold mNextStall_ahead m_ahead
  rw [cisStall_ev (by omega) c3, misStall_ev (by omega) s3, bs, bs]
  by_cases e : wi a 0 ((N : Int) - 1) = true
  · rw [ifb_t e, ifb_t e, within_ev, in_ev, bs, bs, show (0 : Int32).toInt = 0 from rfl, show (100 : Int32).toInt = 100 from rfl, show (0 : Int64).toInt = 0 from rfl, show (100 : Int64).toInt = 100 from rfl]
    by_cases e2 : wi b 0 100 = true
    · rw [ifb_t e2, ifb_t e2, within_ev, in_ev, bs, bs, show (0 : Int32).toInt = 0 from rfl, show (2 : Int32).toInt = 2 from rfl, show (0 : Int64).toInt = 0 from rfl, show (2 : Int64).toInt = 2 from rfl]
      by_cases e3 : wi c 0 2 = true
      · rw [ifb_t e3, ifb_t e3]
        obtain ⟨s, hs, es⟩ := wi_st e
        obtain ⟨M, hM, eM⟩ := wi_st (N := 101) (show wi b 0 (((101 : Nat) : Int) - 1) = true from e2)
        obtain ⟨j, hj, ej⟩ := wi_st (N := 3) (show wi c 0 (((3 : Nat) : Int) - 1) = true from e3)
        subst es; subst eM; subst ej
        obtain ⟨L, rg, pl, ho⟩ := hop (Or.inl (by omega))
        have hr := ho.1
        obtain ⟨q, hq, eq⟩ := from_ev g9 g5
        have hF := fR_gEq ho.2.1 eq
        have hf := hF.1.2.2.2.2.1
        obtain ⟨ru, o, f1, f2, f3⟩ := force_ev hR h5
        obtain ⟨kp, k1, k2⟩ := keeps_ev said kept
        obtain ⟨z', tp', wd', p1⟩ := passesAll_ev f1 acR_all hr (show M < 4000 by omega) hf z tp wd
        have lb : m_laysBack (minsS ru N rg pl acA B M said (nn 0)).1 kp = some said := laysBack_ev (oEq_mins hN hB hr) k2
        rw [hq, k1, bs, bs, p1, f2, bs, bs]
        dsimp only
        rw [goodsOf_ev (by omega), tillOf_ev (by omega), wealthOf_ev (by omega), bs, bs, bs, lb, bs]
        rcases f3 with ⟨e1, e2⟩ | ⟨t, r, len, ht, e1, e2, e3⟩
        · subst e1; subst e2
          obtain ⟨m', go, ti, we, so, pu, ha, q1, q2⟩ := gon_g acR_all hr (show M < 4000 by omega) hF
          rw [mtn, li1, q1, bs, rq_inb (show s < 6 by omega) (by omega), nn_tn (show s < 2147483648 by omega)]
          dsimp only
          rw [← q2.1.2.1.1 s hs, ← q2.1.2.1.2.1 s hs, ← q2.1.2.2.1 s hs]
          by_cases j0 : nn j = (0 : Int32)
          · rw [if_pos j0, if_pos j0]
            exact ⟨_, _, pr, z', tp', wd', nn 0, kp, rfl, rfl, h0⟩
          · rw [if_neg j0, if_neg j0]
            by_cases j1 : nn j = nn 1
            · rw [if_pos j1, if_pos j1, rq_inb (show s < 6 by omega) (by omega)]
              exact ⟨_, _, pr, z', tp', wd', nn 0, kp, rfl, rfl, h0⟩
            · rw [if_neg j1, if_neg j1, rq_inb (show s < 6 by omega) (by omega)]
              exact ⟨_, _, pr, z', tp', wd', nn 0, kp, rfl, rfl, h0⟩
        · subst e1; subst e2
          obtain ⟨m', go, ti, we, so, pu, ha, wd2, z2, q1, q2⟩ := gor_g e3 acR_all hr (show M < 4000 by omega) hF _ _
          have fin : INV g0 g1 g3 g4 g5 g6 g7 ((va_up pr t (qUp (pr t) wd2 z2))) pf pw pt pn po tape taped rules sign clause clauses said force x ((-nn 1)) ((nn 0)) was undone images iforce ix made := INV_pr h0 ((prE.refl pr).up (rqE.refl _).up)
          rw [mts, rq_dec (show t < 6 by omega), li1, q1, bs, rq_inb (show s < 6 by omega) (by omega), nn_tn (show s < 2147483648 by omega)]
          dsimp only
          rw [← q2.1.2.1.1 s hs, ← q2.1.2.1.2.1 s hs, ← q2.1.2.2.1 s hs]
          by_cases j0 : nn j = (0 : Int32)
          · rw [if_pos j0, if_pos j0]
            exact ⟨_, _, _, z', tp', wd', nn 0, kp, rfl, rfl, fin⟩
          · rw [if_neg j0, if_neg j0]
            by_cases j1 : nn j = nn 1
            · rw [if_pos j1, if_pos j1, rq_inb (show s < 6 by omega) (by omega)]
              exact ⟨_, _, _, z', tp', wd', nn 0, kp, rfl, rfl, fin⟩
            · rw [if_neg j1, if_neg j1, rq_inb (show s < 6 by omega) (by omega)]
              exact ⟨_, _, _, z', tp', wd', nn 0, kp, rfl, rfl, fin⟩
      · rw [ifb_f e3, ifb_f e3]
        exact ⟨_, g9, pr, z, tp, wd, nn 0, kept, rfl, rfl, h0⟩
    · rw [ifb_f e2, ifb_f e2]
      exact ⟨_, g9, pr, z, tp, wd, nn 0, kept, rfl, rfl, h0⟩
  · rw [ifb_f e, ifb_f e]
    exact ⟨_, g9, pr, z, tp, wd, nn 0, kept, rfl, rfl, h0⟩
end acts
