/-! acts -/
section acts
variable {g0 : tyNextStall} {g1 : tyTape} {g3 : tyWorld} {g4 g5 : tyFair} {g6 : tyNotes} {g7 : tyPast} {pr : Nat → tyRule} {pf : Nat → tyFair} {pw : Nat → tyWorld} {pt pn : Nat → tyFair} {po : Nat → tyNotes}
  {tape : Nat → Int32} {taped rules : Int32} {sign clause clauses said : Nat → Int32} {force x absent rain : Int32} {was : Nat → Int32} {undone : Int32} {images iforce ix made : Nat → Int32}
theorem T_taken (h : INV g0 g1 g3 g4 g5 g6 g7 pr pf pw pt pn po tape taped rules sign clause clauses said force x absent rain was undone images iforce ix made) (a : Int32) (g9 : tyFair) (z : Nat → Int64) (tp : Int32) (wd : Nat → Int64) (kept : Nat → Int32) : ∃ v g9' pr' z' tp' wd' rain' kept', mNextStall_taken a g0 g3 g5 g9 pr = some (v, g9', pr') ∧ m_taken a sign clause clauses z tp wd said force absent rain kept = some (v, z', tp', wd', said, rain', kept') ∧ INV g0 g1 g3 g4 g5 g6 g7 pr' pf pw pt pn po tape taped rules sign clause clauses said force x absent rain' was undone images iforce ix made := by
  have h0 := h
  obtain ⟨h1, h2, h3, R, hR, h5, h6, h7⟩ := h
  subst h2; subst h3
  have h5' := h5
  obtain ⟨_, _, _, _, hw⟩ := h5'
  unfold mNextStall_taken m_taken
  rcases hw with ⟨w1, w0, _⟩ | ⟨w1, w0, N, B, L, rg, pl, ho⟩
  · rw [isFair_0 w0, bs, ifn0, if_pos (show g3.1 = 0 by rw [w1, li0])]
    exact ⟨_, g9, pr, z, tp, wd, nn 0, kept, rfl, rfl, h0⟩
  · rw [isFair_1 w0, bs, ifn1, if_neg (show ¬ g3.1 = 0 by rw [w1, li0]; decide), within_ev, in_ev, bs, bs, show (0 : Int32).toInt = 0 from rfl, show (100 : Int32).toInt = 100 from rfl, show (0 : Int64).toInt = 0 from rfl, show (100 : Int64).toInt = 100 from rfl]
    by_cases e2 : wi a 0 100 = true
    · rw [ifb_t e2, ifb_t e2]
      obtain ⟨M, hM, eM⟩ := wi_st (N := 101) (show wi a 0 (((101 : Nat) : Int) - 1) = true from e2)
      subst eM
      have hr := ho.1
      obtain ⟨q, hq, eq⟩ := from_ev g9 g5
      have hF := fR_gEq ho.2.1 eq
      have hf := hF.1.2.2.2.2.1
      obtain ⟨ru, o, f1, f2, f3⟩ := force_ev hR h5
      obtain ⟨kp, k1, k2⟩ := keeps_ev said kept
      obtain ⟨z', tp', wd', p1⟩ := passesAll_ev f1 acR_all hr (show M < 4000 by omega) hf z tp wd
      have lb : m_laysBack (minsS ru N rg pl acA B M said (nn 0)).1 kp = some said := laysBack_ev (oEq_mins hf.1 hf.2.1 hr) k2
      have tk : m_takenIn (nn M) sign clause clauses z tp wd said force (-nn 1) (nn 0) kp = some ((minsS ru N rg pl acA B M said (nn 0)).2, z', tp', wd', said, nn 0) := by
        unfold m_takenIn
        rw [p1, bs]
        dsimp only
        rw [lb, bs]
      rw [hq, k1, bs, bs, tk, f2, bs, bs]
      rcases f3 with ⟨e1, e2⟩ | ⟨t, r, len, ht, e1, e2, e3⟩
      · subst e1; subst e2
        obtain ⟨m', go, ti, we, so, pu, ha, q1, q2⟩ := gon_g acR_all hr (show M < 4000 by omega) hF
        rw [mtn, li1, q1, bs]
        exact ⟨_, _, pr, z', tp', wd', nn 0, kp, rfl, rfl, h0⟩
      · subst e1; subst e2
        obtain ⟨m', go, ti, we, so, pu, ha, wd2, z2, q1, q2⟩ := gor_g e3 acR_all hr (show M < 4000 by omega) hF _ _
        have fin : INV g0 g1 g3 g4 g5 g6 g7 ((va_up pr t (qUp (pr t) wd2 z2))) pf pw pt pn po tape taped rules sign clause clauses said force x ((-nn 1)) ((nn 0)) was undone images iforce ix made := INV_pr h0 ((prE.refl pr).up (rqE.refl _).up)
        rw [mts, rq_dec (show t < 6 by omega), li1, q1, bs]
        exact ⟨_, _, _, z', tp', wd', nn 0, kp, rfl, rfl, fin⟩
    · rw [ifb_f e2, ifb_f e2]
      exact ⟨_, g9, pr, z, tp, wd, nn 0, kept, rfl, rfl, h0⟩
end acts
