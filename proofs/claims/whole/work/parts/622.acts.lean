/-! acts -/
section acts
variable {g0 : tyNextStall} {g1 : tyTape} {g3 : tyWorld} {g4 g5 : tyFair} {g6 : tyNotes} {g7 : tyPast} {pr : Nat → tyRule} {pf : Nat → tyFair} {pw : Nat → tyWorld} {pt pn : Nat → tyFair} {po : Nat → tyNotes}
  {tape : Nat → Int32} {taped rules : Int32} {sign clause clauses said : Nat → Int32} {force x absent rain : Int32} {was : Nat → Int32} {undone : Int32} {images iforce ix made : Nat → Int32}
theorem wd_note {R : Nat} {said said' : Nat → Int32} {force x : Int32} {w : tyWorld} {told now : tyFair} {no no' : tyNotes} (h : wdR R said force x w told now no) (e : ∀ k, k < 125 → said' k = said k) (h0 : said' 155 = nn 0) (hc : no'.2.2.2 = nn 0) : wdR R said' force x w told now no' := by
  obtain ⟨a1, a2, a3, a4, h⟩ := h
  refine ⟨a1, a2, a3, a4, ?_⟩
  rcases h with ⟨w1, w0, ⟨c1, c2, c3, c4, c5, c6⟩, d1, d2⟩ | ⟨w1, w0, N, B, L, rg, pl, ho⟩
  · exact Or.inl ⟨w1, by rw [e _ (by omega)]; exact w0, ⟨by rw [e _ (by omega)]; exact c1, by rw [e _ (by omega)]; exact c2, by rw [e _ (by omega)]; exact c3, by rw [e _ (by omega)]; exact c4, by rw [e _ (by omega)]; exact c5, h0⟩, d1, hc⟩
  · refine Or.inr ⟨w1, by rw [e _ (by omega)]; exact w0, N, B, L, rg, pl, op_note ho e ⟨0, fun _ => (0, 0, 0), fun _ => (0, 0, 0), ⟨by omega, h0, fun i hi => by omega⟩, by omega, ⟨hc, fun i hi => by omega, fun i j _ hj => by omega⟩, fun i hi => by omega, fun i hi => by omega, fun i hi => by omega⟩⟩
theorem T_note (h : INV g0 g1 g3 g4 g5 g6 g7 pr pf pw pt pn po tape taped rules sign clause clauses said force x absent rain was undone images iforce ix made) (a b c : Int32) : ∃ v g6' said', mNextStall_note a b c g5 g6 = some (v, g6') ∧ m_note a b c said = some (v, said') ∧ INV g0 g1 g3 g4 g5 g6' g7 pr pf pw pt pn po tape taped rules sign clause clauses said' force x absent rain was undone images iforce ix made := by
  have h0 := h
  obtain ⟨h1, h2, h3, R, hR, h5, h6, h7⟩ := h
  obtain ⟨N, B, hN, hB, s3, c3, s4, c4, hop⟩ := wd_st h5
  unfold mNextStall_note m_note
  by_cases en : a = (-1 : Int32)
  · rw [if_pos en, if_pos en, show (155 : Int32) = nn 155 from id rfl, rq_inb (by omega) (by omega), ltp, nn_tn (by omega), li0]
    exact ⟨_, _, _, rfl, rfl, h1, h2, h3, R, hR, wd_note h5 (fun k hk => upd_o (by omega)) (upd_s _ _ _) rfl, paR_low h6 (fun k hk => upd_o (by omega)), h7⟩
  rw [if_neg en, if_neg en, within_ev, in_ev, bs, bs, show (0 : Int32).toInt = 0 from rfl, show (60 : Int32).toInt = 60 from rfl, show (0 : Int64).toInt = 0 from rfl, show (60 : Int64).toInt = 60 from rfl]
  by_cases e : wi a 0 60 = true
  · rw [ifb_t e, ifb_t e, cisStall_ev (by omega) c3, misStall_ev (by omega) s3, bs, bs]
    by_cases e2 : wi b 0 ((N : Int) - 1) = true
    · rw [ifb_t e2, ifb_t e2, within_ev, in_ev, bs, bs, show (0 : Int32).toInt = 0 from rfl, show (9999 : Int32).toInt = 9999 from rfl, show (0 : Int64).toInt = 0 from rfl, show (9999 : Int64).toInt = 9999 from rfl]
      by_cases e3 : wi c 0 9999 = true
      · rw [ifb_t e3, ifb_t e3]
        obtain ⟨s, hs, es⟩ := wi_st e2
        obtain ⟨m, hm, em⟩ := wi_st (N := 61) (show wi a 0 (((61 : Nat) : Int) - 1) = true from e)
        subst es; subst em
        obtain ⟨L, rg, pl, ho⟩ := hop (Or.inl (by omega))
        obtain ⟨w1, w0⟩ := wd_open h5 s3 s4 hN hB (Or.inl (by omega))
        obtain ⟨n, nr, nc, hnr, hnt⟩ := ho.2.2.2.2.2.2
        have e155 := hnr.2.1
        have ec := hnt.2.1.1
        have hn10 := hnt.1
        rw [ec, show (155 : Int32) = nn 155 from id rfl, rq_inb (by omega) (by omega), nn_tn (show 155 < 2147483648 by omega), e155, show (10 : Int32) = nn 10 from id rfl]
        by_cases e4 : n < 10
        · have e9 : ¬ nn n = nn 10 := by rw [nn_inj (by omega) (by omega)]; omega
          obtain ⟨k0, g', p1, p2, p3, p4, p5, p6⟩ := add_l16_ev (s := s) (x3 := c) e4 (show m ≤ 60 by omega) (fun i hi => (hnt.2.2.1 i hi).1) hnt.2.1.2.2 n FU g6 (by omega) (by unfold FU; omega) ec hnt.2.1.2.1 (fun i _ _ => by omega) (fun i _ _ => by omega)
          have ha : mNotes_add (nn m) (nn s) c g6 = some g' := by
            unfold mNotes_add
            rw [ec, show (10 : Int32) = nn 10 from id rfl, iflt_t e4 (by omega)]
            exact p2
          have lo : ∀ k, k < 125 → ntD said n m s c k = said k := fun k hk => by
            unfold ntD
            rw [upd_o (by omega), upd_o (by omega), upd_o (by omega), upd_o (by omega)]
          rw [iflt_t e4 (by omega), if_neg e9, ha, bs, p3, rq_inb (by omega) (by omega), show (125 : Int32) = nn 125 from id rfl, show (3 : Int32) = nn 3 from id rfl, li1, show (2 : Int32) = nn 2 from id rfl, nn_mul, nn_add, ltp, nn_add, nn_add, rq_inb (by omega) (by omega), ltp, rq_inb (by omega) (by omega), ltp, rq_inb (by omega) (by omega), ltp, rq_inb (by omega) (by omega), rq_inb (by omega) (by omega), ltp, rq_inb (by omega) (by omega), nn_tn (show 125 + 3 * n < 2147483648 by omega), nn_tn (show 125 + 3 * n + 1 < 2147483648 by omega), nn_tn (show 125 + 3 * n + 2 < 2147483648 by omega), upd_s, upd_o (by omega), upd_o (by omega), upd_o (by omega), e155, nn_add]
          refine ⟨_, g', ntD said n m s c, rfl, rfl, h1, h2, h3, R, hR, ?_, paR_low h6 lo, h7⟩
          obtain ⟨a1, a2, a3, a4, _⟩ := h5
          exact ⟨a1, a2, a3, a4, Or.inr ⟨w1, by rw [lo _ (by omega)]; exact w0, N, B, L, rg, pl, op_note ho lo ⟨n + 1, _, _, nr_add e4 (by omega) hs hnr, nt_add e4 (by omega) hs p1 hnt p3 p4 p5 p6⟩⟩⟩
        · have e9 : nn n = nn 10 := by rw [show n = 10 by omega]
          rw [iflt_f (by omega) (by omega), if_pos e9]
          exact ⟨_, g6, said, rfl, rfl, h0⟩
      · rw [ifb_f e3, ifb_f e3]
        exact ⟨_, g6, said, rfl, rfl, h0⟩
    · rw [ifb_f e2, ifb_f e2]
      exact ⟨_, g6, said, rfl, rfl, h0⟩
  · rw [ifb_f e, ifb_f e]
    exact ⟨_, g6, said, rfl, rfl, h0⟩
end acts
