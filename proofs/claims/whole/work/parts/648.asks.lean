/-! asks -/
section asks
variable {g0 : tyNextStall} {g1 : tyTape} {g3 : tyWorld} {g4 g5 : tyFair} {g6 : tyNotes} {g7 : tyPast} {pr : Nat → tyRule} {pf : Nat → tyFair} {pw : Nat → tyWorld} {pt pn : Nat → tyFair} {po : Nat → tyNotes}
  {tape : Nat → Int32} {taped rules : Int32} {sign clause clauses said : Nat → Int32} {force x absent rain : Int32} {was : Nat → Int32} {undone : Int32} {images iforce ix made : Nat → Int32}
theorem m2_lt : ¬ (0 : Int32) ≤ -nn 2 := by decide
theorem out_loop {R N B L st : Nat} {rg pl : Nat → Nat} {ru : Option RU} {o : Option Nat} {kp : Nat → Int32} (f1 : frR sign clause clauses force ru) (f2 : mNextStall_ruleInForce g0 g3 = some o) (f3 : (ru = none ∧ o = none) ∨ ∃ t r len, t < 6 ∧ ru = some r ∧ o = some t ∧ rcR (pr t).1 (pr t).2.1 (pr t).2.2.1 (pr t).2.2.2.1 (pr t).2.2.2.2.1 (pr t).2.2.2.2.2.1 (pr t).2.2.2.2.2.2.2.1 r len) (hr : rOK N rg pl) (hk : ∀ k, k < 79 → kp k = said (10 + k)) (hs : st < N) :
    ∀ (k i n : Nat) (d : Nat → Int32) (g9 : tyFair) (p : Nat → tyRule) (z : Nat → Int64) (tp : Int32) (wd : Nat → Int64), i + k = 200 → k + 1 < n → fR N B L rg pl d g9 → oEq said d → (∃ m, m + k ≤ 1199 ∧ d 10 = nn m) → prE pr p →
      ∃ v g9' p' z' tp' wd', mNextStall_out_l27 g0 g3 g5 (nn st) n (nn i) g9 p = some (v, g9', p') ∧ m_out_l19 sign clause clauses force (-nn 1) kp (nn st) n (-nn 2) (nn i) z tp wd d (nn 0) = some (v, z', tp', wd', said, nn 0, kp) ∧ prE pr p' := by
  intro k
  induction k with
  | zero =>
    intro i n d g9 p z tp wd h1 h2 hF ho hm hp
    match n, h2 with
    | n + 1, _ =>
    unfold mNextStall_out_l27 m_out_l19
    rw [li200, ifle_t (by omega) (by omega), ifle_t (by omega) (by omega), laysBack_ev ho hk, bs]
    exact ⟨_, g9, p, z, tp, wd, rfl, rfl, hp⟩
  | succ k ih =>
    intro i n d g9 p z tp wd h1 h2 hF ho hm hp
    match n, h2 with
    | n + 1, h2 =>
    obtain ⟨m, hm1, hm2⟩ := hm
    have hf := hF.1.2.2.2.2.1
    have hN := hf.1
    have hB := hf.2.1
    have eg : g9.2.2.2.2.2.1 st = d (11 + 4 * st) := hF.1.2.1.1 st hs
    have em : g9.2.2.2.2.1 = nn m := by rw [hF.1.1.2.2.2.1, hm2]
    obtain ⟨z1, tp1, wd1, p1⟩ := passes_ev f1 acR_all hr hf z tp wd
    have ho2 : oEq said (minS ru N rg pl acA B d).1 := ho.trans (oEq_min hN hB hr)
    unfold mNextStall_out_l27 m_out_l19
    rw [li200, ifle_f (by omega) (by omega), ifle_f (by omega) (by omega), if_neg m2_lt, rq_inb (by omega) (by omega), goodsOf_ev (by omega), bs, nn_tn (by omega), eg]
    by_cases e : d (11 + 4 * st) = 0
    · rw [if_pos e, if_pos e, li10, rq_inb (by omega) (by omega), ltp, nn_tn (by omega), hm2, p1, bs, li1, nn_add, em]
      dsimp only
      match n, h2 with
      | n + 1, _ =>
      unfold m_out_l19
      have l0 : (0 : Int32) ≤ nn m := by rw [li0, nn_le (by omega) (by omega)]; omega
      rw [laysBack_ev ho2 hk, bs, if_pos l0]
      rw [ite_self]
      exact ⟨_, g9, p, z1, tp1, wd1, rfl, rfl, hp⟩
    · rw [if_neg e, if_neg e, p1, bs, f2, bs, li1, nn_add]
      dsimp only
      have mm : ∃ m, m + k ≤ 1199 ∧ (minS ru N rg pl acA B d).1 10 = nn m := by
        refine ⟨m + 1, by omega, ?_⟩
        show clsD N rg pl (trS ru N rg pl acA B 0 d (nn 0)).1 10 = _
        rw [clsD_10, trS_o hN hr (by omega) _ _ _ _ (by omega), hm2, nn_add]
      rcases f3 with ⟨e1, e2⟩ | ⟨t, r, len, ht, e1, e2, e3⟩
      · subst e1; subst e2
        obtain ⟨m', go, ti, we, so, pu, ha, q1, q2⟩ := gon_g acR_all hr (show 1 < 4000 by omega) hF
        rw [mins_one.1] at q2
        rw [mtn, q1, bs]
        exact ih (i + 1) n _ _ p z1 tp1 wd1 (by omega) (by omega) q2 ho2 mm hp
      · subst e1; subst e2
        obtain ⟨m', go, ti, we, so, pu, ha, wd2, z2, q1, q2⟩ := gor_g (q := p t) (rcR_E e3 (hp t)) acR_all hr (show 1 < 4000 by omega) hF (p t).2.2.2.2.2.2.2.2.1 (p t).2.2.2.2.2.2.2.2.2
        rw [mins_one.1] at q2
        rw [mts, rq_dec (show t < 6 by omega), q1, bs]
        exact ih (i + 1) n _ _ (va_up p t (qUp (p t) wd2 z2)) z1 tp1 wd1 (by omega) (by omega) q2 ho2 mm (hp.up (hp t).up)
theorem T_out (h : INV g0 g1 g3 g4 g5 g6 g7 pr pf pw pt pn po tape taped rules sign clause clauses said force x absent rain was undone images iforce ix made) (a : Int32) (g9 : tyFair) (z : Nat → Int64) (tp : Int32) (wd : Nat → Int64) (kept : Nat → Int32) : ∃ v g9' pr' z' tp' wd' rain' kept', mNextStall_out a g0 g3 g5 g9 pr = some (v, g9', pr') ∧ m_out a sign clause clauses z tp wd said force absent rain kept = some (v, z', tp', wd', said, rain', kept') ∧ INV g0 g1 g3 g4 g5 g6 g7 pr' pf pw pt pn po tape taped rules sign clause clauses said force x absent rain' was undone images iforce ix made := by
  have h0 := h
  obtain ⟨h1, h2, h3, R, hR, h5, h6, h7⟩ := h
  subst h2; subst h3
  obtain ⟨N, B, hN, hB, s3, c3, s4, c4, hop⟩ := wd_st h5
  unfold mNextStall_out m_out
  rw [cisStall_ev (by omega) c3, misStall_ev (by omega) s3, bs, bs]
  by_cases e1 : ¬ wi a 0 ((N : Int) - 1) = true
  · rw [ifb_f e1, ifb_f e1]
    exact ⟨_, g9, pr, z, tp, wd, nn 0, kept, rfl, rfl, h0⟩
  replace e1 := Classical.not_not.1 e1
  rw [ifb_t e1, ifb_t e1]
  obtain ⟨st, hs, es⟩ := wi_st e1
  subst es
  obtain ⟨L, rg, pl, ho⟩ := hop (Or.inl (by omega))
  have hr := ho.1
  have hF := ho.2.1
  have hf := hF.1.2.2.2.2.1
  obtain ⟨ru, o, f1, f2, f3⟩ := force_ev hR h5
  obtain ⟨kp, k1, k2⟩ := keeps_ev said kept
  obtain ⟨q, hq, eq⟩ := from_ev g9 g5
  have hQ := fR_gEq hF eq
  obtain ⟨m, hm, em⟩ := ho.2.2.2.1
  obtain ⟨v, g9', p', z', tp', wd', q1, q2, q3⟩ := out_loop (g5 := g5) (R := R) f1 f2 f3 hr k2 hs 200 0 FU said q pr z tp wd (by omega) (by unfold FU; omega) hQ (fun _ _ => rfl) ⟨m, by omega, em⟩ (prE.refl pr)
  rw [hq, bs, k1, bs, li0, li2, q1, q2]
  exact ⟨v, g9', p', z', tp', wd', nn 0, kp, rfl, rfl, INV_pr h0 q3⟩
end asks
