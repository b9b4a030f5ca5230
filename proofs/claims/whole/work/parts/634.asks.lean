/-! asks -/
section asks
variable {g0 : tyNextStall} {g1 : tyTape} {g3 : tyWorld} {g4 g5 : tyFair} {g6 : tyNotes} {g7 : tyPast} {pr : Nat → tyRule} {pf : Nat → tyFair} {pw : Nat → tyWorld} {pt pn : Nat → tyFair} {po : Nat → tyNotes}
  {tape : Nat → Int32} {taped rules : Int32} {sign clause clauses said : Nat → Int32} {force x absent rain : Int32} {was : Nat → Int32} {undone : Int32} {images iforce ix made : Nat → Int32}
theorem swaps_l56_ev {N : Nat} {dd kp : Nat → Int32} {z : Nat → Int64} {tp rain x1 x2 x3 x4 x5 ab : Int32} {wd : Nat → Int64} (hN : N ≤ 6) (h3 : dd 3 = nn N) :
    ∀ (k i n : Nat) (wt : Nat → Int32), i + k = N → k < n → (∀ s, s < i → wt s = dd (11 + 4 * s + 3)) →
      ∃ wt', m_swaps_l56 sign clause clauses z tp wd dd force ab rain kp x1 x2 x3 x4 x5 n (nn i) wt = (m_laysBack dd kp).bind (fun q11 => m_swaps_l93 sign clause clauses force ab kp wt' x1 x2 FU x3 x4 x5 (nn 0) z tp wd q11 rain) ∧ ∀ s, s < N → wt' s = dd (11 + 4 * s + 3) := by
  intro k
  induction k with
  | zero =>
    intro i n wt h1 h2 hw
    match n, h2 with
    | n + 1, _ =>
    unfold m_swaps_l56
    rw [li3, rq_inb (by omega) (by omega), nn_tn (by omega), h3, ifle_t (by omega) (by omega), li0]
    exact ⟨wt, rfl, fun s hs => hw s (by omega)⟩
  | succ k ih =>
    intro i n wt h1 h2 hw
    match n, h2 with
    | n + 1, h2 =>
    unfold m_swaps_l56
    rw [li3, rq_inb (by omega) (by omega), nn_tn (by omega), h3, ifle_f (by omega) (by omega), wealthOf_ev (by omega), bs, rq_inb (by omega) (by omega), ltp, nn_tn (by omega), li1, nn_add]
    refine ih (i + 1) n _ (by omega) (by omega) (fun s hs => ?_)
    by_cases e : s = i
    · subst e; exact upd_s _ _ _
    · rw [upd_o e]; exact hw s (by omega)
theorem T_swaps (h : INV g0 g1 g3 g4 g5 g6 g7 pr pf pw pt pn po tape taped rules sign clause clauses said force x absent rain was undone images iforce ix made) (a b : Int32) (g8 : tyTrials) (g9 : tyFair) (z : Nat → Int64) (tp : Int32) (wd : Nat → Int64) (kept : Nat → Int32) (wt : Nat → Int32) : ∃ v g8' g9' pr' z' tp' wd' rain' kept' wt', mNextStall_swaps a b g0 g3 g5 g8 g9 pr = some (v, g8', g9', pr') ∧ m_swaps a b sign clause clauses z tp wd said force absent rain kept wt = some (v, z', tp', wd', said, rain', kept', wt') ∧ INV g0 g1 g3 g4 g5 g6 g7 pr' pf pw pt pn po tape taped rules sign clause clauses said force x absent rain' was undone images iforce ix made := by
  have h0 := h
  obtain ⟨h1, h2, h3, R, hR, h5, h6, h7⟩ := h
  subst h2; subst h3
  have h5' := h5
  obtain ⟨_, _, _, _, hw⟩ := h5'
  unfold mNextStall_swaps m_swaps
  rcases hw with ⟨w1, w0, _⟩ | ⟨w1, w0, N, B, L, rg, pl, ho⟩
  · rw [isFair_0 w0, bs, ifn0, if_pos (show g3.1 = 0 by rw [w1, li0])]
    exact ⟨_, g8, g9, pr, z, tp, wd, nn 0, kept, wt, rfl, rfl, h0⟩
  rw [isFair_1 w0, bs, ifn1, if_neg (show ¬ g3.1 = 0 by rw [w1, li0]; decide)]
  have hr := ho.1
  have hF := ho.2.1
  have hf := hF.1.2.2.2.2.1
  have hN := hf.1
  have hB := hf.2.1
  rw [within_ev, in_ev, bs, bs, show (1 : Int32).toInt = 1 from rfl, show (40 : Int32).toInt = 40 from rfl, show (1 : Int64).toInt = 1 from rfl, show (40 : Int64).toInt = 40 from rfl]
  by_cases e2 : ¬ wi a 1 40 = true
  · rw [ifb_f e2, ifb_f e2]
    exact ⟨_, g8, g9, pr, z, tp, wd, nn 0, kept, wt, rfl, rfl, h0⟩
  replace e2 := Classical.not_not.1 e2
  rw [ifb_t e2, ifb_t e2]
  obtain ⟨M, lM, uM, eM⟩ := wi_nn (a := 1) (b := 40) e2
  subst eM
  rw [within_ev, in_ev, bs, bs, show (0 : Int32).toInt = 0 from rfl, show (2 : Int32).toInt = 2 from rfl, show (0 : Int64).toInt = 0 from rfl, show (2 : Int64).toInt = 2 from rfl]
  by_cases e3 : ¬ wi b 0 2 = true
  · rw [ifb_f e3, ifb_f e3]
    exact ⟨_, g8, g9, pr, z, tp, wd, nn 0, kept, wt, rfl, rfl, h0⟩
  replace e3 := Classical.not_not.1 e3
  rw [ifb_t e3, ifb_t e3]
  obtain ⟨j, lj, uj, ej⟩ := wi_nn (a := 0) (b := 2) e3
  subst ej
  obtain ⟨ru, o, f1, f2, f3⟩ := force_ev hR h5
  obtain ⟨kp, k1, k2⟩ := keeps_ev said kept
  obtain ⟨z1, tp1, wd1, p0⟩ := passesAll_ev f1 acR_all hr (show M < 4000 by omega) hf z tp wd
  have ho' : oEq said (minsS ru N rg pl acA B M said (nn 0)).1 := oEq_mins hN hB hr
  have lb : m_laysBack (minsS ru N rg pl acA B M said (nn 0)).1 kp = some said := laysBack_ev ho' k2
  obtain ⟨wt2, w2, w3⟩ := swaps_l56_ev (sign := sign) (clause := clause) (clauses := clauses) (force := force) (kp := kp) (z := z1) (tp := tp1) (rain := nn 0) (x1 := nn M) (x2 := nn j) (x3 := nn 0) (x4 := -nn 2) (x5 := -nn 2) (ab := -nn 1) (wd := wd1) hN (show (minsS ru N rg pl acA B M said (nn 0)).1 3 = nn N by rw [ho' 3 (by omega)]; exact hf.2.2.2.2.1) N 0 FU wt (by omega) (by unfold FU; omega) (fun s hs => by omega)
  obtain ⟨z', tp', wd', p1⟩ := swaps_l93_ev f1 hr hf (show M < 4000 by omega) k2 w3 (nn j) N 0 FU (nn 0, -nn 2, -nn 2) z1 tp1 wd1 (by omega) (by unfold FU; omega)
  dsimp only at p1
  rw [k1, bs, p0, bs]
  dsimp only
  rw [li0, li2, w2, lb, bs, p1, f2, bs]
  rcases f3 with ⟨e1, e2⟩ | ⟨t, r, len, ht, e1, e2, e3⟩
  · subst e1; subst e2
    obtain ⟨q, hq, eq⟩ := from_ev g9 g5
    have hQ := fR_gEq hF eq
    obtain ⟨m', go, ti, we, so, pu, ha, gq, hG⟩ := gon_g acR_all hr (show M < 4000 by omega) hQ
    obtain ⟨t', g1', q1, q2⟩ := c_swOn hr hF (show M < 4000 by omega) (wb := va_cpy we g8.2.1 0 0 6) (fun s hs => by rw [cpy_lt (by omega)]; exact hG.1.2.2.1 s hs) N 0 FU (upd (upd (upd g8.1 0 (nn 0)) 1 (-nn 2)) 2 (-nn 2), va_cpy we g8.2.1 0 0 6, g8.2.2.1, g8.2.2.2.1, g8.2.2.2.2) (gUp q m' go ti we so pu ha) (by omega) (by unfold FU; omega) rfl
    dsimp only at q2
    rw [fd0, fd1, fd2] at q2
    have cl : mTrials_findSwapsrn (nn M) g8 g9 g5 = some (t', g1') := by
      unfold mTrials_findSwapsrn
      rw [hq, bs, li1, gq, bs, rq_true (show cpin (0 : Int32) (0 : Int32) (6 : Int32) 6 6 = true from rfl), ltp, show (0 : Int32).toNatClampNeg = 0 from rfl, show (6 : Int32).toNatClampNeg = 6 from rfl, find_ev, bs, li0, li2]
      exact q1
    rw [mtn, cl, bs, rq_inb (show j < 3 by omega) (by omega), nn_tn (by omega), of3_ev uj q2]
    exact ⟨_, _, _, pr, z', tp', wd', nn 0, kp, _, rfl, rfl, h0⟩
  · subst e1; subst e2
    obtain ⟨q, hq, eq⟩ := from_ev g9 g5
    have hQ := fR_gEq hF eq
    obtain ⟨m', go, ti, we, so, pu, ha, wd2, z2, gq, hG⟩ := gor_g e3 acR_all hr (show M < 4000 by omega) hQ _ _
    obtain ⟨t', g1', q', q1, q2, q4⟩ := c_swOr e3 hr hF (show M < 4000 by omega) (wb := va_cpy we g8.2.1 0 0 6) (fun s hs => by rw [cpy_lt (by omega)]; exact hG.1.2.2.1 s hs) N 0 FU (upd (upd (upd g8.1 0 (nn 0)) 1 (-nn 2)) 2 (-nn 2), va_cpy we g8.2.1 0 0 6, g8.2.2.1, g8.2.2.2.1, g8.2.2.2.2) (gUp q m' go ti we so pu ha) (qUp (pr t) wd2 z2) (by omega) (by unfold FU; omega) rfl (rqE.refl _).up
    dsimp only at q2
    rw [fd0, fd1, fd2] at q2
    have cl : mTrials_findSwapsrr (nn M) g8 g9 g5 (pr t) = some (t', g1', q') := by
      unfold mTrials_findSwapsrr
      rw [hq, bs, li1, gq, bs, rq_true (show cpin (0 : Int32) (0 : Int32) (6 : Int32) 6 6 = true from rfl), ltp, show (0 : Int32).toNatClampNeg = 0 from rfl, show (6 : Int32).toNatClampNeg = 6 from rfl, find_ev, bs, li0, li2]
      exact q1
    rw [mts, rq_dec (show t < 6 by omega), cl, bs, rq_inb (show j < 3 by omega) (by omega), nn_tn (by omega), of3_ev uj q2]
    exact ⟨_, _, _, _, z', tp', wd', nn 0, kp, _, rfl, rfl, INV_up h0 q4⟩
end asks
