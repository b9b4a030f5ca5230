/-! acts -/
section acts
variable {g0 : tyNextStall} {g1 : tyTape} {g3 : tyWorld} {g4 g5 : tyFair} {g6 : tyNotes} {g7 : tyPast} {pr : Nat → tyRule} {pf : Nat → tyFair} {pw : Nat → tyWorld} {pt pn : Nat → tyFair} {po : Nat → tyNotes}
  {tape : Nat → Int32} {taped rules : Int32} {sign clause clauses said : Nat → Int32} {force x absent rain : Int32} {was : Nat → Int32} {undone : Int32} {images iforce ix made : Nat → Int32}
theorem op_act {N B L : Nat} {rg pl rg' pl' : Nat → Nat} {said said' : Nat → Int32} {told now now' : tyFair} {no : tyNotes} (h : opR N B L rg pl said told now no) (ho : oEq said said') (hr : rOK N rg' pl') (hF : fR N B L rg' pl' said' now') (hb : bdR N said') (hm : ∃ m, m ≤ 999 ∧ said' 10 = nn m) : opR N B L rg' pl' said' told now' no := by
  obtain ⟨_, _, _, _, h5, h6, n, nr, nc, h7, h8⟩ := h
  refine ⟨hr, hF, hb, hm, ?_, ?_, n, nr, nc, nr_oEq h7 (fun k hk _ => ho k (by omega)), h8⟩
  · rw [beg_congr ho]; exact h5
  · rw [beg_congr ho]; exact h6
theorem wd_open {R N B : Nat} {said : Nat → Int32} {force x : Int32} {w : tyWorld} {told now : tyFair} {no : tyNotes} (h : wdR R said force x w told now no) (s3 : said 3 = nn N) (s4 : said 4 = nn B) (hN : N ≤ 6) (hB : B ≤ 6) (hp : 0 < N ∨ 0 < B) : w.1 = nn 1 ∧ said 0 = nn 1 := by
  obtain ⟨_, _, _, _, h⟩ := h
  rcases h with ⟨_, _, ⟨⟨_, _, c3, c4, _⟩, _⟩⟩ | ⟨h1, h2, _⟩
  · rw [s3, nn_inj (by omega) (by omega)] at c3
    rw [s4, nn_inj (by omega) (by omega)] at c4
    omega
  · exact ⟨h1, h2⟩
/-- an open world whose fair is another now -/
theorem wd_act {R N B L : Nat} {rg pl : Nat → Nat} {said said' : Nat → Int32} {force x : Int32} {w : tyWorld} {told now now' : tyFair} {no : tyNotes} (h : wdR R said force x w told now no) (ho : oEq said said') (h1 : w.1 = nn 1) (h0 : said 0 = nn 1) (hop : opR N B L rg pl said' told now' no) : wdR R said' force x w told now' no := by
  obtain ⟨a1, a2, a3, a4, _⟩ := h
  exact ⟨a1, a2, a3, a4, Or.inr ⟨h1, by rw [ho 0 (by omega)]; exact h0, N, B, L, rg, pl, hop⟩⟩
theorem op_paS {N B L : Nat} {rg pl : Nat → Nat} {said : Nat → Int32} {told now : tyFair} {no : tyNotes} (h : opR N B L rg pl said told now no) : paS said now := ⟨N, B, L, rg, pl, h.1, h.2.1, h.2.2.1, h.2.2.2.1⟩
theorem areTwo_ev {N : Nat} {said : Nat → Int32} {g : tyFair} (a b : Int32) (hN : N < 2147483648) (s3 : said 3 = nn N) (c3 : g.2.2.1 = nn N) :
    (mNextStall_areTwoStalls a b g = some (nn 0) ∧ m_areTwo a b said = some (nn 0)) ∨ (∃ i j, i < N ∧ j < N ∧ ¬ i = j ∧ a = nn i ∧ b = nn j ∧ mNextStall_areTwoStalls a b g = some (nn 1) ∧ m_areTwo a b said = some (nn 1)) := by
  unfold mNextStall_areTwoStalls m_areTwo
  rw [cisStall_ev hN c3, cisStall_ev hN c3, misStall_ev hN s3, misStall_ev hN s3, bs, bs]
  by_cases e1 : wi a 0 ((N : Int) - 1) = true
  · rw [ifb_t e1]
    by_cases e2 : wi b 0 ((N : Int) - 1) = true
    · rw [ifb_t e2]
      obtain ⟨i, hi, ei⟩ := wi_st e1
      obtain ⟨j, hj, ej⟩ := wi_st e2
      by_cases e3 : a = b
      · rw [if_pos e3]; exact Or.inl ⟨rfl, rfl⟩
      · rw [if_neg e3]
        exact Or.inr ⟨i, j, hi, hj, fun e => e3 (by rw [ei, ej, e]), ei, ej, rfl, rfl⟩
    · rw [ifb_f e2]; exact Or.inl ⟨rfl, rfl⟩
  · rw [ifb_f e1]; exact Or.inl ⟨rfl, rfl⟩
theorem ifn1 {α : Type} {y z : α} : (if nn 1 = (0 : Int32) then y else z) = z := if_neg (by decide)
theorem ifn0 {α : Type} {y z : α} : (if nn 0 = (0 : Int32) then y else z) = y := if_pos rfl
theorem bd_ring {N : Nat} {d d' : Nat → Int32} (h : bdR N d) (hN : N ≤ 6) (e : ∀ k, k < 35 → (¬ ∃ s, s < N ∧ k = 11 + 4 * s + 1) → d' k = d k) : bdR N d' := by
  obtain ⟨T, W, G, K, hK, h2, hv, hsum⟩ := h
  refine ⟨T, W, G, K, hK, by rw [e 2 (by omega) (by intro ⟨s, _, h⟩; omega)]; exact h2, fun s hs => ?_, hsum⟩
  obtain ⟨a1, a2, a3⟩ := hv s hs
  exact ⟨by rw [e _ (by omega) (by intro ⟨s', _, h⟩; omega)]; exact a1, by rw [e _ (by omega) (by intro ⟨s', _, h⟩; omega)]; exact a2, by rw [e _ (by omega) (by intro ⟨s', _, h⟩; omega)]; exact a3⟩
theorem T_undo (h : INV g0 g1 g3 g4 g5 g6 g7 pr pf pw pt pn po tape taped rules sign clause clauses said force x absent rain was undone images iforce ix made) : ∃ v g5' g7' said' undone', mNextStall_undo g5 g7 pf = some (v, g5', g7') ∧ m_undo said was undone = some (v, said', undone') ∧ INV g0 g1 g3 g4 g5' g6 g7' pr pf pw pt pn po tape taped rules sign clause clauses said' force x absent rain was undone' images iforce ix made := by
  have h0 := h
  obtain ⟨h1, h2, h3, R, hR, h5, ⟨u, nx, u1, u2, u3, u4, u5, u6⟩, h7⟩ := h
  unfold mNextStall_undo m_undo
  rw [u3, u4, li0]
  by_cases e : 0 < u
  · rw [iflt_t e (by omega), ifeq_f (by omega) (by omega) (by omega), ltp, li1, nn_sub (by omega) (by omega), undo_l21_ev (said := said) (by omega) 79 0 FU said (by omega) (by unfold FU; omega) (fun j hj => by unfold udD; rw [if_neg (by omega)])]
    obtain ⟨q, hq, eq⟩ := copyFrom_ev g5 (pf ((nx + 20 - 1) % 20))
    have hk : mPast_takeBack g7 g5 pf = some ((nn ((nx + 20 - 1) % 20), nn (u - 1)), q) := by
      unfold mPast_takeBack
      rw [u5, u4, ltp, ltp, li1, li20, nn_add, nn_sub (by omega) (by omega), nn_mod (by omega) (by omega) (by omega), nn_sub (by omega) (by omega), rq_inb (by omega) (by omega), ltp, nn_tn (by omega), hq]
      rfl
    rw [hk, bs]
    have ho : oEq said (udD said was (u - 1)) := fun k hk => by unfold udD; rw [if_neg (by omega)]
    obtain ⟨N, B, L, rg, pl, p1, p2, p3, p4⟩ := paS_g (u6 (u - 1) (by omega)) (show gEq (pf ((nx + 20 - u + (u - 1)) % 20)) q by rw [show nx + 20 - u + (u - 1) = nx + 20 - 1 by omega]; exact eq)
    have hf := p2.1.2.2.2.2.1
    have s3 : said 3 = nn N := by rw [← ho 3 (by omega)]; exact hf.2.2.2.2.1
    have s4 : said 4 = nn B := by rw [← ho 4 (by omega)]; exact hf.2.2.2.2.2.1
    have hopen : g3.1 = nn 1 ∧ said 0 = nn 1 ∧ ∃ N B L rg pl, opR N B L rg pl said g4 g5 g6 := by
      obtain ⟨_, _, _, _, h⟩ := h5
      rcases h with ⟨_, _, ⟨⟨c1, _⟩, _⟩⟩ | h
      · have := hf.2.2.2.2.2.2.1
        rw [ho 1 (by omega), c1, nn_inj (by omega) (by have := hf.2.2.2.1; omega)] at this
        have := hf.2.2.1
        omega
      · exact h
    obtain ⟨o1, o2, N', B', L', rg', pl', hop⟩ := hopen
    have hf' := hop.2.1.1.2.2.2.2.1
    have eN : N' = N := by have := hf'.2.2.2.2.1; rw [s3, nn_inj (by have := hf.1; omega) (by have := hf'.1; omega)] at this; exact this.symm
    have eB : B' = B := by have := hf'.2.2.2.2.2.1; rw [s4, nn_inj (by have := hf.2.1; omega) (by have := hf'.2.1; omega)] at this; exact this.symm
    have eL : L' = L := by have := hf'.2.2.2.2.2.2.1; rw [← ho 1 (by omega), hf.2.2.2.2.2.2.1, nn_inj (by have := hf.2.2.2.1; omega) (by have := hf'.2.2.2.1; omega)] at this; exact this.symm
    subst eN; subst eB; subst eL
    refine ⟨_, q, (nn ((nx + 20 - 1) % 20), nn (u - 1)), udD said was (u - 1), nn (u - 1), rfl, rfl, h1, h2, h3, R, hR, wd_act h5 ho o1 o2 (op_act hop ho p1 p2 p3 p4), paR_o (said := said) ⟨u - 1, (nx + 20 - 1) % 20, by omega, by omega, rfl, rfl, rfl, fun i hi => ?_⟩ ho, h7⟩
    rw [show ((nx + 20 - 1) % 20 + 20 - (u - 1) + i) % 20 = (nx + 20 - u + i) % 20 by omega]
    exact u6 i (by omega)
  · have e0 : u = 0 := by omega
    subst e0
    rw [iflt_f (by omega) (by omega), ifeq_t rfl]
    rw [u3] at h0
    exact ⟨_, g5, g7, said, nn 0, rfl, rfl, h0⟩
theorem T_move (h : INV g0 g1 g3 g4 g5 g6 g7 pr pf pw pt pn po tape taped rules sign clause clauses said force x absent rain was undone images iforce ix made) (a b : Int32) : ∃ v g5' g7' pf' said' was' undone', mNextStall_move a b g5 g7 pf = some (v, g5', g7', pf') ∧ m_move a b said was undone = some (v, said', was', undone') ∧ INV g0 g1 g3 g4 g5' g6 g7' pr pf' pw pt pn po tape taped rules sign clause clauses said' force x absent rain was' undone' images iforce ix made := by
  have h0 := h
  obtain ⟨h1, h2, h3, R, hR, h5, h6, h7⟩ := h
  obtain ⟨N, B, hN, hB, s3, c3, s4, c4, hop⟩ := wd_st h5
  unfold mNextStall_move m_move
  rcases areTwo_ev a b (by omega) s3 c3 with ⟨e1, e2⟩ | ⟨i, j, hi, hj, hij, ea, eb, e1, e2⟩
  · rw [e1, e2, bs, bs, ifn0, ifn0]
    exact ⟨_, g5, g7, pf, said, was, undone, rfl, rfl, h0⟩
  · subst ea; subst eb
    obtain ⟨L, rg, pl, ho⟩ := hop (Or.inl (by omega))
    obtain ⟨w1, w0⟩ := wd_open h5 s3 s4 hN hB (Or.inl (by omega))
    have hr := ho.1
    have hF := ho.2.1
    have hf := hF.1.2.2.2.2.1
    obtain ⟨was', undone', g7', pf', k1, k2, k3⟩ := keep_ev h6 (op_paS ho)
    obtain ⟨ri, se, pr', bo, m1, m2⟩ := swapPlaces_ev hr hF hi hj hij
    have hok := mv_ok hr hi hj hij
    have hSt := mv_St hN hr hf.2.2.2.2.2.2.2 hi hj
    have oo : oEq said (mvD pl said i j) := fun k hk => mv_o hN hr hi hj (by omega)
    rw [e1, e2, bs, bs, ifn1, ifn1, k1, k2, bs, bs, m1, bs, moves_ev hN hr hf.2.2.2.2.2.2.2 hi hj, bs, placeOf_ev hN hok hSt hi, bs]
    dsimp only
    rw [cplaceOf_ev hN hok c3 (fun k hk => by have := m2.2.2.1 k hk; rw [hSt k hk] at this; exact this) hi, bs]
    refine ⟨_, _, g7', pf', mvD pl said i j, was', undone', rfl, rfl, h1, h2, h3, R, hR, wd_act h5 oo w1 w0 (op_act ho oo hok m2 ?_ ?_), paR_o k3 oo, h7⟩
    · exact bd_ring ho.2.2.1 hN (fun k hk _ => mv_o hN hr hi hj (by omega))
    · obtain ⟨m, hm, em⟩ := ho.2.2.2.1
      exact ⟨m, hm, by rw [mv_o hN hr hi hj (by omega)]; exact em⟩
theorem T_price (h : INV g0 g1 g3 g4 g5 g6 g7 pr pf pw pt pn po tape taped rules sign clause clauses said force x absent rain was undone images iforce ix made) (a p : Int32) : ∃ v g5' g7' pf' said' was' undone', mNextStall_price a p g5 g7 pf = some (v, g5', g7', pf') ∧ m_price a p said was undone = some (v, said', was', undone') ∧ INV g0 g1 g3 g4 g5' g6 g7' pr pf' pw pt pn po tape taped rules sign clause clauses said' force x absent rain was' undone' images iforce ix made := by
  have h0 := h
  obtain ⟨h1, h2, h3, R, hR, h5, h6, h7⟩ := h
  obtain ⟨N, B, hN, hB, s3, c3, s4, c4, hop⟩ := wd_st h5
  unfold mNextStall_price m_price
  rw [cisStall_ev (by omega) c3, misStall_ev (by omega) s3, bs, bs, within_ev, in_ev, bs, bs, show (1 : Int32).toInt = 1 from rfl, show (40 : Int32).toInt = 40 from rfl, show (1 : Int64).toInt = 1 from rfl, show (40 : Int64).toInt = 40 from rfl]
  by_cases e : wi a 0 ((N : Int) - 1) = true
  · rw [ifb_t e, ifb_t e]
    obtain ⟨i, hi, ei⟩ := wi_st e
    subst ei
    by_cases e2 : wi p 1 40 = true
    · rw [ifb_t e2, ifb_t e2]
      obtain ⟨q, q1, q2, eq⟩ := wi_nn (a := 1) (b := 40) e2
      subst eq
      obtain ⟨L, rg, pl, ho⟩ := hop (Or.inl (by omega))
      obtain ⟨w1, w0⟩ := wd_open h5 s3 s4 hN hB (Or.inl (by omega))
      have hF := ho.2.1
      have ep := hF.1.1.2.2.2.2.1 i hi
      obtain ⟨was', undone', g7', pf', k1, k2, k3⟩ := keep_ev h6 (op_paS ho)
      have oo : oEq said (upd said (11 + 4 * i + 1) (nn q)) := oEq_upd (by omega) (by omega)
      rw [rq_inb (by omega) (by omega), nn_tn (by omega), ep, priceOf_ev (by omega), bs]
      by_cases e3 : nn q = said (11 + 4 * i + 1)
      · rw [if_pos e3, if_pos e3.symm]
        exact ⟨_, g5, g7, pf, said, was, undone, rfl, rfl, h0⟩
      · rw [if_neg e3, if_neg (fun h => e3 h.symm), k1, k2, bs, bs, bs, rq_inb (by omega) (by omega), ltp, rq_inb (by omega) (by omega), ltp, li11, li4, li1, nn_mul, nn_add, nn_add, rq_inb (by omega) (by omega), ltp, nn_tn (by omega)]
        refine ⟨_, _, g7', pf', upd said (11 + 4 * i + 1) (nn q), was', undone', rfl, rfl, h1, h2, h3, R, hR, wd_act h5 oo w1 w0 (op_act ho oo ho.1 (fR_price ho.1 hF hi q1 q2) ?_ ?_), paR_o k3 oo, h7⟩
        · exact bd_ring ho.2.2.1 hN (fun k hk hne => upd_o (fun e => hne ⟨i, hi, e⟩))
        · obtain ⟨m, hm, em⟩ := ho.2.2.2.1
          exact ⟨m, hm, by rw [upd_o (by omega)]; exact em⟩
    · rw [ifb_f e2, ifb_f e2]
      exact ⟨_, g5, g7, pf, said, was, undone, rfl, rfl, h0⟩
  · rw [ifb_f e, ifb_f e]
    exact ⟨_, g5, g7, pf, said, was, undone, rfl, rfl, h0⟩
end acts
