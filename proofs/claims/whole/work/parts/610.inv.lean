/-! the invariant of class and reference -/
def tpR (g : tyTape) (tape : Nat → Int32) (taped : Int32) : Prop := ∃ T, T ≤ 400 ∧ g.2 = nn T ∧ taped = nn T ∧ (∀ i, i < T → g.1 i = tape i) ∧ (∀ i, i < T → fits .byte (.int (g.1 i)) = true)
def rlR (R : Nat) (g0 : tyNextStall) (pr : Nat → tyRule) (rules : Int32) (sign clause clauses : Nat → Int32) : Prop := R ≤ 6 ∧ g0.1 = nn R ∧ rules = nn R ∧ ∀ t, t < R → ∃ r len, rcR (pr t).1 (pr t).2.1 (pr t).2.2.1 (pr t).2.2.2.1 (pr t).2.2.2.2.1 (pr t).2.2.2.2.2.1 (pr t).2.2.2.2.2.2.2.1 r len ∧ rmR sign clause clauses t r len
/-- a fair that is open, as it was told, as it is, and its notes -/
def opR (N B L : Nat) (rg pl : Nat → Nat) (said : Nat → Int32) (told now : tyFair) (no : tyNotes) : Prop :=
  rOK N rg pl ∧ fR N B L rg pl said now ∧ bdR N said ∧ (∃ m, m ≤ 999 ∧ said 10 = nn m) ∧ fR N B L (fun k => k) (fun k => k) (begD said) told ∧ bdR N (begD said) ∧ ∃ n nr nc, nrR N n nr said ∧ ntE N n nr nc no
def clR (said : Nat → Int32) (now : tyFair) (no : tyNotes) : Prop :=
  (said 1 = nn 0 ∧ said 2 = nn 0 ∧ said 3 = nn 0 ∧ said 4 = nn 0 ∧ said 10 = nn 0 ∧ said 155 = nn 0) ∧ (now.1 = nn 0 ∧ now.2.1 = nn 0 ∧ now.2.2.1 = nn 0 ∧ now.2.2.2.1 = nn 0 ∧ now.2.2.2.2.1 = nn 0) ∧ no.2.2.2 = nn 0
def wdR (R : Nat) (said : Nat → Int32) (force x : Int32) (w : tyWorld) (told now : tyFair) (no : tyNotes) : Prop :=
  w.2.1 = force ∧ w.2.2 = x ∧ (∃ X, X < 2147483648 ∧ x = nn X) ∧ (force = -nn 1 ∨ ∃ t, t < R ∧ force = nn t) ∧
  ((w.1 = nn 0 ∧ said 0 = nn 0 ∧ clR said now no) ∨ (w.1 = nn 1 ∧ said 0 = nn 1 ∧ ∃ N B L rg pl, opR N B L rg pl said told now no))
/-- how it was ahead of an act -/
def udD (said was : Nat → Int32) (i : Nat) : Nat → Int32 := fun k => if 10 ≤ k ∧ k < 89 then was (79 * i + (k - 10)) else said k
def paS (d : Nat → Int32) (g : tyFair) : Prop := ∃ N B L rg pl, rOK N rg pl ∧ fR N B L rg pl d g ∧ bdR N d ∧ ∃ m, m ≤ 999 ∧ d 10 = nn m
def paR (said was : Nat → Int32) (undone : Int32) (g7 : tyPast) (pf : Nat → tyFair) : Prop :=
  ∃ u nx, u ≤ 20 ∧ nx < 20 ∧ undone = nn u ∧ g7.2 = nn u ∧ g7.1 = nn nx ∧ ∀ i, i < u → paS (udD said was i) (pf ((nx + 20 - u + i) % 20))
def imD (images : Nat → Int32) (k : Nat) : Nat → Int32 := fun i => images (156 * k + i)
def imR (R : Nat) (mc : Nat → Int32) (pw : Nat → tyWorld) (pt pn : Nat → tyFair) (po : Nat → tyNotes) (images iforce ix made : Nat → Int32) : Prop :=
  ∀ k, k < 4 → (made k = nn 0 ∧ mc k = nn 0) ∨ (made k = nn 1 ∧ mc k = nn 1 ∧ wdR R (imD images k) (iforce k) (ix k) (pw k) (pt k) (pn k) (po k))
def INV (g0 : tyNextStall) (g1 : tyTape) (g3 : tyWorld) (g4 g5 : tyFair) (g6 : tyNotes) (g7 : tyPast) (pr : Nat → tyRule) (pf : Nat → tyFair) (pw : Nat → tyWorld) (pt pn : Nat → tyFair) (po : Nat → tyNotes)
    (tape : Nat → Int32) (taped rules : Int32) (sign clause clauses said : Nat → Int32) (force x absent rain : Int32) (was : Nat → Int32) (undone : Int32) (images iforce ix made : Nat → Int32) : Prop :=
  tpR g1 tape taped ∧ absent = -nn 1 ∧ rain = nn 0 ∧ ∃ R, rlR R g0 pr rules sign clause clauses ∧ wdR R said force x g3 g4 g5 g6 ∧ paR said was undone g7 pf ∧ imR R g0.2 pw pt pn po images iforce ix made
section simple
variable {g0 : tyNextStall} {g1 : tyTape} {g3 : tyWorld} {g4 g5 : tyFair} {g6 : tyNotes} {g7 : tyPast} {pr : Nat → tyRule} {pf : Nat → tyFair} {pw : Nat → tyWorld} {pt pn : Nat → tyFair} {po : Nat → tyNotes}
  {tape : Nat → Int32} {taped rules : Int32} {sign clause clauses said : Nat → Int32} {force x absent rain : Int32} {was : Nat → Int32} {undone : Int32} {images iforce ix made : Nat → Int32}
theorem INV_pr {pr' : Nat → tyRule} (h : INV g0 g1 g3 g4 g5 g6 g7 pr pf pw pt pn po tape taped rules sign clause clauses said force x absent rain was undone images iforce ix made) (e : prE pr pr') : INV g0 g1 g3 g4 g5 g6 g7 pr' pf pw pt pn po tape taped rules sign clause clauses said force x absent rain was undone images iforce ix made := by
  obtain ⟨h1, h2, h3, R, ⟨a1, a2, a3, a4⟩, h5, h6, h7⟩ := h
  refine ⟨h1, h2, h3, R, ⟨a1, a2, a3, fun t ht => ?_⟩, h5, h6, h7⟩
  obtain ⟨r, len, b1, b2⟩ := a4 t ht
  exact ⟨r, len, rcR_E b1 (e t), b2⟩
theorem nar_fits (v : Int32) : fits .byte (.int (vp_nar .byte v.toInt8.toInt32)) = true := by
  have e : vp_nar .byte v.toInt8.toInt32 = v.toInt8.toInt32.toInt8.toInt32 := rfl
  rw [e]
  have h1 := Int8.le_toInt v.toInt8
  have h2 := Int8.toInt_lt v.toInt8
  have e1 : (-128 : Int32).toInt = -128 := by decide
  have e2 : (127 : Int32).toInt = 127 := by decide
  simp [fits]
  rw [Int32.le_iff_toInt_le, Int32.le_iff_toInt_le, Int8.toInt_toInt32, e1, e2]
  omega
theorem four_ev (v : Int32) {T : Nat} {g : tyTape} {tp : Nat → Int32} (hT : T + 4 ≤ 400) (h1 : ∀ i, i < T → g.1 i = tp i) (h2 : ∀ i, i < T → fits .byte (.int (g.1 i)) = true) :
    ∃ cb tb, mTape_add v g.1 (nn T) = some (cb, nn (T + 4)) ∧ m_four v tp (nn T) = some (tb, nn (T + 4)) ∧ (∀ i, i < T + 4 → cb i = tb i) ∧ (∀ i, i < T + 4 → fits .byte (.int (cb i)) = true) := by
  have step : ∀ (k f : Nat) (sh : Int32) (T : Nat) (c t : Nat → Int32), sh = (if k = 0 then -nn 8 else nn (8 * (k - 1))) → k ≤ 4 → k < f → T + k ≤ 400 → (∀ i, i < T → c i = t i) → (∀ i, i < T → fits .byte (.int (c i)) = true) →
      ∃ cb tb, mTape_add_l3 v f sh c (nn T) = some (cb, nn (T + k)) ∧ m_four_l3 v f sh t (nn T) = some (tb, nn (T + k)) ∧ (∀ i, i < T + k → cb i = tb i) ∧ (∀ i, i < T + k → fits .byte (.int (cb i)) = true) := by
    intro k
    induction k with
    | zero =>
      intro f sh T c t hs hk hf hT h1 h2
      match f, hf with
      | f + 1, _ =>
      rw [if_pos rfl] at hs
      subst hs
      unfold mTape_add_l3 m_four_l3
      have hn : (-nn 8 : Int32) < 0 := by decide
      rw [if_pos hn, if_pos hn]
      exact ⟨c, t, rfl, rfl, h1, h2⟩
    | succ k ih =>
      intro f sh T c t hs hk hf hT h1 h2
      match f, hf with
      | f + 1, hf =>
      rw [if_neg (by omega), Nat.add_sub_cancel] at hs
      subst hs
      unfold mTape_add_l3 m_four_l3
      rw [li0, iflt_f (by omega) (by omega), iflt_f (by omega) (by omega), li400, ifle_f (by omega) (by omega), rq_inb (by omega) (by omega), rq_inb (by omega) (by omega), nn_tn (by omega), ltp, ltp, ltp, ltp, li1, nn_add]
      have es : nn (8 * k) + (-8 : Int32) = if k = 0 then -nn 8 else nn (8 * (k - 1)) := by
        by_cases e : k = 0
        · subst e; rw [if_pos rfl]; decide
        · rw [if_neg e, show nn (8 * k) = nn (8 * (k - 1)) + nn 8 from by rw [nn_add]; congr 1; omega, Int32.add_assoc, show nn 8 + (-8 : Int32) = 0 from by decide, Int32.add_zero]
      obtain ⟨cb, tb, a1, a2, a3, a4⟩ := ih f _ (T + 1) (upd c T (vp_nar .byte (v >>> (nn (8 * k) &&& 31)).toInt8.toInt32)) (upd t T (vp_nar .byte (v >>> (nn (8 * k) &&& 31)).toInt8.toInt32)) es (by omega) (by omega) (by omega) (fun i hi => by
        by_cases e : i = T
        · rw [e, upd_s, upd_s]
        · rw [upd_o e, upd_o e]; exact h1 i (by omega)) (fun i hi => by
        by_cases e : i = T
        · rw [e, upd_s]; exact nar_fits _
        · rw [upd_o e]; exact h2 i (by omega))
      rw [show T + 1 + k = T + (k + 1) by omega] at a1 a2 a3 a4
      exact ⟨cb, tb, a1, a2, a3, a4⟩
  obtain ⟨cb, tb, a1, a2, a3, a4⟩ := step 4 FU (nn 24) T g.1 tp rfl (by omega) (by unfold FU; omega) hT h1 h2
  refine ⟨cb, tb, ?_, ?_, a3, a4⟩
  · unfold mTape_add; rw [li24]; exact a1
  · unfold m_four; rw [li24]; exact a2
theorem T_feed (h : INV g0 g1 g3 g4 g5 g6 g7 pr pf pw pt pn po tape taped rules sign clause clauses said force x absent rain was undone images iforce ix made) (a b c d e : Int32) : ∃ v g1' tape' taped', mNextStall_feed a b c d e g1 = some (v, g1') ∧ m_feed a b c d e tape taped = some (v, tape', taped') ∧ INV g0 g1' g3 g4 g5 g6 g7 pr pf pw pt pn po tape' taped' rules sign clause clauses said force x absent rain was undone images iforce ix made := by
  obtain ⟨⟨T, t1, t2, t3, t4, t5⟩, hr⟩ := h
  unfold mNextStall_feed m_feed
  rw [t2, t3, li20, li400, nn_add]
  by_cases e1 : T + 20 ≤ 400
  · rw [ifle_t e1 (by omega), ifle_t e1 (by omega)]
    obtain ⟨c1, m1, a1, a2, a3, a4⟩ := four_ev a (g := g1) (T := T) (by omega) t4 t5
    obtain ⟨c2, m2, b1, b2, b3, b4⟩ := four_ev b (g := (c1, taped)) (T := T + 4) (by omega) a3 a4
    obtain ⟨c3, m3, d1, d2, d3, d4⟩ := four_ev c (g := (c2, taped)) (T := T + 4 + 4) (by omega) b3 b4
    obtain ⟨c4, m4, f1, f2, f3, f4⟩ := four_ev d (g := (c3, taped)) (T := T + 4 + 4 + 4) (by omega) d3 d4
    obtain ⟨c5, m5, k1, k2, k3, k4⟩ := four_ev e (g := (c4, taped)) (T := T + 4 + 4 + 4 + 4) (by omega) f3 f4
    dsimp only at b1 d1 f1 k1
    rw [a1, bs, a2, bs]
    dsimp only
    rw [b1, bs, b2, bs]
    dsimp only
    rw [d1, bs, d2, bs]
    dsimp only
    rw [f1, bs, f2, bs]
    dsimp only
    rw [k1, bs, k2, bs]
    exact ⟨_, (c5, _), m5, _, rfl, rfl, ⟨_, by omega, rfl, rfl, k3, k4⟩, hr⟩
  · rw [ifle_f (by omega) (by omega), ifle_f (by omega) (by omega)]
    exact ⟨_, g1, tape, taped, rfl, by rw [t3], ⟨T, t1, t2, t3, t4, t5⟩, hr⟩
theorem T_end (h : INV g0 g1 g3 g4 g5 g6 g7 pr pf pw pt pn po tape taped rules sign clause clauses said force x absent rain was undone images iforce ix made) (n : Int32) : ∃ v g1' taped', mNextStall_end n g1 = some (v, g1') ∧ m_end n taped = some (v, taped') ∧ INV g0 g1' g3 g4 g5 g6 g7 pr pf pw pt pn po tape taped' rules sign clause clauses said force x absent rain was undone images iforce ix made := by
  obtain ⟨⟨T, t1, t2, t3, t4, t5⟩, hr⟩ := h
  unfold mNextStall_end m_end
  rw [within_ev, bs, t2, t3, li0, nn_toInt (k := T) (by omega), show (nn 0).toInt = 0 from rfl]
  by_cases e : wi n 0 (T : Int) = true
  · obtain ⟨k, _, hk, ek⟩ := wi_nn (a := 0) e
    subst ek
    rw [if_neg (by rw [b01_0]; exact fun h => h e), iflt_f (by omega) (by omega), ifle_t hk (by omega)]
    exact ⟨_, (g1.1, nn k), nn k, rfl, rfl, ⟨k, by omega, rfl, rfl, fun i hi => t4 i (by omega), fun i hi => t5 i (by omega)⟩, hr⟩
  · rw [if_pos (by rw [b01_0]; exact e)]
    rw [wi_iff] at e
    refine ⟨_, g1, nn T, rfl, ?_, ⟨T, t1, t2, rfl, t4, t5⟩, hr⟩
    by_cases e1 : n < nn 0
    · rw [if_pos e1]
    · rw [if_neg e1]
      rw [Int32.lt_iff_toInt_lt, show (nn 0).toInt = 0 from rfl] at e1
      rw [if_neg (by rw [Int32.le_iff_toInt_le, nn_toInt (by omega)]; omega)]
end simple
