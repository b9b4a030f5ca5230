section mfit
variable {sign clause clauses : Nat → Int32} {force : Int32} {ru : Option RU} {d : Nat → Int32} {N B L n : Nat} {rg pl : Nat → Nat} {nr : Nat → Nt}
theorem l39_ev {z : Nat → Int64} {tp : Int32} {wd : Nat → Int64} {said : Nat → Int32} {r : Nat} {x2 is : Int32} {m : Nat} {K} (hr : r < 7) (hm : m < 1000) :
    ∀ (k s f : Nat) (tt : Nat → Int32), s + k = 6 → k < f →
      ∃ tt', m_areAllSo_l39 sign clause clauses z tp wd said force (-nn 1) (nn 0) (nn r) x2 is (nn m) K f (nn s) tt = K is (nn (m + 1)) z tp wd said (nn 0) tt' ∧
        (¬ nn m = x2 → tt' = tt) ∧ (nn m = x2 → (∀ j, ¬ (6 * r + s ≤ j ∧ j < 6 * r + 6) → tt' j = tt j) ∧ ∀ q, s ≤ q → q < 6 → tt' (6 * r + q) = said (11 + 4 * q + 2)) := by
  intro k
  induction k with
  | zero =>
    intro s f tt h1 h2
    match f, h2 with
    | f + 1, _ =>
    unfold m_areAllSo_l39
    rw [li6, ifle_t (by omega) (by omega), li1, nn_add]
    exact ⟨tt, rfl, fun _ => rfl, fun _ => ⟨fun _ _ => rfl, fun q h3 h4 => by omega⟩⟩
  | succ k ih =>
    intro s f tt h1 h2
    match f, h2 with
    | f + 1, h2 =>
    unfold m_areAllSo_l39
    simp only [lt, li6, li1, nn_mul, nn_add]
    rw [ifle_f (by omega) (by omega)]
    by_cases e : nn m = x2
    · rw [if_pos e, tillOf_ev (by omega), bs, rq_inb (by omega) (by omega), nn_tn (by omega)]
      obtain ⟨tt', h3, h4, h5⟩ := ih (s + 1) f (upd tt (6 * r + s) (said (11 + 4 * s + 2))) (by omega) (by omega)
      refine ⟨tt', h3, fun h => absurd e h, fun _ => ?_⟩
      obtain ⟨h6, h7⟩ := h5 e
      refine ⟨fun j hj => ?_, fun q h8 h9 => ?_⟩
      · rw [h6 j (by omega), upd_o (by omega)]
      · by_cases e2 : q = s
        · rw [e2, h6 _ (by omega), upd_s]
        · exact h7 q (by omega) h9
    · rw [if_neg e]
      exact ⟨tt, rfl, fun _ => rfl, fun h => absurd h e⟩
def pmB (ru : Option RU) (N B : Nat) (rg pl : Nat → Nat) (d : Nat → Int32) (nr : Nat → Nt) (n m : Nat) : Bool := allB (fun i => decide ((nr i).1 < m → nsB ru N B rg pl d (nr i) = true)) n 0
def ftB (ru : Option RU) (N B : Nat) (rg pl : Nat → Nat) (d : Nat → Int32) (nr : Nat → Nt) (n : Nat) : Bool := allB (fun i => nsB ru N B rg pl d (nr i)) n 0
theorem pm_iff {m : Nat} : pmB ru N B rg pl d nr n m = true ↔ ∀ i, i < n → (nr i).1 < m → nsB ru N B rg pl d (nr i) = true := by
  unfold pmB
  rw [allB_iff]
  constructor
  · intro h i hi
    have := h i (by omega) (by omega)
    exact of_decide_eq_true this
  · intro h j _ hj
    exact decide_eq_true (h j (by omega))
theorem ft_iff : ftB ru N B rg pl d nr n = true ↔ ∀ i, i < n → nsB ru N B rg pl d (nr i) = true := by
  unfold ftB
  rw [allB_iff]
  exact ⟨fun h i hi => h i (by omega) (by omega), fun h j _ hj => h j (by omega)⟩
theorem nr_oEq {d' : Nat → Int32} (h : nrR N n nr d) (e : ∀ k, 125 ≤ k → k < 156 → d' k = d k) : nrR N n nr d' := by
  obtain ⟨h1, h2, h3⟩ := h
  refine ⟨h1, by rw [e _ (by omega) (by omega)]; exact h2, fun i hi => ?_⟩
  obtain ⟨a1, a2, a3, a4, a5⟩ := h3 i hi
  exact ⟨a1, a2, by rw [e _ (by omega) (by omega)]; exact a3, by rw [e _ (by omega) (by omega)]; exact a4, by rw [e _ (by omega) (by omega)]; exact a5⟩
theorem areAllSo_l5_ev (hfr : frR sign clause clauses force ru) (hr : rOK N rg pl) (hf : fxR N B L rg d) (hn : nrR N n nr d) {r : Nat} (hr7 : r < 7) (x2 : Int32) :
    ∀ (k m f : Nat) (z : Nat → Int64) (tp : Int32) (wd : Nat → Int64) (tt : Nat → Int32), m + k = 61 → k < f →
      ∃ z' tp' wd' tt', m_areAllSo_l5 sign clause clauses force (-nn 1) (nn r) x2 f (b01 (pmB ru N B rg pl d nr n m = true)) (nn m) z tp wd (tjD ru N B rg pl d m) (nn 0) tt = some (b01 (ftB ru N B rg pl d nr n = true), z', tp', wd', tjD ru N B rg pl d 61, nn 0, tt') ∧
        (∀ j, ¬ (6 * r ≤ j ∧ j < 6 * r + 6) → tt' j = tt j) ∧ (∀ t, x2 = nn t → m ≤ t → t ≤ 60 → ∀ s, s < 6 → tt' (6 * r + s) = tjD ru N B rg pl d (t + 1) (11 + 4 * s + 2)) ∧ (∀ t, x2 = nn t → t < m → tt' = tt) := by
  have hN := hf.1
  intro k
  induction k with
  | zero =>
    intro m f z tp wd tt h1 h2
    match f, h2 with
    | f + 1, _ =>
    have hm : m = 61 := by omega
    subst hm
    refine ⟨z, tp, wd, tt, ?_, fun _ _ => rfl, fun t _ h3 h4 => by omega, fun _ _ _ => rfl⟩
    unfold m_areAllSo_l5
    rw [li60, iflt_t (by omega) (by omega), rq_bob]
    have : pmB ru N B rg pl d nr n 61 = ftB ru N B rg pl d nr n := by
      rw [Bool.eq_iff_iff, pm_iff, ft_iff]
      exact ⟨fun h i hi => h i hi (by have := (hn.2.2 i hi).1; omega), fun h i hi _ => h i hi⟩
    rw [this]
  | succ k ih =>
    intro m f z tp wd tt h1 h2
    match f, h2 with
    | f + 1, h2 =>
    have hfm : fxR N B L rg (tjD ru N B rg pl d m) := fx_mins hr m d (nn 0) hf
    obtain ⟨z', tp', wd', hz⟩ := passes_ev hfr acR_all hr hfm z tp wd
    have hT : (minS ru N rg pl acA B (tjD ru N B rg pl d m)).1 = tjD ru N B rg pl d (m + 1) := tj_s m
    rw [hT] at hz
    have hn' : nrR N n nr (tjD ru N B rg pl d (m + 1)) := nr_oEq hn (fun k hk _ => minsS_o hN hf.2.1 hr (by omega) _ _ _)
    have hA := areNotesSo_ev (m := m) hN (by omega) hn'
    have fin : ∀ c : Bool, c = pmB ru N B rg pl d nr n (m + 1) → ∃ z'' tp'' wd'' tt', m_areAllSo_l39 sign clause clauses z' tp' wd' (tjD ru N B rg pl d (m + 1)) force (-nn 1) (nn 0) (nn r) x2 (b01 (c = true)) (nn m) (m_areAllSo_l5 sign clause clauses force (-nn 1) (nn r) x2 f) FU (nn 0) tt = some (b01 (ftB ru N B rg pl d nr n = true), z'', tp'', wd'', tjD ru N B rg pl d 61, nn 0, tt') ∧
        (∀ j, ¬ (6 * r ≤ j ∧ j < 6 * r + 6) → tt' j = tt j) ∧ (∀ t, x2 = nn t → m ≤ t → t ≤ 60 → ∀ s, s < 6 → tt' (6 * r + s) = tjD ru N B rg pl d (t + 1) (11 + 4 * s + 2)) ∧ (∀ t, x2 = nn t → t < m → tt' = tt) := by
      intro c hc
      subst hc
      obtain ⟨t1, hz1, ha, hb⟩ := l39_ev (sign := sign) (clause := clause) (clauses := clauses) (force := force) (z := z') (tp := tp') (wd := wd') (said := tjD ru N B rg pl d (m + 1)) (x2 := x2) (is := b01 (pmB ru N B rg pl d nr n (m + 1) = true)) (K := m_areAllSo_l5 sign clause clauses force (-nn 1) (nn r) x2 f) hr7 (show m < 1000 by omega) 6 0 FU tt (by omega) (by unfold FU; omega)
      obtain ⟨z2, tp2, wd2, tt', hz2, hj, ht, hlt⟩ := ih (m + 1) f z' tp' wd' t1 (by omega) (by omega)
      refine ⟨z2, tp2, wd2, tt', by rw [hz1]; exact hz2, fun j hj2 => ?_, fun t e1 e2 e3 s hs => ?_, fun t e1 e2 => ?_⟩
      · rw [hj j hj2]
        by_cases e : nn m = x2
        · exact (hb e).1 j (by omega)
        · rw [ha e]
      · by_cases e : t = m
        · subst e
          rw [hlt t e1 (by omega)]
          exact (hb e1.symm).2 s (by omega) hs
        · exact ht t e1 (by omega) e3 s hs
      · rw [hlt t e1 (by omega)]
        exact ha (fun e => by rw [e1, nn_inj (by omega) (by omega)] at e; omega)
    unfold m_areAllSo_l5
    rw [li60, iflt_f (by omega) (by omega), hz, bs, li0, li1]
    have stp : pmB ru N B rg pl d nr n (m + 1) = true ↔ pmB ru N B rg pl d nr n m = true ∧ ∀ i, i < n → (nr i).1 = m → nsB ru N B rg pl d (nr i) = true := by
      rw [pm_iff, pm_iff]
      constructor
      · intro h; exact ⟨fun i hi hl => h i hi (by omega), fun i hi hl => h i hi (by omega)⟩
      · intro h i hi hl
        by_cases e : (nr i).1 = m
        · exact h.2 i hi e
        · exact h.1 i hi (by omega)
    by_cases e : pmB ru N B rg pl d nr n m = true
    · rw [if_neg (by rw [b01_0]; exact fun h => h e), hA, bs]
      generalize hc : allB (fun i => decide ((nr i).1 = m → tjD ru N B rg pl d (m + 1) (11 + 4 * (nr i).2.1 + 2) = (nr i).2.2)) n 0 = c
      have hc2 : c = pmB ru N B rg pl d nr n (m + 1) := by
        rw [← hc, Bool.eq_iff_iff, stp, allB_iff]
        constructor
        · intro h
          refine ⟨e, fun i hi h3 => ?_⟩
          have := of_decide_eq_true (h i (by omega) (by omega)) h3
          unfold nsB; rw [h3]; exact decide_eq_true this
        · intro h j _ hj
          refine decide_eq_true (fun h3 => ?_)
          have := h.2 j (by omega) h3
          unfold nsB at this; rw [h3] at this
          exact of_decide_eq_true this
      by_cases e2 : c = true
      · rw [if_neg (by rw [b01_0]; exact fun h => h e2)]
        have := fin c hc2
        rw [b01_t e2] at this
        exact this
      · rw [if_pos (by rw [b01_0]; exact e2)]
        have := fin c hc2
        rw [b01_f e2] at this
        exact this
    · rw [if_pos (by rw [b01_0]; exact e)]
      have hf2 : pmB ru N B rg pl d nr n (m + 1) = false := by
        rw [← Bool.not_eq_true, stp]; exact fun h => e h.1
      have := fin false hf2.symm
      rw [b01_f (by decide)] at this
      exact this
theorem areAllSo_ev (hfr : frR sign clause clauses force ru) (hr : rOK N rg pl) (hf : fxR N B L rg d) (hn : nrR N n nr d) {r : Nat} (hr7 : r < 7) (x2 : Int32) (z : Nat → Int64) (tp : Int32) (wd : Nat → Int64) (tt : Nat → Int32) :
      ∃ z' tp' wd' tt', m_areAllSo (nn r) x2 sign clause clauses z tp wd d force (-nn 1) (nn 0) tt = some (b01 (ftB ru N B rg pl d nr n = true), z', tp', wd', tjD ru N B rg pl d 61, nn 0, tt') ∧
        (∀ j, ¬ (6 * r ≤ j ∧ j < 6 * r + 6) → tt' j = tt j) ∧ (∀ t, x2 = nn t → t ≤ 60 → ∀ s, s < 6 → tt' (6 * r + s) = tjD ru N B rg pl d (t + 1) (11 + 4 * s + 2)) := by
  obtain ⟨z', tp', wd', tt', h1, h2, h3, _⟩ := areAllSo_l5_ev hfr hr hf hn hr7 x2 61 0 FU z tp wd tt (by omega) (by unfold FU; omega)
  have h0 : pmB ru N B rg pl d nr n 0 = true := pm_iff.2 (fun i _ h => by omega)
  rw [b01_t h0] at h1
  exact ⟨z', tp', wd', tt', h1, h2, fun t e1 e2 => h3 t e1 (by omega) e2⟩
end mfit
/-- notes as the class has them: sorted by minutes -/
def ncR (n : Nat) (nc : Nat → Nt) (g : tyNotes) : Prop := g.2.2.2 = nn n ∧ (∀ i, i < n → g.1 i = nn (nc i).1 ∧ g.2.1 i = nn (nc i).2.1 ∧ g.2.2.1 i = (nc i).2.2) ∧ ∀ i j, i ≤ j → j < n → (nc i).1 ≤ (nc j).1
section cfit
variable {d : Nat → Int32} {N B L n : Nat} {rg pl : Nat → Nat} {nc : Nat → Nt} {g0 : tyNotes}
theorem fitr_l2_ev {r : RU} {len : Nat} {q0 : tyRule} (hR : rcR q0.1 q0.2.1 q0.2.2.1 q0.2.2.2.1 q0.2.2.2.2.1 q0.2.2.2.2.2.1 q0.2.2.2.2.2.2.2.1 r len) (hr : rOK N rg pl) (hnc : ncR n nc g0) (hn10 : n ≤ 10) (hb : ∀ i, i < n → (nc i).1 ≤ 60 ∧ (nc i).2.1 < N) (hm0 : d 10 = nn 0) :
    ∀ (k i f m : Nat) (g1 : tyFair) (q : tyRule), i + k = n → k < f → (∀ j, i ≤ j → j < n → m ≤ (nc j).1 + 1) → m ≤ 61 → fR N B L rg pl (tjD (some r) N B rg pl d m) g1 → tjD (some r) N B rg pl d m 10 = nn m → rqE q0 q →
      ∃ g1' q', mNotes_fitrr_l2 g0 f (nn i) g1 q = some (b01 (allB (fun i => nsB (some r) N B rg pl d (nc i)) k i = true), g1', q') ∧ rqE q0 q' := by
  obtain ⟨c1, c2, c3⟩ := hnc
  have min10 : ∀ k, tjD (some r) N B rg pl d k 10 = nn k → tjD (some r) N B rg pl d (k + 1) 10 = nn (k + 1) → True := fun _ _ _ => trivial
  intro k
  induction k with
  | zero =>
    intro i f m g1 q h1 h2 h3 h4 hF h10 hq
    match f, h2 with
    | f + 1, _ =>
    unfold mNotes_fitrr_l2
    rw [c1, ifle_t (by omega) (by omega), li1]
    exact ⟨g1, q, by rw [b01_t]; rfl, hq⟩
  | succ k ih =>
    intro i f m g1 q h1 h2 h3 h4 hF h10 hq
    match f, h2 with
    | f + 1, h2 =>
    have hN := hF.1.2.2.2.2.1.1
    have hB := hF.1.2.2.2.2.1.2.1
    have ci := c2 i (by omega)
    have bi := hb i (by omega)
    have hmi := h3 i (by omega) (by omega)
    have hmin : g1.2.2.2.2.1 = nn m := by rw [hF.1.1.2.2.2.1, h10]
    obtain ⟨mi, go, ti, we, so, pu, ha, wd', z', hgo, hF5⟩ := gor_g (M := (nc i).1 + 1 - m) (rcR_E hR hq) acR_all hr (by omega) hF q.2.2.2.2.2.2.2.2.1 q.2.2.2.2.2.2.2.2.2
    have hT : (minsS (some r) N rg pl acA B ((nc i).1 + 1 - m) (tjD (some r) N B rg pl d m) (nn 0)).1 = tjD (some r) N B rg pl d ((nc i).1 + 1) := by
      unfold tjD
      rw [show (nc i).1 + 1 = m + ((nc i).1 + 1 - m) by omega, mins_app, show m + ((nc i).1 + 1 - m) - m = (nc i).1 + 1 - m by omega]
      exact mins_p _ _ _ _
    rw [hT] at hF5
    have hti : ti (nc i).2.1 = tjD (some r) N B rg pl d ((nc i).1 + 1) (11 + 4 * (nc i).2.1 + 2) := hF5.1.2.1.2.1 _ bi.2
    unfold mNotes_fitrr_l2 mNotes_passedBehind
    rw [c1, ifle_f (by omega) (by omega), rq_inb (by omega) (by omega), nn_tn (show i < 2147483648 by omega), ci.1, ci.2.1, ci.2.2, bs, li1, nn_add, hmin, nn_sub (by omega) (by omega), nn_add]
    have hgo' := hgo
    rw [hmin] at hgo'
    rw [hgo', bs, rq_inb (by omega) (by omega), rq_inb (by omega) (by omega), rq_inb (by omega) (by omega)]
    dsimp only
    rw [allB_s]
    by_cases e : nsB (some r) N B rg pl d (nc i) = true
    · have e' : ti (nc i).2.1 = (nc i).2.2 := by rw [hti]; exact of_decide_eq_true e
      rw [if_pos (by rw [nn_tn (by omega)]; exact e')]
      simp only [if_pos e]
      have h10' : tjD (some r) N B rg pl d ((nc i).1 + 1) 10 = nn ((nc i).1 + 1) := by
        have gen : ∀ k, tjD (some r) N B rg pl d k 10 = nn k := by
          intro k
          induction k with
          | zero => exact hm0
          | succ k ih2 =>
            rw [← tj_s k]
            show clsD N rg pl (trS (some r) N rg pl acA B 0 (tjD (some r) N B rg pl d k) (nn 0)).1 10 = _
            rw [clsD_10, trS_o hN hr (by omega) _ _ _ _ (by omega), ih2, nn_add]
        exact gen _
      exact ih (i + 1) f ((nc i).1 + 1) _ (qUp q wd' z') (by omega) (by omega) (fun j hj1 hj2 => by have := c3 i j (by omega) hj2; omega) (by omega) hF5 h10' hq.up
    · have e' : ¬ ti (nc i).2.1 = (nc i).2.2 := by rw [hti]; exact fun h => e (decide_eq_true h)
      rw [if_neg (by rw [nn_tn (by omega)]; exact e')]
      simp only [if_neg e]
      rw [li0, b01_f (by decide)]
      exact ⟨_, _, rfl, hq.up⟩
theorem fitn_l2_ev  (hr : rOK N rg pl) (hnc : ncR n nc g0) (hn10 : n ≤ 10) (hb : ∀ i, i < n → (nc i).1 ≤ 60 ∧ (nc i).2.1 < N) (hm0 : d 10 = nn 0) :
    ∀ (k i f m : Nat) (g1 : tyFair) , i + k = n → k < f → (∀ j, i ≤ j → j < n → m ≤ (nc j).1 + 1) → m ≤ 61 → fR N B L rg pl (tjD none N B rg pl d m) g1 → tjD none N B rg pl d m 10 = nn m → 
      ∃ g1' , mNotes_fitrn_l2 g0 f (nn i) g1  = some (b01 (allB (fun i => nsB none N B rg pl d (nc i)) k i = true), g1')  := by
  obtain ⟨c1, c2, c3⟩ := hnc
  have min10 : ∀ k, tjD none N B rg pl d k 10 = nn k → tjD none N B rg pl d (k + 1) 10 = nn (k + 1) → True := fun _ _ _ => trivial
  intro k
  induction k with
  | zero =>
    intro i f m g1  h1 h2 h3 h4 hF h10 
    match f, h2 with
    | f + 1, _ =>
    unfold mNotes_fitrn_l2
    rw [c1, ifle_t (by omega) (by omega), li1]
    exact ⟨g1,  by rw [b01_t]; rfl⟩
  | succ k ih =>
    intro i f m g1  h1 h2 h3 h4 hF h10 
    match f, h2 with
    | f + 1, h2 =>
    have hN := hF.1.2.2.2.2.1.1
    have hB := hF.1.2.2.2.2.1.2.1
    have ci := c2 i (by omega)
    have bi := hb i (by omega)
    have hmi := h3 i (by omega) (by omega)
    have hmin : g1.2.2.2.2.1 = nn m := by rw [hF.1.1.2.2.2.1, h10]
    obtain ⟨mi, go, ti, we, so, pu, ha,  hgo, hF5⟩ := gon_g (M := (nc i).1 + 1 - m)  acR_all hr (by omega) hF 
    have hT : (minsS none N rg pl acA B ((nc i).1 + 1 - m) (tjD none N B rg pl d m) (nn 0)).1 = tjD none N B rg pl d ((nc i).1 + 1) := by
      unfold tjD
      rw [show (nc i).1 + 1 = m + ((nc i).1 + 1 - m) by omega, mins_app, show m + ((nc i).1 + 1 - m) - m = (nc i).1 + 1 - m by omega]
      exact mins_p _ _ _ _
    rw [hT] at hF5
    have hti : ti (nc i).2.1 = tjD none N B rg pl d ((nc i).1 + 1) (11 + 4 * (nc i).2.1 + 2) := hF5.1.2.1.2.1 _ bi.2
    unfold mNotes_fitrn_l2 mNotes_passedBehind
    rw [c1, ifle_f (by omega) (by omega), rq_inb (by omega) (by omega), nn_tn (show i < 2147483648 by omega), ci.1, ci.2.1, ci.2.2, bs, li1, nn_add, hmin, nn_sub (by omega) (by omega), nn_add]
    have hgo' := hgo
    rw [hmin] at hgo'
    rw [hgo', bs, rq_inb (by omega) (by omega), rq_inb (by omega) (by omega), rq_inb (by omega) (by omega)]
    dsimp only
    rw [allB_s]
    by_cases e : nsB none N B rg pl d (nc i) = true
    · have e' : ti (nc i).2.1 = (nc i).2.2 := by rw [hti]; exact of_decide_eq_true e
      rw [if_pos (by rw [nn_tn (by omega)]; exact e')]
      simp only [if_pos e]
      have h10' : tjD none N B rg pl d ((nc i).1 + 1) 10 = nn ((nc i).1 + 1) := by
        have gen : ∀ k, tjD none N B rg pl d k 10 = nn k := by
          intro k
          induction k with
          | zero => exact hm0
          | succ k ih2 =>
            rw [← tj_s k]
            show clsD N rg pl (trS none N rg pl acA B 0 (tjD none N B rg pl d k) (nn 0)).1 10 = _
            rw [clsD_10, trS_o hN hr (by omega) _ _ _ _ (by omega), ih2, nn_add]
        exact gen _
      exact ih (i + 1) f ((nc i).1 + 1) _  (by omega) (by omega) (fun j hj1 hj2 => by have := c3 i j (by omega) hj2; omega) (by omega) hF5 h10' 
    · have e' : ¬ ti (nc i).2.1 = (nc i).2.2 := by rw [hti]; exact fun h => e (decide_eq_true h)
      rw [if_neg (by rw [nn_tn (by omega)]; exact e')]
      simp only [if_neg e]
      rw [li0, b01_f (by decide)]
      exact ⟨_,  rfl⟩
end cfit
