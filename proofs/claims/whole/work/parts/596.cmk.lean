section cmk
variable {d : Nat → Int32} {N B L : Nat} {rg pl : Nat → Nat} {M : Nat} {g4 : tyFair}
theorem c_awr {r : RU} {len : Nat} {q0 : tyRule} (hR : rcR q0.1 q0.2.1 q0.2.2.1 q0.2.2.2.1 q0.2.2.2.2.1 q0.2.2.2.2.2.1 q0.2.2.2.2.2.2.2.1 r len) (hr : rOK N rg pl) (hF : fR N B L rg pl d g4) (hM : M < 4000) :
    ∀ (k i n : Nat) (t : tyTrials) (g1 : tyFair) (q : tyRule), i + k = B → k < n → rqE q0 q →
      ∃ t' g1' q', mTrials_findAwayrr_l20 g4 (nn M) n (nn i) t g1 q = some (t', g1', q') ∧ t'.1 0 = (bstS (awF (some r) N B rg pl d M) k i (t.1 0) (t.1 1)).1 ∧ t'.1 1 = (bstS (awF (some r) N B rg pl d M) k i (t.1 0) (t.1 1)).2 ∧ rqE q0 q' := by
  have hB := hF.1.2.2.2.2.1.2.1
  have hby : g4.2.2.2.1 = nn B := by rw [hF.1.1.2.2.1, hF.1.2.2.2.2.1.2.2.2.2.2.1]
  intro k
  induction k with
  | zero =>
    intro i n t g1 q h1 h2 hq
    match n, h2 with
    | n + 1, _ =>
    unfold mTrials_findAwayrr_l20
    rw [hby, ifle_t (by omega) (by omega)]
    exact ⟨t, g1, q, rfl, rfl, rfl, hq⟩
  | succ k ih =>
    intro i n t g1 q h1 h2 hq
    match n, h2 with
    | n + 1, h2 =>
    obtain ⟨g3, hg3, eg3⟩ := from_ev g1 g4
    have hF3 := fR_gEq hF eg3
    obtain ⟨m, go, ti, we, so, pu, ha, wd', z', hgo, hF5⟩ := gor_g (rcR_E hR hq) (acR_x (show i < 6 by omega)) hr hM hF3 q.2.2.2.2.2.2.2.2.1 q.2.2.2.2.2.2.2.2.2
    unfold mTrials_findAwayrr_l20
    rw [hby, ifle_f (by omega) (by omega), hg3, bs, hgo, bs, li1, nn_add, rq_inb (by omega) (by omega)]
    show ∃ t' g1' q', (if awF (some r) N B rg pl d M i ≤ t.1 1 then _ else _) = _ ∧ _
    unfold bstS
    by_cases e : t.1 1 < awF (some r) N B rg pl d M i
    · rw [if_pos e, if_neg (by rw [Int32.le_iff_toInt_le]; rw [Int32.lt_iff_toInt_lt] at e; omega), find_ev, bs]
      exact ih (i + 1) n _ _ (qUp q wd' z') (by omega) (by omega) hq.up
    · rw [if_neg e, if_pos (by rw [Int32.le_iff_toInt_le]; rw [Int32.lt_iff_toInt_lt] at e; omega)]
      exact ih (i + 1) n _ _ (qUp q wd' z') (by omega) (by omega) hq.up
theorem c_mkIr {r : RU} {len : Nat} {q0 : tyRule} (hR : rcR q0.1 q0.2.1 q0.2.2.1 q0.2.2.2.1 q0.2.2.2.2.1 q0.2.2.2.2.2.1 q0.2.2.2.2.2.2.2.1 r len) (hr : rOK N rg pl) (hF : fR N B L rg pl d g4) (hM : M < 4000) {a : Nat} (ha : a < N) {K} :
    ∀ (k b n : Nat) (t : tyTrials) (g1 : tyFair) (q : tyRule), b + k = N → k < n → rqE q0 q →
      ∃ t' g1' q', mTrials_findMakeUprr_l34 g4 (nn M) (nn a) K n (nn b) t g1 q = K (nn (a + 1)) t' g1' q' ∧ (t'.1 0, t'.1 1, t'.1 2) = mkI (mkF (some r) N B rg pl d M) d a k b (t.1 0, t.1 1, t.1 2) ∧ rqE q0 q' := by
  have hN := hF.1.2.2.2.2.1.1
  have hst : g4.2.2.1 = nn N := by rw [hF.1.1.2.1, hF.1.2.2.2.2.1.2.2.2.2.1]
  intro k
  induction k with
  | zero =>
    intro b n t g1 q h1 h2 hq
    match n, h2 with
    | n + 1, _ =>
    unfold mTrials_findMakeUprr_l34
    rw [hst, ifle_t (by omega) (by omega), li1, nn_add]
    exact ⟨t, g1, q, rfl, rfl, hq⟩
  | succ k ih =>
    intro b n t g1 q h1 h2 hq
    match n, h2 with
    | n + 1, h2 =>
    unfold mTrials_findMakeUprr_l34
    rw [hst, ifle_f (by omega) (by omega), cbears_ev (by omega), bs, hF.2.2.2 a ha, li0, li1, nn_add]
    unfold mkI
    by_cases e : gB (d (41 + a)) b = true
    · obtain ⟨g3, hg3, eg3⟩ := from_ev g1 g4
      have hF3 := fR_gEq hF eg3
      obtain ⟨gr, se, pr, bo, hfl, hF4⟩ := flip_ev hr hF3 ha (show b < N by omega)
      obtain ⟨m, go, ti, we, so, pu, hh, wd', z', hgo, hF5⟩ := gor_g (rcR_E hR hq) acR_all hr hM hF4 q.2.2.2.2.2.2.2.2.1 q.2.2.2.2.2.2.2.2.2
      dsimp only at hgo
      rw [if_neg (by rw [b01_0]; exact fun h => h e), if_pos e, hg3, bs, hfl, bs]
      dsimp only
      rw [hgo, bs, rq_inb (by omega) (by omega)]
      show ∃ t' g1' q', (if mkF (some r) N B rg pl d M a b ≤ t.1 0 then _ else _) = _ ∧ _
      by_cases e2 : t.1 0 < mkF (some r) N B rg pl d M a b
      · rw [if_pos e2, if_neg (by rw [Int32.le_iff_toInt_le]; rw [Int32.lt_iff_toInt_lt] at e2; omega), find_ev, bs]
        exact ih (b + 1) n _ _ (qUp q wd' z') (by omega) (by omega) hq.up
      · rw [if_neg e2, if_pos (by rw [Int32.le_iff_toInt_le]; rw [Int32.lt_iff_toInt_lt] at e2; omega)]
        exact ih (b + 1) n _ _ (qUp q wd' z') (by omega) (by omega) hq.up
    · rw [if_pos (by rw [b01_0]; exact e), if_neg e]
      exact ih (b + 1) n t g1 q (by omega) (by omega) hq
theorem c_mkOr {r : RU} {len : Nat} {q0 : tyRule} (hR : rcR q0.1 q0.2.1 q0.2.2.1 q0.2.2.2.1 q0.2.2.2.2.1 q0.2.2.2.2.2.1 q0.2.2.2.2.2.2.2.1 r len) (hr : rOK N rg pl) (hF : fR N B L rg pl d g4) (hM : M < 4000) :
    ∀ (k a n : Nat) (t : tyTrials) (g1 : tyFair) (q : tyRule), a + k = N → k < n → rqE q0 q →
      ∃ t' g1' q', mTrials_findMakeUprr_l22 g4 (nn M) n (nn a) t g1 q = some (t', g1', q') ∧ (t'.1 0, t'.1 1, t'.1 2) = mkO2 (mkF (some r) N B rg pl d M) d N k a (t.1 0, t.1 1, t.1 2) ∧ rqE q0 q' := by
  have hN := hF.1.2.2.2.2.1.1
  have hst : g4.2.2.1 = nn N := by rw [hF.1.1.2.1, hF.1.2.2.2.2.1.2.2.2.2.1]
  intro k
  induction k with
  | zero =>
    intro a n t g1 q h1 h2 hq
    match n, h2 with
    | n + 1, _ =>
    unfold mTrials_findMakeUprr_l22
    rw [hst, ifle_t (by omega) (by omega)]
    exact ⟨t, g1, q, rfl, rfl, hq⟩
  | succ k ih =>
    intro a n t g1 q h1 h2 hq
    match n, h2 with
    | n + 1, h2 =>
    unfold mTrials_findMakeUprr_l22
    rw [hst, ifle_f (by omega) (by omega), li0]
    obtain ⟨t1, g11, q1, hz, ht, hq1⟩ := c_mkIr (K := mTrials_findMakeUprr_l22 g4 (nn M) n) hR hr hF hM (show a < N by omega) N 0 FU t g1 q (by omega) (by unfold FU; omega) hq
    rw [hz]
    unfold mkO2
    rw [← ht]
    exact ih (a + 1) n t1 g11 q1 (by omega) (by omega) hq1
theorem c_swIr {r : RU} {len : Nat} {q0 : tyRule} (hR : rcR q0.1 q0.2.1 q0.2.2.1 q0.2.2.2.1 q0.2.2.2.2.1 q0.2.2.2.2.2.1 q0.2.2.2.2.2.2.2.1 r len) (hr : rOK N rg pl) (hF : fR N B L rg pl d g4) (hM : M < 4000) {wb : Nat → Int32} (hw : ∀ s, s < N → wb s = (minsS (some r) N rg pl acA B M d (nn 0)).1 (11 + 4 * s + 3)) {a : Nat} (ha : a < N) {K} :
    ∀ (k b n : Nat) (t : tyTrials) (g1 : tyFair) (q : tyRule), b + k = N → a < b → k < n → t.2.1 = wb → rqE q0 q →
      ∃ t' g1' q', mTrials_findSwapsrr_l57 g4 (nn M) (nn a) K n (nn b) t g1 q = K (nn (a + 1)) t' g1' q' ∧ (t'.1 0, t'.1 1, t'.1 2) = swI (swB (some r) N B rg pl d M) a k b (t.1 0, t.1 1, t.1 2) ∧ t'.2.1 = wb ∧ rqE q0 q' := by
  have hN := hF.1.2.2.2.2.1.1
  have hst : g4.2.2.1 = nn N := by rw [hF.1.1.2.1, hF.1.2.2.2.2.1.2.2.2.2.1]
  intro k
  induction k with
  | zero =>
    intro b n t g1 q h1 hab h2 hwb hq
    match n, h2 with
    | n + 1, _ =>
    unfold mTrials_findSwapsrr_l57
    rw [hst, ifle_t (by omega) (by omega), li1, nn_add]
    exact ⟨t, g1, q, rfl, rfl, hwb, hq⟩
  | succ k ih =>
    intro b n t g1 q h1 hab h2 hwb hq
    match n, h2 with
    | n + 1, h2 =>
    obtain ⟨g3, hg3, eg3⟩ := from_ev g1 g4
    have hF3 := fR_gEq hF eg3
    have hb : b < N := by omega
    obtain ⟨ri, se, pr, bo, hsw, hF4⟩ := swapPlaces_ev hr hF3 ha hb (show ¬ a = b by omega)
    obtain ⟨m, go, ti, we, so, pu, hh, wd', z', hgo, hF5⟩ := gor_g (rcR_E hR hq) acR_all (mv_ok hr ha hb (by omega)) hM hF4 q.2.2.2.2.2.2.2.2.1 q.2.2.2.2.2.2.2.2.2
    have hwa : we a = _ := hF5.1.2.2.1 a ha
    have hwb2 : we b = _ := hF5.1.2.2.1 b hb
    dsimp only at hgo
    unfold mTrials_findSwapsrr_l57
    rw [hst, ifle_f (by omega) (by omega), hg3, bs, hsw, bs, show (-1 : Int32) = -nn 1 from id rfl]
    dsimp only
    rw [hgo, bs]
    dsimp only
    rw [hwb, rq_inb (by omega) (by omega), rq_inb (by omega) (by omega), rq_inb (by omega) (by omega), rq_inb (by omega) (by omega), li1, nn_add]
    simp only [li0]
    unfold swI
    by_cases e1 : we a ≤ wb a
    · have e : ¬ swB (some r) N B rg pl d M a b = true := by
        unfold swB
        rw [hw a ha, hwa, Int32.le_iff_toInt_le] at e1
        rw [Bool.and_eq_true, decide_eq_true_eq, Int32.lt_iff_toInt_lt]
        intro h; have := h.1; omega
      rw [if_pos (by rw [nn_tn (show a < 2147483648 by omega)]; exact e1), if_neg e]
      exact ih (b + 1) n t _ (qUp q wd' z') (by omega) (by omega) (by omega) hwb hq.up
    · rw [if_neg (by rw [nn_tn (show a < 2147483648 by omega)]; exact e1)]
      by_cases e2 : wb b < we b
      · have e : swB (some r) N B rg pl d M a b = true := by
          unfold swB
          rw [hw a ha, hwa, Int32.le_iff_toInt_le] at e1
          rw [hw b hb, hwb2] at e2
          rw [Bool.and_eq_true, decide_eq_true_eq, decide_eq_true_eq]
          exact ⟨by rw [Int32.lt_iff_toInt_lt]; omega, e2⟩
        rw [if_pos (by rw [nn_tn (show b < 2147483648 by omega)]; exact e2), if_pos e, rq_inb (by omega) (by omega)]
        by_cases e3 : t.1 0 = nn 0
        · rw [if_pos (show t.1 (nn 0).toNatClampNeg = nn 0 from e3), if_pos e3, find_ev, bs, rq_inb (by omega) (by omega), rq_inb (by omega) (by omega)]
          simp only [lt]
          rw [e3]
          exact ih (b + 1) n (upd (upd (upd (upd t.1 0 (nn 0)) 1 (nn a)) 2 (nn b)) 0 (upd (upd (upd t.1 0 (nn 0)) 1 (nn a)) 2 (nn b) 0 + nn 1), t.2) _ (qUp q wd' z') (by omega) (by omega) (by omega) hwb hq.up
        · rw [if_neg (show ¬ t.1 (nn 0).toNatClampNeg = nn 0 from e3), if_neg e3, rq_inb (by omega) (by omega), rq_inb (by omega) (by omega)]
          simp only [lt]
          exact ih (b + 1) n (upd t.1 0 (t.1 0 + nn 1), wb, t.2.2) _ (qUp q wd' z') (by omega) (by omega) (by omega) rfl hq.up
      · have e : ¬ swB (some r) N B rg pl d M a b = true := by
          unfold swB
          rw [hw b hb, hwb2] at e2
          rw [Bool.and_eq_true, decide_eq_true_eq, decide_eq_true_eq]
          intro h; exact e2 h.2
        rw [if_neg (by rw [nn_tn (show b < 2147483648 by omega)]; exact e2), if_neg e]
        exact ih (b + 1) n t _ (qUp q wd' z') (by omega) (by omega) (by omega) hwb hq.up
theorem c_swOr {r : RU} {len : Nat} {q0 : tyRule} (hR : rcR q0.1 q0.2.1 q0.2.2.1 q0.2.2.2.1 q0.2.2.2.2.1 q0.2.2.2.2.2.1 q0.2.2.2.2.2.2.2.1 r len) (hr : rOK N rg pl) (hF : fR N B L rg pl d g4) (hM : M < 4000) {wb : Nat → Int32} (hw : ∀ s, s < N → wb s = (minsS (some r) N rg pl acA B M d (nn 0)).1 (11 + 4 * s + 3)) :
    ∀ (k a n : Nat) (t : tyTrials) (g1 : tyFair) (q : tyRule), a + k = N → k < n → t.2.1 = wb → rqE q0 q →
      ∃ t' g1' q', mTrials_findSwapsrr_l42 g4 (nn M) n (nn a) t g1 q = some (t', g1', q') ∧ (t'.1 0, t'.1 1, t'.1 2) = swO (swB (some r) N B rg pl d M) N k a (t.1 0, t.1 1, t.1 2) ∧ rqE q0 q' := by
  have hN := hF.1.2.2.2.2.1.1
  have hst : g4.2.2.1 = nn N := by rw [hF.1.1.2.1, hF.1.2.2.2.2.1.2.2.2.2.1]
  intro k
  induction k with
  | zero =>
    intro a n t g1 q h1 h2 hwb hq
    match n, h2 with
    | n + 1, _ =>
    unfold mTrials_findSwapsrr_l42
    rw [hst, ifle_t (by omega) (by omega)]
    exact ⟨t, g1, q, rfl, rfl, hq⟩
  | succ k ih =>
    intro a n t g1 q h1 h2 hwb hq
    match n, h2 with
    | n + 1, h2 =>
    unfold mTrials_findSwapsrr_l42
    simp only [lt]
    rw [hst, ifle_f (by omega) (by omega), li1, nn_add]
    obtain ⟨t1, g11, q1, hz, ht, hwb1, hq1⟩ := c_swIr (K := mTrials_findSwapsrr_l42 g4 (nn M) n) hR hr hF hM hw (show a < N by omega) (N - (a + 1)) (a + 1) FU t g1 q (by omega) (by omega) (by unfold FU; omega) hwb hq
    rw [hz]
    unfold swO
    rw [← ht]
    exact ih (a + 1) n t1 g11 q1 (by omega) (by omega) hwb1 hq1
theorem c_awn  (hr : rOK N rg pl) (hF : fR N B L rg pl d g4) (hM : M < 4000) :
    ∀ (k i n : Nat) (t : tyTrials) (g1 : tyFair) , i + k = B → k < n → 
      ∃ t' g1' , mTrials_findAwayrn_l20 g4 (nn M) n (nn i) t g1  = some (t', g1') ∧ t'.1 0 = (bstS (awF none N B rg pl d M) k i (t.1 0) (t.1 1)).1 ∧ t'.1 1 = (bstS (awF none N B rg pl d M) k i (t.1 0) (t.1 1)).2  := by
  have hB := hF.1.2.2.2.2.1.2.1
  have hby : g4.2.2.2.1 = nn B := by rw [hF.1.1.2.2.1, hF.1.2.2.2.2.1.2.2.2.2.2.1]
  intro k
  induction k with
  | zero =>
    intro i n t g1  h1 h2 
    match n, h2 with
    | n + 1, _ =>
    unfold mTrials_findAwayrn_l20
    rw [hby, ifle_t (by omega) (by omega)]
    exact ⟨t, g1,  rfl, rfl, rfl⟩
  | succ k ih =>
    intro i n t g1  h1 h2 
    match n, h2 with
    | n + 1, h2 =>
    obtain ⟨g3, hg3, eg3⟩ := from_ev g1 g4
    have hF3 := fR_gEq hF eg3
    obtain ⟨m, go, ti, we, so, pu, ha,  hgo, hF5⟩ := gon_g  (acR_x (show i < 6 by omega)) hr hM hF3 
    unfold mTrials_findAwayrn_l20
    rw [hby, ifle_f (by omega) (by omega), hg3, bs, hgo, bs, li1, nn_add, rq_inb (by omega) (by omega)]
    show ∃ t' g1' , (if awF none N B rg pl d M i ≤ t.1 1 then _ else _) = _ ∧ _
    unfold bstS
    by_cases e : t.1 1 < awF none N B rg pl d M i
    · rw [if_pos e, if_neg (by rw [Int32.le_iff_toInt_le]; rw [Int32.lt_iff_toInt_lt] at e; omega), find_ev, bs]
      exact ih (i + 1) n _ _  (by omega) (by omega) 
    · rw [if_neg e, if_pos (by rw [Int32.le_iff_toInt_le]; rw [Int32.lt_iff_toInt_lt] at e; omega)]
      exact ih (i + 1) n _ _  (by omega) (by omega) 
theorem c_mkIn  (hr : rOK N rg pl) (hF : fR N B L rg pl d g4) (hM : M < 4000) {a : Nat} (ha : a < N) {K} :
    ∀ (k b n : Nat) (t : tyTrials) (g1 : tyFair) , b + k = N → k < n → 
      ∃ t' g1' , mTrials_findMakeUprn_l34 g4 (nn M) (nn a) K n (nn b) t g1  = K (nn (a + 1)) t' g1'  ∧ (t'.1 0, t'.1 1, t'.1 2) = mkI (mkF none N B rg pl d M) d a k b (t.1 0, t.1 1, t.1 2)  := by
  have hN := hF.1.2.2.2.2.1.1
  have hst : g4.2.2.1 = nn N := by rw [hF.1.1.2.1, hF.1.2.2.2.2.1.2.2.2.2.1]
  intro k
  induction k with
  | zero =>
    intro b n t g1  h1 h2 
    match n, h2 with
    | n + 1, _ =>
    unfold mTrials_findMakeUprn_l34
    rw [hst, ifle_t (by omega) (by omega), li1, nn_add]
    exact ⟨t, g1,  rfl, rfl⟩
  | succ k ih =>
    intro b n t g1  h1 h2 
    match n, h2 with
    | n + 1, h2 =>
    unfold mTrials_findMakeUprn_l34
    rw [hst, ifle_f (by omega) (by omega), cbears_ev (by omega), bs, hF.2.2.2 a ha, li0, li1, nn_add]
    unfold mkI
    by_cases e : gB (d (41 + a)) b = true
    · obtain ⟨g3, hg3, eg3⟩ := from_ev g1 g4
      have hF3 := fR_gEq hF eg3
      obtain ⟨gr, se, pr, bo, hfl, hF4⟩ := flip_ev hr hF3 ha (show b < N by omega)
      obtain ⟨m, go, ti, we, so, pu, hh,  hgo, hF5⟩ := gon_g  acR_all hr hM hF4 
      dsimp only at hgo
      rw [if_neg (by rw [b01_0]; exact fun h => h e), if_pos e, hg3, bs, hfl, bs]
      dsimp only
      rw [hgo, bs, rq_inb (by omega) (by omega)]
      show ∃ t' g1' , (if mkF none N B rg pl d M a b ≤ t.1 0 then _ else _) = _ ∧ _
      by_cases e2 : t.1 0 < mkF none N B rg pl d M a b
      · rw [if_pos e2, if_neg (by rw [Int32.le_iff_toInt_le]; rw [Int32.lt_iff_toInt_lt] at e2; omega), find_ev, bs]
        exact ih (b + 1) n _ _  (by omega) (by omega) 
      · rw [if_neg e2, if_pos (by rw [Int32.le_iff_toInt_le]; rw [Int32.lt_iff_toInt_lt] at e2; omega)]
        exact ih (b + 1) n _ _  (by omega) (by omega) 
    · rw [if_pos (by rw [b01_0]; exact e), if_neg e]
      exact ih (b + 1) n t g1  (by omega) (by omega) 
theorem c_mkOn  (hr : rOK N rg pl) (hF : fR N B L rg pl d g4) (hM : M < 4000) :
    ∀ (k a n : Nat) (t : tyTrials) (g1 : tyFair) , a + k = N → k < n → 
      ∃ t' g1' , mTrials_findMakeUprn_l22 g4 (nn M) n (nn a) t g1  = some (t', g1') ∧ (t'.1 0, t'.1 1, t'.1 2) = mkO2 (mkF none N B rg pl d M) d N k a (t.1 0, t.1 1, t.1 2)  := by
  have hN := hF.1.2.2.2.2.1.1
  have hst : g4.2.2.1 = nn N := by rw [hF.1.1.2.1, hF.1.2.2.2.2.1.2.2.2.2.1]
  intro k
  induction k with
  | zero =>
    intro a n t g1  h1 h2 
    match n, h2 with
    | n + 1, _ =>
    unfold mTrials_findMakeUprn_l22
    rw [hst, ifle_t (by omega) (by omega)]
    exact ⟨t, g1,  rfl, rfl⟩
  | succ k ih =>
    intro a n t g1  h1 h2 
    match n, h2 with
    | n + 1, h2 =>
    unfold mTrials_findMakeUprn_l22
    rw [hst, ifle_f (by omega) (by omega), li0]
    obtain ⟨t1, g11,  hz, ht⟩ := c_mkIn (K := mTrials_findMakeUprn_l22 g4 (nn M) n)  hr hF hM (show a < N by omega) N 0 FU t g1  (by omega) (by unfold FU; omega) 
    rw [hz]
    unfold mkO2
    rw [← ht]
    exact ih (a + 1) n t1 g11  (by omega) (by omega) 
theorem c_swIn  (hr : rOK N rg pl) (hF : fR N B L rg pl d g4) (hM : M < 4000) {wb : Nat → Int32} (hw : ∀ s, s < N → wb s = (minsS none N rg pl acA B M d (nn 0)).1 (11 + 4 * s + 3)) {a : Nat} (ha : a < N) {K} :
    ∀ (k b n : Nat) (t : tyTrials) (g1 : tyFair) , b + k = N → a < b → k < n → t.2.1 = wb → 
      ∃ t' g1' , mTrials_findSwapsrn_l57 g4 (nn M) (nn a) K n (nn b) t g1  = K (nn (a + 1)) t' g1'  ∧ (t'.1 0, t'.1 1, t'.1 2) = swI (swB none N B rg pl d M) a k b (t.1 0, t.1 1, t.1 2) ∧ t'.2.1 = wb  := by
  have hN := hF.1.2.2.2.2.1.1
  have hst : g4.2.2.1 = nn N := by rw [hF.1.1.2.1, hF.1.2.2.2.2.1.2.2.2.2.1]
  intro k
  induction k with
  | zero =>
    intro b n t g1  h1 hab h2 hwb 
    match n, h2 with
    | n + 1, _ =>
    unfold mTrials_findSwapsrn_l57
    rw [hst, ifle_t (by omega) (by omega), li1, nn_add]
    exact ⟨t, g1,  rfl, rfl, hwb⟩
  | succ k ih =>
    intro b n t g1  h1 hab h2 hwb 
    match n, h2 with
    | n + 1, h2 =>
    obtain ⟨g3, hg3, eg3⟩ := from_ev g1 g4
    have hF3 := fR_gEq hF eg3
    have hb : b < N := by omega
    obtain ⟨ri, se, pr, bo, hsw, hF4⟩ := swapPlaces_ev hr hF3 ha hb (show ¬ a = b by omega)
    obtain ⟨m, go, ti, we, so, pu, hh,  hgo, hF5⟩ := gon_g  acR_all (mv_ok hr ha hb (by omega)) hM hF4 
    have hwa : we a = _ := hF5.1.2.2.1 a ha
    have hwb2 : we b = _ := hF5.1.2.2.1 b hb
    dsimp only at hgo
    unfold mTrials_findSwapsrn_l57
    rw [hst, ifle_f (by omega) (by omega), hg3, bs, hsw, bs, show (-1 : Int32) = -nn 1 from id rfl]
    dsimp only
    rw [hgo, bs]
    dsimp only
    rw [hwb, rq_inb (by omega) (by omega), rq_inb (by omega) (by omega), rq_inb (by omega) (by omega), rq_inb (by omega) (by omega), li1, nn_add]
    simp only [li0]
    unfold swI
    by_cases e1 : we a ≤ wb a
    · have e : ¬ swB none N B rg pl d M a b = true := by
        unfold swB
        rw [hw a ha, hwa, Int32.le_iff_toInt_le] at e1
        rw [Bool.and_eq_true, decide_eq_true_eq, Int32.lt_iff_toInt_lt]
        intro h; have := h.1; omega
      rw [if_pos (by rw [nn_tn (show a < 2147483648 by omega)]; exact e1), if_neg e]
      exact ih (b + 1) n t _  (by omega) (by omega) (by omega) hwb 
    · rw [if_neg (by rw [nn_tn (show a < 2147483648 by omega)]; exact e1)]
      by_cases e2 : wb b < we b
      · have e : swB none N B rg pl d M a b = true := by
          unfold swB
          rw [hw a ha, hwa, Int32.le_iff_toInt_le] at e1
          rw [hw b hb, hwb2] at e2
          rw [Bool.and_eq_true, decide_eq_true_eq, decide_eq_true_eq]
          exact ⟨by rw [Int32.lt_iff_toInt_lt]; omega, e2⟩
        rw [if_pos (by rw [nn_tn (show b < 2147483648 by omega)]; exact e2), if_pos e, rq_inb (by omega) (by omega)]
        by_cases e3 : t.1 0 = nn 0
        · rw [if_pos (show t.1 (nn 0).toNatClampNeg = nn 0 from e3), if_pos e3, find_ev, bs, rq_inb (by omega) (by omega), rq_inb (by omega) (by omega)]
          simp only [lt]
          rw [e3]
          exact ih (b + 1) n (upd (upd (upd (upd t.1 0 (nn 0)) 1 (nn a)) 2 (nn b)) 0 (upd (upd (upd t.1 0 (nn 0)) 1 (nn a)) 2 (nn b) 0 + nn 1), t.2) _  (by omega) (by omega) (by omega) hwb 
        · rw [if_neg (show ¬ t.1 (nn 0).toNatClampNeg = nn 0 from e3), if_neg e3, rq_inb (by omega) (by omega), rq_inb (by omega) (by omega)]
          simp only [lt]
          exact ih (b + 1) n (upd t.1 0 (t.1 0 + nn 1), wb, t.2.2) _  (by omega) (by omega) (by omega) rfl 
      · have e : ¬ swB none N B rg pl d M a b = true := by
          unfold swB
          rw [hw b hb, hwb2] at e2
          rw [Bool.and_eq_true, decide_eq_true_eq, decide_eq_true_eq]
          intro h; exact e2 h.2
        rw [if_neg (by rw [nn_tn (show b < 2147483648 by omega)]; exact e2), if_neg e]
        exact ih (b + 1) n t _  (by omega) (by omega) (by omega) hwb 
theorem c_swOn  (hr : rOK N rg pl) (hF : fR N B L rg pl d g4) (hM : M < 4000) {wb : Nat → Int32} (hw : ∀ s, s < N → wb s = (minsS none N rg pl acA B M d (nn 0)).1 (11 + 4 * s + 3)) :
    ∀ (k a n : Nat) (t : tyTrials) (g1 : tyFair) , a + k = N → k < n → t.2.1 = wb → 
      ∃ t' g1' , mTrials_findSwapsrn_l42 g4 (nn M) n (nn a) t g1  = some (t', g1') ∧ (t'.1 0, t'.1 1, t'.1 2) = swO (swB none N B rg pl d M) N k a (t.1 0, t.1 1, t.1 2)  := by
  have hN := hF.1.2.2.2.2.1.1
  have hst : g4.2.2.1 = nn N := by rw [hF.1.1.2.1, hF.1.2.2.2.2.1.2.2.2.2.1]
  intro k
  induction k with
  | zero =>
    intro a n t g1  h1 h2 hwb 
    match n, h2 with
    | n + 1, _ =>
    unfold mTrials_findSwapsrn_l42
    rw [hst, ifle_t (by omega) (by omega)]
    exact ⟨t, g1,  rfl, rfl⟩
  | succ k ih =>
    intro a n t g1  h1 h2 hwb 
    match n, h2 with
    | n + 1, h2 =>
    unfold mTrials_findSwapsrn_l42
    simp only [lt]
    rw [hst, ifle_f (by omega) (by omega), li1, nn_add]
    obtain ⟨t1, g11,  hz, ht, hwb1⟩ := c_swIn (K := mTrials_findSwapsrn_l42 g4 (nn M) n)  hr hF hM hw (show a < N by omega) (N - (a + 1)) (a + 1) FU t g1  (by omega) (by omega) (by unfold FU; omega) hwb 
    rw [hz]
    unfold swO
    rw [← ht]
    exact ih (a + 1) n t1 g11  (by omega) (by omega) hwb1 
end cmk
