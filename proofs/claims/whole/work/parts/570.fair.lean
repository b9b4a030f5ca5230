/-! the class's fair as a group; what the ring tells is told anew -/
section arr
variable {N B L : Nat} {rg pl : Nat → Nat} {d : Nat → Int32} {tongue ring grudges : Nat → Int32} {stalls : Int32} {s : Nat}
theorem cbears_ev {k : Nat} (h : s < 6) : mFair_bears (nn s) (nn k) grudges = some (b01 (gB (grudges s) k = true)) := by
  unfold mFair_bears gB b01
  rw [rq_inb (by omega) (by omega), nn_tn (by omega)]
  simp only [li1, li0, li31, decide_eq_true_eq]
  by_cases h : grudges s >>> (nn k &&& nn 31) &&& nn 1 = nn 1
  · rw [if_pos h, if_pos h]
  · rw [if_neg h, if_neg h]
theorem arrange_l2_ev (hN : N ≤ 6) (hr : rOK N rg pl) (hst : stalls = nn N) (hto : ∀ s, s < N → tongue s = d (89 + s)) (hri : ∀ k, k < N → ring k = nn (rg k)) (hgr : ∀ s, s < N → grudges s = d (41 + s)) :
    ∀ (k i n : Nat) (seller praise borne : Nat → Int32), i + k = N → k < n → (∀ t, t < N → pl t < i → seller t = nn (slr N rg pl t) ∧ praise t = prS N rg pl d t ∧ borne t = b01 (brS N rg pl d t = true)) →
      ∃ se pr bo, mFair_arrange_l2 stalls tongue ring grudges n (nn i) seller praise borne = some (se, pr, bo) ∧ (∀ t, t < N → se t = nn (slr N rg pl t)) ∧ (∀ t, t < N → pr t = prS N rg pl d t) ∧ (∀ t, t < N → bo t = b01 (brS N rg pl d t = true)) := by
  subst hst
  intro k
  induction k with
  | zero =>
    intro i n seller praise borne h1 h2 h
    match n, h2 with
    | n + 1, _ =>
    unfold mFair_arrange_l2
    rw [ifle_t (by omega) (by omega)]
    have hi : i = N := by omega
    subst hi
    exact ⟨_, _, _, rfl, fun t ht => (h t ht (hr t ht).2.1).1, fun t ht => (h t ht (hr t ht).2.1).2.1, fun t ht => (h t ht (hr t ht).2.1).2.2⟩
  | succ k ih =>
    intro i n seller praise borne h1 h2 h
    match n, h2 with
    | n + 1, h2 =>
    have hi : i < N := by omega
    have ho := hr i hi
    have hpv := pv_lt hi
    have hs2 := (hr _ hpv).1
    have esl : slr N rg pl (rg i) = rg (pv N i) := by unfold slr; rw [ho.2.2.1]
    have j65 : ∀ (bb : Int32) (hb : bb = b01 (brS N rg pl d (rg i) = true)), ∃ se pr bo, mFair_arrange_j65 (mFair_arrange_l2 (nn N) tongue ring grudges n) (nn i) (nn (rg i)) (nn (rg (pv N i))) (nn N) tongue ring grudges (upd seller (rg i) (nn (rg (pv N i)))) praise borne (nn (rg i)) bb = some (se, pr, bo) ∧ (∀ t, t < N → se t = nn (slr N rg pl t)) ∧ (∀ t, t < N → pr t = prS N rg pl d t) ∧ (∀ t, t < N → bo t = b01 (brS N rg pl d t = true)) := by
      intro bb hb
      have goal : ∀ pv1 : Int32, pv1 = prS N rg pl d (rg i) → ∃ se pr bo, mFair_arrange_l2 (nn N) tongue ring grudges n (nn (i + 1)) (upd seller (rg i) (nn (rg (pv N i)))) (upd praise (rg i) pv1) (upd borne (rg i) bb) = some (se, pr, bo) ∧ (∀ t, t < N → se t = nn (slr N rg pl t)) ∧ (∀ t, t < N → pr t = prS N rg pl d t) ∧ (∀ t, t < N → bo t = b01 (brS N rg pl d t = true)) := by
        intro pv1 hpv1
        refine ih (i + 1) n _ _ _ (by omega) (by omega) (fun t ht hlt => ?_)
        by_cases e : t = rg i
        · subst e; rw [upd_s, upd_s, upd_s, esl]; exact ⟨rfl, hpv1, hb⟩
        · have : ¬ pl t = i := fun e2 => e (by rw [← e2, (hr t ht).2.2.2])
          rw [upd_o e, upd_o e, upd_o e]
          exact h t ht (by omega)
      unfold mFair_arrange_j65
      simp only [lt, li1, li2]
      rw [rq_inb (by omega) (by omega), rq_inb (by omega) (by omega), nn_tn (by omega), upd_s, rq_inb (by omega) (by omega), rq_inb (by omega) (by omega), nn_tn (by omega), hto _ hs2, nn_add]
      by_cases e : brS N rg pl d (rg i) = true
      · rw [if_pos (by rw [hb, b01_1]; exact e)]
        refine goal _ ?_
        unfold brS at e; unfold prS; rw [if_pos e, esl]
      · rw [if_neg (by rw [hb, b01_1]; exact e), rq_inb (by omega) (by omega), rq_inb (by omega) (by omega)]
        refine goal _ ?_
        unfold brS at e; unfold prS; rw [if_neg e, esl]
    have j37 : ∃ se pr bo, mFair_arrange_j37 (mFair_arrange_l2 (nn N) tongue ring grudges n) (nn i) (nn (rg i)) (nn N) tongue ring grudges seller praise borne (nn (pv N i)) = some (se, pr, bo) ∧ (∀ t, t < N → se t = nn (slr N rg pl t)) ∧ (∀ t, t < N → pr t = prS N rg pl d t) ∧ (∀ t, t < N → bo t = b01 (brS N rg pl d t = true)) := by
      unfold mFair_arrange_j37
      simp only [lt, li0, li1]
      rw [rq_inb (by omega) (by omega), rq_inb (by omega) (by omega), nn_tn (by omega), nn_tn (by omega), hri _ hpv, cbears_ev (by omega), bs, hgr _ hs2]
      have eb : brS N rg pl d (rg i) = gB (d (41 + rg (pv N i))) (rg i) := by unfold brS; rw [esl]
      by_cases e : gB (d (41 + rg (pv N i))) (rg i) = true
      · rw [if_neg (by rw [b01_0]; exact fun h => h e)]
        exact j65 (nn 1) (by rw [b01_t (by rw [eb]; exact e)])
      · rw [if_pos (by rw [b01_0]; exact e)]
        exact j65 (nn 0) (by rw [b01_f (by rw [eb]; exact e)])
    unfold mFair_arrange_l2
    rw [ifle_f (by omega) (by omega), rq_inb (by omega) (by omega), nn_tn (by omega), hri i hi, li0, li1]
    show ∃ se pr bo, (if nn i ≤ nn 0 then _ else _) = _ ∧ _
    rw [pv_val hi] at j37
    by_cases e : i = 0
    · subst e
      rw [ifle_t (by omega) (by omega), nn_sub (by omega) (by omega)]
      rw [if_pos rfl] at j37
      exact j37
    · rw [ifle_f (by omega) (by omega), nn_sub (by omega) (by omega)]
      rw [if_neg e] at j37
      exact j37
theorem arrange_ev (hN : N ≤ 6) (hr : rOK N rg pl) (hst : stalls = nn N) (hto : ∀ s, s < N → tongue s = d (89 + s)) (hri : ∀ k, k < N → ring k = nn (rg k)) (hgr : ∀ s, s < N → grudges s = d (41 + s)) (seller praise borne : Nat → Int32) :
    ∃ se pr bo, mFair_arrange stalls tongue ring grudges seller praise borne = some (se, pr, bo) ∧ (∀ t, t < N → se t = nn (slr N rg pl t)) ∧ (∀ t, t < N → pr t = prS N rg pl d t) ∧ (∀ t, t < N → bo t = b01 (brS N rg pl d t = true)) :=
  arrange_l2_ev hN hr hst hto hri hgr N 0 FU seller praise borne (by omega) (by unfold FU; omega) (fun t _ h => by omega)
theorem cplaceOf_ev (hN : N ≤ 6) (hr : rOK N rg pl) (hst : stalls = nn N) (hri : ∀ k, k < N → ring k = nn (rg k)) (hs : s < N) : mFair_placeOf (nn s) stalls ring = some (nn (pl s)) := by
  subst hst
  have loop : ∀ n k, k ≤ pl s → pl s - k < n → mFair_placeOf_l2 (nn N) ring (nn s) n (nn k) = some (nn (pl s)) := by
    intro n
    induction n with
    | zero => intro k h1 h2; omega
    | succ n ih =>
      intro k h1 h2
      have hp := hr s hs
      have hk2 := hr k (by omega)
      unfold mFair_placeOf_l2
      rw [ifle_f (by omega) (by omega), rq_inb (by omega) (by omega), nn_tn (by omega), hri k (by omega), li1, nn_add]
      by_cases e : rg k = s
      · rw [ifeq_t e, ← e, hk2.2.2.1]
      · rw [ifeq_f e (by omega) (by omega)]
        have : k ≠ pl s := fun e2 => e (by rw [e2]; exact hp.2.2.2)
        exact ih (k + 1) (by omega) (by omega)
  exact loop FU 0 (by omega) (by have := (hr s hs).2.1; unfold FU; omega)
end arr
/-- the class's fair g is as d says -/
def fR (N B L : Nat) (rg pl : Nat → Nat) (d : Nat → Int32) (g : tyFair) : Prop :=
  goR N B L rg pl d g.1 g.2.1 g.2.2.1 g.2.2.2.1 g.2.2.2.2.1 g.2.2.2.2.2.1 g.2.2.2.2.2.2.1 g.2.2.2.2.2.2.2.2.1 g.2.2.2.2.2.2.2.2.2.1 g.2.2.2.2.2.2.2.2.2.2.1 g.2.2.2.2.2.2.2.2.2.2.2.2.2.1 g.2.2.2.2.2.2.2.2.2.2.2.2.2.2.1 g.2.2.2.2.2.2.2.2.2.2.2.2.2.2.2.1 g.2.2.2.2.2.2.2.2.2.2.2.2.2.2.2.2.1 g.2.2.2.2.2.2.2.2.2.2.2.2.2.2.2.2.2.1 g.2.2.2.2.2.2.2.2.2.2.2.2.2.2.2.2.2.2 ∧ (∀ s, s < N → g.2.2.2.2.2.2.2.1 s = d (89 + s)) ∧ (∀ k, k < N → g.2.2.2.2.2.2.2.2.2.2.2.1 k = d (35 + k)) ∧ (∀ s, s < N → g.2.2.2.2.2.2.2.2.2.2.2.2.1 s = d (41 + s))
/-- the same, as far as rows go -/
def gEq (g g' : tyFair) : Prop :=
  g'.1 = g.1 ∧ g'.2.1 = g.2.1 ∧ g'.2.2.1 = g.2.2.1 ∧ g'.2.2.2.1 = g.2.2.2.1 ∧ g'.2.2.2.2.1 = g.2.2.2.2.1 ∧
  (∀ k, k < 6 → g'.2.2.2.2.2.1 k = g.2.2.2.2.2.1 k ∧ g'.2.2.2.2.2.2.1 k = g.2.2.2.2.2.2.1 k ∧ g'.2.2.2.2.2.2.2.1 k = g.2.2.2.2.2.2.2.1 k ∧ g'.2.2.2.2.2.2.2.2.1 k = g.2.2.2.2.2.2.2.2.1 k ∧ g'.2.2.2.2.2.2.2.2.2.1 k = g.2.2.2.2.2.2.2.2.2.1 k ∧ g'.2.2.2.2.2.2.2.2.2.2.1 k = g.2.2.2.2.2.2.2.2.2.2.1 k ∧ g'.2.2.2.2.2.2.2.2.2.2.2.1 k = g.2.2.2.2.2.2.2.2.2.2.2.1 k ∧ g'.2.2.2.2.2.2.2.2.2.2.2.2.1 k = g.2.2.2.2.2.2.2.2.2.2.2.2.1 k ∧ g'.2.2.2.2.2.2.2.2.2.2.2.2.2.1 k = g.2.2.2.2.2.2.2.2.2.2.2.2.2.1 k ∧ g'.2.2.2.2.2.2.2.2.2.2.2.2.2.2.1 k = g.2.2.2.2.2.2.2.2.2.2.2.2.2.2.1 k ∧ g'.2.2.2.2.2.2.2.2.2.2.2.2.2.2.2.2.1 k = g.2.2.2.2.2.2.2.2.2.2.2.2.2.2.2.2.1 k ∧ g'.2.2.2.2.2.2.2.2.2.2.2.2.2.2.2.2.2.1 k = g.2.2.2.2.2.2.2.2.2.2.2.2.2.2.2.2.2.1 k ∧ g'.2.2.2.2.2.2.2.2.2.2.2.2.2.2.2.2.2.2 k = g.2.2.2.2.2.2.2.2.2.2.2.2.2.2.2.2.2.2 k) ∧
  (∀ k, k < 36 → g'.2.2.2.2.2.2.2.2.2.2.2.2.2.2.2.1 k = g.2.2.2.2.2.2.2.2.2.2.2.2.2.2.2.1 k)
theorem fR_gEq {N B L : Nat} {rg pl : Nat → Nat} {d : Nat → Int32} {g g' : tyFair} (h : fR N B L rg pl d g) (e : gEq g g') : fR N B L rg pl d g' := by
  obtain ⟨⟨hS, hD, hW, hK, hf, ht, hp⟩, h1, h2, h3⟩ := h
  obtain ⟨e1, e2, e3, e4, e5, e6, e7⟩ := e
  have hN := hf.1
  have hB := hf.2.1
  obtain ⟨s1, s2, s3, s4, s5, s6, s7, s8, s9⟩ := hS
  obtain ⟨d1, d2, d3, d4, d5⟩ := hD
  refine ⟨⟨⟨by rw [e1, s1], by rw [e3, s2], by rw [e4, s3], by rw [e5, s4], fun s hs => ?_, fun s hs => ?_, fun s hs => ?_, fun s hs => ?_, fun s hs => ?_⟩, ⟨fun s hs => ?_, fun s hs => ?_, fun s hs => ?_, fun s hs => ?_, fun b s hb hs => ?_⟩, fun s hs => ?_, by rw [e2, hK], hf, ht, hp⟩, fun s hs => ?_, fun s hs => ?_, fun s hs => ?_⟩
  · rw [(e6 s (by omega)).2.1, s5 s hs]
  · rw [(e6 s (by omega)).2.2.2.2.2.2.2.2.2.1, s6 s hs]
  · rw [(e6 s (by omega)).2.2.2.2.2.2.2.2.2.2.1, s7 s hs]
  · rw [(e6 s (by omega)).2.2.2.2.2.2.2.2.2.2.2.1, s8 s hs]
  · rw [(e6 s (by omega)).2.2.2.2.2.2.2.2.2.2.2.2, s9 s hs]
  · rw [(e6 s (by omega)).1, d1 s hs]
  · rw [(e6 s (by omega)).2.2.2.1, d2 s hs]
  · rw [(e6 s (by omega)).2.2.2.2.2.1, d3 s hs]
  · rw [(e6 s (by omega)).2.2.2.2.2.2.2.2.1, d4 s hs]
  · rw [e7 _ (by omega), d5 b s hb hs]
  · rw [(e6 s (by omega)).2.2.2.2.1, hW s hs]
  · rw [(e6 s (by omega)).2.2.1, h1 s hs]
  · rw [(e6 s (by omega)).2.2.2.2.2.2.1, h2 s hs]
  · rw [(e6 s (by omega)).2.2.2.2.2.2.2.1, h3 s hs]
theorem cpy_lt {α : Type} {f g : Nat → α} {n k : Nat} (h : k < n) : va_cpy f g 0 0 n k = f k := by
  unfold va_cpy; rw [if_pos ⟨Nat.zero_le _, by omega⟩, Nat.zero_add, Nat.sub_zero]
theorem copyFrom_ev (g g' : tyFair) : ∃ q, mFair_copyFrom g.1 g.2.1 g.2.2.1 g.2.2.2.1 g.2.2.2.2.1 g.2.2.2.2.2.1 g.2.2.2.2.2.2.1 g.2.2.2.2.2.2.2.1 g.2.2.2.2.2.2.2.2.1 g.2.2.2.2.2.2.2.2.2.1 g.2.2.2.2.2.2.2.2.2.2.1 g.2.2.2.2.2.2.2.2.2.2.2.1 g.2.2.2.2.2.2.2.2.2.2.2.2.1 g.2.2.2.2.2.2.2.2.2.2.2.2.2.1 g.2.2.2.2.2.2.2.2.2.2.2.2.2.2.1 g.2.2.2.2.2.2.2.2.2.2.2.2.2.2.2.1 g.2.2.2.2.2.2.2.2.2.2.2.2.2.2.2.2.1 g.2.2.2.2.2.2.2.2.2.2.2.2.2.2.2.2.2.1 g.2.2.2.2.2.2.2.2.2.2.2.2.2.2.2.2.2.2 g'.1 g'.2.1 g'.2.2.1 g'.2.2.2.1 g'.2.2.2.2.1 g'.2.2.2.2.2.1 g'.2.2.2.2.2.2.1 g'.2.2.2.2.2.2.2.1 g'.2.2.2.2.2.2.2.2.1 g'.2.2.2.2.2.2.2.2.2.1 g'.2.2.2.2.2.2.2.2.2.2.1 g'.2.2.2.2.2.2.2.2.2.2.2.1 g'.2.2.2.2.2.2.2.2.2.2.2.2.1 g'.2.2.2.2.2.2.2.2.2.2.2.2.2.1 g'.2.2.2.2.2.2.2.2.2.2.2.2.2.2.1 g'.2.2.2.2.2.2.2.2.2.2.2.2.2.2.2.1 g'.2.2.2.2.2.2.2.2.2.2.2.2.2.2.2.2.1 g'.2.2.2.2.2.2.2.2.2.2.2.2.2.2.2.2.2.1 g'.2.2.2.2.2.2.2.2.2.2.2.2.2.2.2.2.2.2 = some q ∧ gEq g' q := by
  refine ⟨_, rfl, rfl, rfl, rfl, rfl, rfl, fun k hk => ⟨cpy_lt hk, cpy_lt hk, cpy_lt hk, cpy_lt hk, cpy_lt hk, cpy_lt hk, cpy_lt hk, cpy_lt hk, cpy_lt hk, cpy_lt hk, cpy_lt hk, cpy_lt hk, cpy_lt hk⟩, fun k hk => cpy_lt hk⟩
theorem from_ev (g g' : tyFair) : ∃ q, mTrials_from g g' = some q ∧ gEq g' q := by
  obtain ⟨q, hq, he⟩ := copyFrom_ev g g'
  refine ⟨q, ?_, he⟩
  unfold mTrials_from
  rw [hq]
  rfl
theorem gEq.trans {g1 g2 g3 : tyFair} (h : gEq g1 g2) (h' : gEq g2 g3) : gEq g1 g3 := by
  obtain ⟨a1, a2, a3, a4, a5, a6, a7⟩ := h
  obtain ⟨b1, b2, b3, b4, b5, b6, b7⟩ := h'
  refine ⟨b1.trans a1, b2.trans a2, b3.trans a3, b4.trans a4, b5.trans a5, fun k hk => ?_, fun k hk => (b7 k hk).trans (a7 k hk)⟩
  obtain ⟨c1, c2, c3, c4, c5, c6, c7, c8, c9, c10, c11, c12, c13⟩ := a6 k hk
  obtain ⟨d1, d2, d3, d4, d5, d6, d7, d8, d9, d10, d11, d12, d13⟩ := b6 k hk
  exact ⟨d1.trans c1, d2.trans c2, d3.trans c3, d4.trans c4, d5.trans c5, d6.trans c6, d7.trans c7, d8.trans c8, d9.trans c9, d10.trans c10, d11.trans c11, d12.trans c12, d13.trans c13⟩
