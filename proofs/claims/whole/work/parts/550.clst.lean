/-! the class: the first half of a minute -/
theorem nn_ne_m1 {k : Nat} (h : k < 2147483648) : ¬ nn k = -nn 1 := by
  intro e
  have := congrArg Int32.toInt e
  rw [nn_toInt h] at this
  have e2 : (-nn 1).toInt = -1 := by decide
  omega
section tr
variable {N B L : Nat} {rg pl : Nat → Nat} {d : Nat → Int32} {lasts stalls buyers minute : Int32} {price came seller praise borne goods till sold purse had : Nat → Int32} {b s : Nat}
theorem buyD_0 {q : Nat} (hr : rOK N rg pl) (hN : N ≤ 6) (hs : s < N) (hb : b < 6) (hq : q < 6) : buyD N rg pl d b s (11 + 4 * q) = upd (fun q => d (11 + 4 * q)) s (d (11 + 4 * s) - nn 1) q := by
  have := slr_lt hr hs
  unfold buyD
  rw [upd_o (by omega), upd_o (by omega), upd_o (by omega)]
  by_cases e : q = s
  · subst e; rw [upd_s, upd_s]
  · rw [upd_o (by omega), upd_o e]
theorem buyD_1 {q : Nat} (hr : rOK N rg pl) (hN : N ≤ 6) (hs : s < N) (hb : b < 6) (hq : q < 6) : buyD N rg pl d b s (11 + 4 * q + 1) = d (11 + 4 * q + 1) := by
  have := slr_lt hr hs
  unfold buyD
  rw [upd_o (by omega), upd_o (by omega), upd_o (by omega), upd_o (by omega)]
theorem buyD_2 {q : Nat} (hr : rOK N rg pl) (hN : N ≤ 6) (hs : s < N) (hb : b < 6) (hq : q < 6) : buyD N rg pl d b s (11 + 4 * q + 2) = upd (fun q => d (11 + 4 * q + 2)) (slr N rg pl s) (d (11 + 4 * slr N rg pl s + 2) + d (11 + 4 * s + 1)) q := by
  have := slr_lt hr hs
  unfold buyD
  rw [upd_o (by omega)]
  by_cases e : q = slr N rg pl s
  · subst e; rw [upd_s, upd_s]
  · rw [upd_o (by omega), upd_o (by omega), upd_o (by omega), upd_o e]
theorem buyD_3 {q : Nat} (hr : rOK N rg pl) (hN : N ≤ 6) (hs : s < N) (hb : b < 6) (hq : q < 6) : buyD N rg pl d b s (11 + 4 * q + 3) = d (11 + 4 * q + 3) := by
  have := slr_lt hr hs
  unfold buyD
  rw [upd_o (by omega), upd_o (by omega), upd_o (by omega), upd_o (by omega)]
theorem buyD_p {q : Nat} (hr : rOK N rg pl) (hN : N ≤ 6) (hs : s < N) (hb : b < 6) (hq : q < 6) : buyD N rg pl d b s (47 + q) = upd (fun q => d (47 + q)) b (d (47 + b) - d (11 + 4 * s + 1)) q := by
  have := slr_lt hr hs
  unfold buyD
  rw [upd_o (by omega), upd_o (by omega)]
  by_cases e : q = b
  · subst e; rw [upd_s, upd_s]
  · rw [upd_o (by omega), upd_o (by omega), upd_o e]
theorem buyD_h {q t : Nat} (hr : rOK N rg pl) (hN : N ≤ 6) (hs : s < N) (hb : b < 6) (hq : q < 6) (ht : t < 6) : buyD N rg pl d b s (53 + 6 * q + t) = if q = b ∧ t = s then d (53 + 6 * b + s) + nn 1 else d (53 + 6 * q + t) := by
  have := slr_lt hr hs
  unfold buyD
  by_cases e : q = b ∧ t = s
  · obtain ⟨e1, e2⟩ := e; subst e1; subst e2; rw [upd_s, if_pos ⟨rfl, rfl⟩]
  · rw [upd_o (by omega), upd_o (by omega), upd_o (by omega), upd_o (by omega), if_neg e]
theorem sub1 (x y : Int32) : x - (y - nn 1) = (x - y) + nn 1 := by
  rw [Int32.sub_eq_add_neg, Int32.sub_eq_add_neg y, Int32.sub_eq_add_neg x, Int32.neg_add, Int32.sub_eq_add_neg, Int32.neg_neg, Int32.add_assoc]
theorem dyR_buy (hD : dyR N B d goods till sold purse had) (hp : price s = d (11 + 4 * s + 1)) (hr : rOK N rg pl) (hN : N ≤ 6) (hB : B ≤ 6) (hs : s < N) (hb : b < B) :
    dyR N B (buyD N rg pl d b s) (upd goods s (goods s - nn 1)) (upd till (slr N rg pl s) (till (slr N rg pl s) + price s)) (upd sold s (sold s + nn 1)) (upd purse b (purse b - price s)) (upd had (b * 6 + s) (had (b * 6 + s) + nn 1)) := by
  obtain ⟨h1, h2, h3, h4, h5⟩ := hD
  have hsl := slr_lt hr hs
  refine ⟨fun q hq => ?_, fun q hq => ?_, fun q hq => ?_, fun q hq => ?_, fun q t hq ht => ?_⟩
  · rw [buyD_0 hr hN hs (by omega) (by omega)]
    by_cases e : q = s
    · subst e; rw [upd_s, upd_s, h1 _ hq]
    · rw [upd_o e, upd_o e, h1 _ hq]
  · rw [buyD_2 hr hN hs (by omega) (by omega)]
    by_cases e : q = slr N rg pl s
    · subst e; rw [upd_s, upd_s, h2 _ hq, hp]
    · rw [upd_o e, upd_o e, h2 _ hq]
  · rw [buyD_0 hr hN hs (by omega) (by omega), buyD_o hN hr hs (by omega) (by omega)]
    by_cases e : q = s
    · subst e; rw [upd_s, upd_s, h3 _ hq, sub1]
    · rw [upd_o e, upd_o e, h3 _ hq]
  · rw [buyD_p hr hN hs (by omega) (by omega)]
    by_cases e : q = b
    · subst e; rw [upd_s, upd_s, h4 _ hq, hp]
    · rw [upd_o e, upd_o e, h4 _ hq]
  · rw [buyD_h hr hN hs (by omega) (by omega) (by omega)]
    by_cases e : q = b ∧ t = s
    · obtain ⟨e1, e2⟩ := e; subst e1; subst e2; rw [upd_s, if_pos ⟨rfl, rfl⟩, h5 _ _ hq ht]
    · rw [upd_o (by omega), if_neg e, h5 _ _ hq ht]
theorem prS_congr {d d' : Nat → Int32} (hr : rOK N rg pl) (hs : s < N) (h : ∀ k, k < N → d' (41 + k) = d (41 + k) ∧ d' (89 + k) = d (89 + k)) : prS N rg pl d' s = prS N rg pl d s ∧ brS N rg pl d' s = brS N rg pl d s := by
  have := h _ (slr_lt hr hs)
  unfold prS brS
  rw [this.1, this.2]
  exact ⟨rfl, rfl⟩
theorem stR_buy (hS : stR N B rg pl d lasts stalls buyers minute price came seller praise borne) (hr : rOK N rg pl) (hN : N ≤ 6) (hB : B ≤ 6) (hs : s < N) (hb : b < B) : stR N B rg pl (buyD N rg pl d b s) lasts stalls buyers minute price came seller praise borne := by
  obtain ⟨h1, h2, h3, h4, h5, h6, h7, h8, h9⟩ := hS
  have O : ∀ {k : Nat}, (k < 11 ∨ (35 ≤ k ∧ k < 47) ∨ 89 ≤ k) → buyD N rg pl d b s k = d k := fun h => buyD_o hN hr hs (by omega) h
  refine ⟨?_, ?_, ?_, ?_, fun q hq => ?_, fun q hq => ?_, h7, fun q hq => ?_, fun q hq => ?_⟩
  · rw [O (by omega), h1]
  · rw [O (by omega), h2]
  · rw [O (by omega), h3]
  · rw [O (by omega), h4]
  · rw [buyD_1 hr hN hs (by omega) (by omega), h5 q hq]
  · rw [O (by omega), h6 q hq]
  · rw [h8 q hq, (prS_congr hr hq (fun k hk => ⟨O (by omega), O (by omega)⟩)).1]
  · rw [h9 q hq, (prS_congr hr hq (fun k hk => ⟨O (by omega), O (by omega)⟩)).2]
theorem tgR_buy (ht : tgR N d) (hr : rOK N rg pl) (hN : N ≤ 6) (hs : s < N) (hb : b < 6) : tgR N (buyD N rg pl d b s) := by
  intro q hq
  rw [buyD_o hN hr hs hb (by omega)]
  exact ht q hq
theorem choicer_ev {steps sumFrom testFrom testTo : Nat → Int32} {size clauses readsTime : Int32} {r : RU} {len : Nat} (hR : rcR steps size sumFrom testFrom testTo clauses readsTime r len)
    (hS : stR N B rg pl d lasts stalls buyers minute price came seller praise borne) (hD : dyR N B d goods till sold purse had) (hf : fxR N B L rg d) (hb : b < B) (wd z : Nat → Int64) :
    ∃ w' z', mFair_choicer (nn b) lasts stalls minute goods price sold purse came had praise borne steps size sumFrom testFrom testTo clauses wd z = some (oi (pick (some r) N rg pl d b), w', z') :=
  choicer_l8_ev hR hS hD hf hb N 0 FU none 0 wd z (by omega) (by have := hf.1; unfold FU; omega)

theorem trader_l5_ev {x2 : Int32} {ac : Nat → Bool} {steps sumFrom testFrom testTo : Nat → Int32} {size clauses readsTime : Int32} {r : RU} {len : Nat} (hR : rcR steps size sumFrom testFrom testTo clauses readsTime r len) (hac : acR x2 (nn 0) ac) (hr : rOK N rg pl) :
    ∀ (k b n : Nat) (d : Nat → Int32) (p : Int32) (goods till sold purse had : Nat → Int32) (wd z : Nat → Int64), stR N B rg pl d lasts stalls buyers minute price came seller praise borne → dyR N B d goods till sold purse had → fxR N B L rg d → tgR N d → b + k = B → k < n →
      ∃ g' t' s' p' h' w' z', mFair_trader_l5 lasts stalls buyers minute price came seller praise borne steps size sumFrom testFrom testTo clauses x2 n p (nn b) goods till sold purse had wd z = some ((trS (some r) N rg pl ac k b d p).2, g', t', s', p', h', w', z') ∧ dyR N B (trS (some r) N rg pl ac k b d p).1 g' t' s' p' h' := by
  intro k
  induction k with
  | zero =>
    intro b n d p goods till sold purse had wd z hS hD hf ht h1 h2
    match n, h2 with
    | n + 1, _ =>
    have hf' := hf
    obtain ⟨hN, hB, hL, hL2, h3, h4, h5, h8⟩ := hf'
    refine ⟨goods, till, sold, purse, had, wd, z, ?_, hD⟩
    unfold mFair_trader_l5
    rw [hS.2.2.1, h4, ifle_t (by omega) (by omega)]
    rfl
  | succ k ih =>
    intro b n d p goods till sold purse had wd z hS hD hf ht h1 h2
    match n, h2 with
    | n + 1, h2 =>
    have hf' := hf
    obtain ⟨hN, hB, hL, hL2, h3, h4, h5, h8⟩ := hf'
    have hby : buyers = nn B := by rw [hS.2.2.1, h4]
    have j31 : ∀ (o : Option Nat) (w z : Nat → Int64), (if ac b = true then pick (some r) N rg pl d b else none) = o → ∃ g' t' s' p' h' w' z', mFair_trader_j31 (mFair_trader_l5 lasts stalls buyers minute price came seller praise borne steps size sumFrom testFrom testTo clauses x2 n) x2 p (nn b) lasts stalls buyers minute goods price till sold purse came had seller praise borne steps size sumFrom testFrom testTo clauses w z (oi o) = some ((trS (some r) N rg pl ac (k + 1) b d p).2, g', t', s', p', h', w', z') ∧ dyR N B (trS (some r) N rg pl ac (k + 1) b d p).1 g' t' s' p' h' := by
      intro o w z ho
      unfold mFair_trader_j31 trS
      rw [ho, li1, nn_add]
      match o, ho with
      | none, ho =>
        rw [oi_none, if_pos rfl]
        exact ih (b + 1) n d p goods till sold purse had w z hS hD hf ht (by omega) (by omega)
      | some s, ho =>
        have hs : s < N := by
          split at ho
          · exact pick_lt ho
          · cases ho
        have hsl := slr_lt hr hs
        have ep := hS.2.2.2.2.1 s hs
        rw [oi_some, if_neg (nn_ne_m1 (by omega))]
        simp only [lt, li6]
        rw [nn_mul, nn_add, rq_inb (by omega) (by omega), rq_inb (by omega) (by omega), rq_inb (by omega) (by omega), rq_inb (by omega) (by omega), rq_inb (by omega) (by omega), rq_inb (by omega) (by omega), rq_inb (by omega) (by omega), rq_inb (by omega) (by omega), rq_inb (by omega) (by omega), rq_inb (by omega) (by omega), nn_tn (k := s) (by omega), hS.2.2.2.2.2.2.1 s hs, rq_inb (by omega) (by omega), rq_inb (by omega) (by omega), rq_inb (by omega) (by omega), rq_inb (by omega) (by omega), nn_tn (k := b * 6 + s) (by omega), nn_tn (k := b) (by omega), nn_tn (k := slr N rg pl s) (by omega)]
        rw [show p + price s = p + d (11 + 4 * s + 1) by rw [ep]]
        exact ih (b + 1) n _ _ _ _ _ _ _ w z (stR_buy hS hr hN hB hs (by omega)) (dyR_buy hD ep hr hN hB hs (by omega)) (fx_buy hr hf hs (by omega)) (tgR_buy ht hr hN hs (by omega)) (by omega) (by omega)
    unfold mFair_trader_l5
    rw [hby, ifle_f (by omega) (by omega), ← hby]
    by_cases ha : nn b = x2
    · rw [if_pos ha]
      exact j31 none wd z (if_neg (fun h => ((hac b (by omega)).1 h).1 ha))
    · rw [if_neg ha]
      obtain ⟨w', z', hz⟩ := choicer_ev hR hS hD hf (show b < B by omega) wd z
      rw [hz, bs]
      exact j31 _ w' z' (if_pos ((hac b (by omega)).2 ⟨ha, rfl⟩))
theorem choicen_ev (hS : stR N B rg pl d lasts stalls buyers minute price came seller praise borne) (hD : dyR N B d goods till sold purse had) (hf : fxR N B L rg d) (hr : rOK N rg pl) (ht : tgR N d) (hb : b < B) :
    mFair_choicen (nn b) stalls goods price purse came praise = some (oi (pick none N rg pl d b)) :=
  choicen_l8_ev hS hD hf hr ht hb N 0 FU none 0 (by omega) (by have := hf.1; unfold FU; omega)

theorem traden_l5_ev {x2 : Int32} {ac : Nat → Bool}  (hac : acR x2 (nn 0) ac) (hr : rOK N rg pl) :
    ∀ (k b n : Nat) (d : Nat → Int32) (p : Int32) (goods till sold purse had : Nat → Int32) , stR N B rg pl d lasts stalls buyers minute price came seller praise borne → dyR N B d goods till sold purse had → fxR N B L rg d → tgR N d → b + k = B → k < n →
      ∃ g' t' s' p' h' , mFair_traden_l5 stalls buyers price came seller praise x2 n p (nn b) goods till sold purse had  = some ((trS none N rg pl ac k b d p).2, g', t', s', p', h') ∧ dyR N B (trS none N rg pl ac k b d p).1 g' t' s' p' h' := by
  intro k
  induction k with
  | zero =>
    intro b n d p goods till sold purse had  hS hD hf ht h1 h2
    match n, h2 with
    | n + 1, _ =>
    have hf' := hf
    obtain ⟨hN, hB, hL, hL2, h3, h4, h5, h8⟩ := hf'
    refine ⟨goods, till, sold, purse, had,  ?_, hD⟩
    unfold mFair_traden_l5
    rw [hS.2.2.1, h4, ifle_t (by omega) (by omega)]
    rfl
  | succ k ih =>
    intro b n d p goods till sold purse had  hS hD hf ht h1 h2
    match n, h2 with
    | n + 1, h2 =>
    have hf' := hf
    obtain ⟨hN, hB, hL, hL2, h3, h4, h5, h8⟩ := hf'
    have hby : buyers = nn B := by rw [hS.2.2.1, h4]
    have j31 : ∀ (o : Option Nat) , (if ac b = true then pick none N rg pl d b else none) = o → ∃ g' t' s' p' h' , mFair_traden_j31 (mFair_traden_l5 stalls buyers price came seller praise x2 n) x2 p (nn b)  stalls buyers  goods price till sold purse came had seller praise  (oi o) = some ((trS none N rg pl ac (k + 1) b d p).2, g', t', s', p', h') ∧ dyR N B (trS none N rg pl ac (k + 1) b d p).1 g' t' s' p' h' := by
      intro o  ho
      unfold mFair_traden_j31 trS
      rw [ho, li1, nn_add]
      match o, ho with
      | none, ho =>
        rw [oi_none, if_pos rfl]
        exact ih (b + 1) n d p goods till sold purse had  hS hD hf ht (by omega) (by omega)
      | some s, ho =>
        have hs : s < N := by
          split at ho
          · exact pick_lt ho
          · cases ho
        have hsl := slr_lt hr hs
        have ep := hS.2.2.2.2.1 s hs
        rw [oi_some, if_neg (nn_ne_m1 (by omega))]
        simp only [lt, li6]
        rw [nn_mul, nn_add, rq_inb (by omega) (by omega), rq_inb (by omega) (by omega), rq_inb (by omega) (by omega), rq_inb (by omega) (by omega), rq_inb (by omega) (by omega), rq_inb (by omega) (by omega), rq_inb (by omega) (by omega), rq_inb (by omega) (by omega), rq_inb (by omega) (by omega), rq_inb (by omega) (by omega), nn_tn (k := s) (by omega), hS.2.2.2.2.2.2.1 s hs, rq_inb (by omega) (by omega), rq_inb (by omega) (by omega), rq_inb (by omega) (by omega), rq_inb (by omega) (by omega), nn_tn (k := b * 6 + s) (by omega), nn_tn (k := b) (by omega), nn_tn (k := slr N rg pl s) (by omega)]
        rw [show p + price s = p + d (11 + 4 * s + 1) by rw [ep]]
        exact ih (b + 1) n _ _ _ _ _ _ _  (stR_buy hS hr hN hB hs (by omega)) (dyR_buy hD ep hr hN hB hs (by omega)) (fx_buy hr hf hs (by omega)) (tgR_buy ht hr hN hs (by omega)) (by omega) (by omega)
    unfold mFair_traden_l5
    rw [hby, ifle_f (by omega) (by omega), ← hby]
    by_cases ha : nn b = x2
    · rw [if_pos ha]
      exact j31 none  (if_neg (fun h => ((hac b (by omega)).1 h).1 ha))
    · rw [if_neg ha]
      rw [choicen_ev hS hD hf hr ht (show b < B by omega), bs]
      exact j31 _ (if_pos ((hac b (by omega)).2 ⟨ha, rfl⟩))
end tr
