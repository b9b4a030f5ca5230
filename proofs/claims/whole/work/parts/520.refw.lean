/-! the reference: what goods are worth -/
theorem ev1_congr {wd wd' : Nat → Int64} {c : Nat × Nat} {ts t' : List Bool} {l : List Int64} (h : tc1 c ts = some t') (hw : ∀ k, k < 12 → wd k = wd' k) : ev1 wd c l = ev1 wd' c l := by
  unfold ev1
  rcases tc1_inv h with ⟨hk, _, _⟩ | hk | hk
  · rcases hk with hk | ⟨hk, h2⟩
    · rw [if_pos hk, if_pos hk]
    · rw [if_neg (by omega), if_pos hk, if_neg (by omega), if_pos hk, hw _ h2]
  · have := hk.1
    simp only [if_neg (show ¬ c.1 = 0 by omega), if_neg (show ¬ c.1 = 1 by omega)]
  · have : ¬ c.1 = 0 ∧ ¬ c.1 = 1 := by rcases hk with ⟨hk, _⟩ | ⟨hk, _⟩ | ⟨hk, _⟩ <;> omega
    rw [if_neg this.1, if_neg this.2, if_neg this.1, if_neg this.2]
theorem runL_congr {pg : Nat → Nat × Nat} {wd wd' : Nat → Int64} (hw : ∀ k, k < 12 → wd k = wd' k) : ∀ (k p : Nat) (ts t' : List Bool) (l : List Int64), tcs pg k p ts = some t' → runL pg wd k p l = runL pg wd' k p l
  | 0, _, _, _, _, _ => rfl
  | k + 1, p, ts, t', l, h => by
    unfold tcs at h
    obtain ⟨t1, h1, h2⟩ := Option.bind_eq_some_iff.1 h
    show runL pg wd k (p + 1) (ev1 wd (pg p) l) = runL pg wd' k (p + 1) (ev1 wd' (pg p) l)
    rw [ev1_congr h1 hw]
    exact runL_congr hw k (p + 1) t1 t' _ h2
theorem runL_ty {pg : Nat → Nat × Nat} {wd : Nat → Int64} : ∀ (k p : Nat) (ts t' : List Bool) (l : List Int64), tcs pg k p ts = some t' → tyR ts l → tyR t' (runL pg wd k p l)
  | 0, _, _, _, _, h, hl => by cases Option.some.inj h; exact hl
  | k + 1, p, ts, t', l, h, hl => by
    unfold tcs at h
    obtain ⟨t1, h1, h2⟩ := Option.bind_eq_some_iff.1 h
    exact runL_ty k (p + 1) t1 t' _ h2 (ev_ty h1 hl)
theorem runP_01 {pg : Nat → Nat × Nat} {wd : Nat → Int64} {a e : Nat} (h : tcs pg (e - a) a [] = some [true]) : runP pg wd a e = 0 ∨ runP pg wd a e = 1 := by
  have := runL_ty (wd := wd) (e - a) a [] [true] [] h trivial
  unfold runP
  match runL pg wd (e - a) a [], this with
  | [x], h => exact h.1 rfl
theorem smL_congr {r : RU} {len : Nat} {wd wd' : Nat → Int64} (hr : ruOK r len) (hw : ∀ k, k < 12 → wd k = wd' k) : ∀ (k c : Nat), c + k = r.1 → smL r wd k c = smL r wd' k c
  | 0, _, _ => rfl
  | k + 1, c, h => by
    have h1 := hr.2.2.2 c (by omega)
    unfold smL
    have ea : runP r.2.2.2.2 wd (r.2.1 c) (r.2.2.1 c) = runP r.2.2.2.2 wd' (r.2.1 c) (r.2.2.1 c) := congrArg hd0 (runL_congr hw _ _ _ _ _ h1.2.2.2.1)
    rw [ea, smL_congr hr hw k (c + 1) (by omega)]
    by_cases e : r.2.2.1 c = r.2.2.2.1 c
    · rw [if_pos (Or.inl e), if_pos (Or.inl e)]
    · have eb : runP r.2.2.2.2 wd (r.2.2.1 c) (r.2.2.2.1 c) = runP r.2.2.2.2 wd' (r.2.2.1 c) (r.2.2.2.1 c) := congrArg hd0 (runL_congr hw _ _ _ _ _ (h1.2.2.2.2 (by omega)))
      rw [eb]
/-- the reference's rows hold rule r at t -/
def rmR (sign clause clauses : Nat → Int32) (t : Nat) (r : RU) (len : Nat) : Prop :=
  ruOK r len ∧ clauses t = nn r.1 ∧ (∀ c, c < r.1 → clause (48 * t + 4 * c) = nn (r.2.1 c) ∧ clause (48 * t + 4 * c + 1) = nn (r.2.2.1 c) ∧ clause (48 * t + 4 * c + 2) = (if r.2.2.1 c = r.2.2.2.1 c then -nn 1 else nn (r.2.2.1 c)) ∧ clause (48 * t + 4 * c + 3) = nn (r.2.2.2.1 c)) ∧
  (∀ i, i < len → sign (400 * t + i) = nn ((r.2.2.2.2 i).1 + 16 * (r.2.2.2.2 i).2))
theorem neg1_lt : (-nn 1 : Int32) < nn 0 := by decide
theorem neg1_le : ¬ nn 0 ≤ (-nn 1 : Int32) := by decide
theorem summedBy_l2_ev {sign clause clauses : Nat → Int32} {t len : Nat} {r : RU} {wd : Nat → Int64} (ht : t < 6) (hR : rmR sign clause clauses t r len) :
    ∀ (k c n : Nat) (z : Nat → Int64) (tp : Int32), c + k = r.1 → k < n → ∃ z' tp', m_summedBy_l2 sign clause clauses wd (nn t) n (nn c) z tp = some (smL r wd k c, z', tp') := by
  obtain ⟨hok, hcl, hcs, hsg⟩ := hR
  have hC := hok.1
  have hlen := hok.2.1
  intro k
  induction k with
  | zero =>
    intro c n z tp h1 h2
    match n, h2 with
    | n + 1, _ =>
    refine ⟨z, tp, ?_⟩
    unfold m_summedBy_l2
    rw [rq_inb (by omega) (by omega), nn_tn (by omega), hcl, ifle_t (by omega) (by omega)]
    rfl
  | succ k ih =>
    intro c n z tp h1 h2
    match n, h2 with
    | n + 1, h2 =>
    have hc := hcs c (by omega)
    have ho := hok.2.2.2 c (by omega)
    have hpg : ∀ e, e ≤ len → ∀ i, i < e → (r.2.2.2.2 i).1 < 16 ∧ (r.2.2.2.2 i).2 < 100000 := fun e he i hi => hok.2.2.1 i (by omega)
    have hsg' : ∀ e, e ≤ len → ∀ i, i < e → sign (400 * t + i) = nn ((r.2.2.2.2 i).1 + 16 * (r.2.2.2.2 i).2) := fun e he i hi => hsg i (by omega)
    unfold m_summedBy_l2
    rw [rq_inb (by omega) (by omega), nn_tn (by omega), hcl, ifle_f (by omega) (by omega)]
    simp only [lt, li48, li4, li2, li3, li1, li0]
    simp only [nn_mul, nn_add]
    rw [rq_inb (by omega) (by omega), nn_tn (by omega), hc.2.2.1, nn_tn (by omega), nn_tn (by omega), hc.1, hc.2.1]
    by_cases e : r.2.2.1 c = r.2.2.2.1 c
    · rw [if_pos e, if_pos neg1_lt, rq_inb (by omega) (by omega), rq_inb (by omega) (by omega)]
      obtain ⟨z', hz⟩ := reckons_ev (wd := wd) ht (by omega) (hpg (r.2.2.1 c) (by omega)) (hsg' (r.2.2.1 c) (by omega)) ho.1 ho.2.2.2.1 z tp
      rw [hz, bs]
      refine ⟨z', nn 0, ?_⟩
      show _ = some (smL r wd (k + 1) c, z', nn 0)
      unfold smL
      rw [if_pos (Or.inl e)]
    · have ho2 := ho.2.2.2.2 (by omega)
      rw [if_neg e, iflt_f (by omega) (by omega), rq_inb (by omega) (by omega), rq_inb (by omega) (by omega), nn_tn (by omega), hc.2.2.2]
      obtain ⟨z', hz⟩ := reckons_ev (wd := wd) ht (by omega) (hpg (r.2.2.2.1 c) (by omega)) (hsg' (r.2.2.2.1 c) (by omega)) ho.2.1 ho2 z tp
      rw [hz, bs]
      show ∃ z' tp', (if lg_cmp (runP r.2.2.2.2 wd (r.2.2.1 c) (r.2.2.2.1 c)) 1 = nn 0 then _ else _) = some (smL r wd (k + 1) c, z', tp')
      unfold smL
      rcases runP_01 (wd := wd) ho2 with h0 | h0
      · rw [h0, if_neg (by decide), if_neg (by intro h; rcases h with h | h; exact e h; exact h rfl)]
        exact ih (c + 1) n z' (nn 0) (by omega) (by omega)
      · rw [h0, if_pos (by decide), rq_inb (by omega) (by omega), rq_inb (by omega) (by omega)]
        obtain ⟨z2, hz2⟩ := reckons_ev (wd := wd) ht (by omega) (hpg (r.2.2.1 c) (by omega)) (hsg' (r.2.2.1 c) (by omega)) ho.1 ho.2.2.2.1 z' (nn 0)
        rw [hz2, bs]
        refine ⟨z2, nn 0, ?_⟩
        rw [if_pos (Or.inr (by decide))]
/-- the rule in force -/
def frR (sign clause clauses : Nat → Int32) (force : Int32) (ru : Option RU) : Prop :=
  match ru with
  | none => force = -nn 1
  | some r => ∃ t len, t < 6 ∧ force = nn t ∧ rmR sign clause clauses t r len
theorem rSt_upd {N k : Nat} {rg : Nat → Nat} {d : Nat → Int32} {v : Int32} (h : rSt N rg d) (hN : N ≤ 6) (hk : k < 35 ∨ 41 ≤ k) : rSt N rg (upd d k v) := by
  intro j hj
  rw [upd_o (by omega)]
  exact h j hj
section sumof
variable {sign clause clauses : Nat → Int32} {force : Int32} {ru : Option RU} {d : Nat → Int32} {N B L : Nat} {rg pl : Nat → Nat} {s b : Nat}
theorem sumOf_ev (hf : frR sign clause clauses force ru) (hN : N ≤ 6) (hr : rOK N rg pl) (hd : rSt N rg d) (h3 : d 3 = nn N) (h1 : d 1 = nn L) (hL : 0 < L) (hL2 : L ≤ 20) (hs : s < N) (hb : b < 6) (z : Nat → Int64) (tp : Int32) (wd : Nat → Int64) :
    ∃ z' tp' wd', m_sumOf (nn b) (nn s) sign clause clauses z tp wd d force = some (wS ru N rg pl d b s, z', tp', wd') := by
  have hp := praiseOf_ev hN hr hd h3 hs
  have hse := sellerOf_ev hN hr hd h3 hs
  have hsl := slr_lt hr hs
  have j18 : ∀ cm : Int64, cm = (if d (95 + b) = nn s then 1 else 0) → ∃ z' tp' wd', m_sumOf_j18 (nn b) (nn s) sign clause clauses z tp wd d force cm = some (wS ru N rg pl d b s, z', tp', wd') := by
    intro cm hcm
    unfold m_sumOf_j18
    match ru, hf with
    | none, hf =>
      have hf : force = -nn 1 := hf
      rw [hf, if_neg (by rw [li0]; exact neg1_le), hp, bs, hcm]
      exact ⟨_, _, _, rfl⟩
    | some r, ⟨t, len, ht, hf, hR⟩ =>
      rw [hf, li0, ifle_t (by omega) (by omega)]
      have key : ∀ x9 : Int64, x9 = (if brS N rg pl d s = true then 1 else 0) → ∀ w0 : Nat → Int64, (∀ k, k < 9 → w0 k = wdS N rg pl d b s k) → ∃ z' tp' wd', m_sumOf_j186 sign clause clauses z tp w0 d (nn t) (nn 9) x9 = some (wS (some r) N rg pl d b s, z', tp', wd') := by
        intro x9 h9 w0 hw0
        unfold m_sumOf_j186
        have hL0 : ¬ nn L = nn 0 := by rw [nn_inj (by omega) (by omega)]; omega
        simp (disch := omega) only [lt, rq_inb, rq_dec, rq_bo0, rq_bo1, rq_bob, bs, ba, nn_add, nn_mul, nn_tn, nn_le, nn_lt, nn_inj, nn_m1, nn_sub, upd_s, upd_o, updL_s, updL_o, li31, li25, li0, li1, li2, li3, li4, li5, li6, li7, li8, li9, li10, li11, li12, li13, li14, li15, li16, li19, li20, li24, li32, li35, li36, li40, li41, li42, li45, li47, li48, li50, li53, li57, li60, li79, li89, li91, li93, li95, li97, li99, li100, li101, li107, li113, li119, li122, li125, li155, li156, li200, li255, li288, li400, li999, li9999, li1580, li2400, li624, h1]
        unfold m_summedBy
        obtain ⟨z', tp', hz⟩ := summedBy_l2_ev (wd := vp_updL (vp_updL (vp_updL w0 9 x9) 10 (d 10 - d 10 / nn L * nn L).toInt64) 11 (d 10 / nn L).toInt64) ht hR r.1 0 FU z tp (by omega) (by have := hR.1.1; unfold FU; omega)
        rw [smL_congr hR.1 (wd' := wdS N rg pl d b s) ?_ r.1 0 (by omega)] at hz
        · rw [li0, hz, bs]
          exact ⟨z', tp', _, rfl⟩
        · intro k hk
          by_cases e11 : k = 11
          · subst e11; rw [updL_s]; unfold wdS; simp [h1]
          rw [updL_o e11]
          by_cases e10 : k = 10
          · subst e10; rw [updL_s]; unfold wdS; simp [h1]
          rw [updL_o e10]
          by_cases e9 : k = 9
          · subst e9; rw [updL_s, h9]; unfold wdS; simp
          rw [updL_o e9]
          exact hw0 k (by omega)
      simp (disch := omega) only [lt, rq_inb, rq_dec, rq_bo0, rq_bo1, rq_bob, bs, ba, nn_add, nn_mul, nn_tn, nn_le, nn_lt, nn_inj, nn_m1, nn_sub, upd_s, upd_o, updL_s, updL_o, li31, li25, li0, li1, li2, li3, li4, li5, li6, li7, li8, li9, li10, li11, li12, li13, li14, li15, li16, li19, li20, li24, li32, li35, li36, li40, li41, li42, li45, li47, li48, li50, li53, li57, li60, li79, li89, li91, li93, li95, li97, li99, li100, li101, li107, li113, li119, li122, li125, li155, li156, li200, li255, li288, li400, li999, li9999, li1580, li2400, li624, hp, hse, goodsOf_ev, priceOf_ev, bears_ev, b01_0]
      have hw0 : ∀ k, k < 9 → (vp_updL (vp_updL (vp_updL (vp_updL (vp_updL (vp_updL (vp_updL (vp_updL (vp_updL wd 0 (nn b).toInt64) 1 (nn s).toInt64) 2 (d (47 + b)).toInt64) 3 (d (11 + 4 * s + 1)).toInt64) 4 (prS N rg pl d s).toInt64) 5 cm) 6 (d (11 + 4 * s)).toInt64) 7 (d (101 + s) - d (11 + 4 * s)).toInt64) 8 (d (53 + 6 * b + s)).toInt64) k = wdS N rg pl d b s k := by
        intro k hk
        have : k = 0 ∨ k = 1 ∨ k = 2 ∨ k = 3 ∨ k = 4 ∨ k = 5 ∨ k = 6 ∨ k = 7 ∨ k = 8 := by omega
        rcases this with h | h | h | h | h | h | h | h | h <;> subst h <;> simp [vp_updL, wdS, hcm]
      by_cases hg : gB (d (41 + slr N rg pl s)) s = true
      · rw [if_neg (fun h => h hg)]
        exact key 1 (by unfold brS; rw [if_pos hg]) _ hw0
      · rw [if_pos hg]
        exact key 0 (by unfold brS; rw [if_neg hg]) _ hw0
  unfold m_sumOf
  rw [li95, nn_add, rq_inb (by omega) (by omega), nn_tn (by omega)]
  by_cases hc : d (95 + b) = nn s
  · rw [if_pos hc]; exact j18 1 (by rw [if_pos hc])
  · rw [if_neg hc]; exact j18 0 (by rw [if_neg hc])
end sumof
