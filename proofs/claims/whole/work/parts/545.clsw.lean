/-! the class: what goods are worth, the choice -/
/-- the class's rows hold rule r -/
def rcR (steps : Nat → Int32) (size : Int32) (sumFrom testFrom testTo : Nat → Int32) (clauses readsTime : Int32) (r : RU) (len : Nat) : Prop :=
  ruOK r len ∧ size = nn len ∧ clauses = nn r.1 ∧ (∀ c, c < r.1 → sumFrom c = nn (r.2.1 c) ∧ testFrom c = nn (r.2.2.1 c) ∧ testTo c = nn (r.2.2.2.1 c)) ∧
  (∀ i, i < len → steps i = nn (ck (r.2.2.2.2 i).1 + 16 * cn (r.2.2.2.2 i))) ∧ (readsTime = nn 0 → ∀ i, i < len → (r.2.2.2.2 i).1 = 1 → (r.2.2.2.2 i).2 < 10)
section worth
variable {steps sumFrom testFrom testTo : Nat → Int32} {size clauses readsTime : Int32} {r : RU} {len : Nat} {wd : Nat → Int64}
theorem worth_l10_ev (hR : rcR steps size sumFrom testFrom testTo clauses readsTime r len) {q1 q2 : Int32} {a1 a2 a3 a4 a5 a6 a7 a8 : Nat → Int32} :
    ∀ (k c n : Nat) (z : Nat → Int64), c + k = r.1 → k < n → ∃ z', mRule_worth_l10 steps size sumFrom testFrom testTo clauses wd q1 q2 a1 a2 a3 a4 a5 a6 a7 a8 n (nn c) z = some (smL r wd k c, wd, z') := by
  obtain ⟨hok, hsz, hcl, hcs, hsg, hrt⟩ := hR
  subst hsz; subst hcl
  have hC := hok.1
  have hlen := hok.2.1
  intro k
  induction k with
  | zero =>
    intro c n z h1 h2
    match n, h2 with
    | n + 1, _ =>
    refine ⟨z, ?_⟩
    unfold mRule_worth_l10
    rw [ifle_t (by omega) (by omega)]
    rfl
  | succ k ih =>
    intro c n z h1 h2
    match n, h2 with
    | n + 1, h2 =>
    have hc := hcs c (by omega)
    have ho := hok.2.2.2 c (by omega)
    unfold mRule_worth_l10
    rw [ifle_f (by omega) (by omega), rq_inb (by omega) (by omega), rq_inb (by omega) (by omega), nn_tn (by omega), hc.1, hc.2.1, hc.2.2]
    simp only [li0, li1]
    rw [nn_add]
    by_cases e : r.2.2.1 c = r.2.2.2.1 c
    · rw [ifeq_t e, ifeq_f (by omega) (by omega) (by omega), rq_inb (by omega) (by omega), rq_inb (by omega) (by omega)]
      obtain ⟨z', hz⟩ := work_ev (wd := wd) (show r.2.2.1 c ≤ len by omega) hlen hok.2.2.1 hsg ho.1 ho.2.2.2.1 z
      rw [hz, bs]
      refine ⟨z', ?_⟩
      unfold smL
      rw [if_pos (Or.inl e)]
    · have ho2 := ho.2.2.2.2 (by omega)
      rw [ifeq_f e (by omega) (by omega), rq_inb (by omega) (by omega), rq_inb (by omega) (by omega)]
      obtain ⟨z', hz⟩ := work_ev (wd := wd) (show r.2.2.2.1 c ≤ len by omega) hlen hok.2.2.1 hsg ho.2.1 ho2 z
      rw [hz, bs]
      unfold smL
      by_cases h0 : runP r.2.2.2.2 wd (r.2.2.1 c) (r.2.2.2.1 c) = 0
      · rw [if_pos (by rw [lgc_eq]; exact h0), if_pos trivial, if_neg (by intro h; rcases h with h | h; exact e h; exact h h0)]
        exact ih (c + 1) n z' (by omega) (by omega)
      · rw [if_neg (by rw [lgc_eq]; exact h0), ifeq_f (by omega) (by omega) (by omega), rq_inb (by omega) (by omega), rq_inb (by omega) (by omega), if_pos (Or.inr h0)]
        obtain ⟨z2, hz2⟩ := work_ev (wd := wd) (show r.2.2.1 c ≤ len by omega) hlen hok.2.2.1 hsg ho.1 ho.2.2.2.1 z'
        rw [hz2, bs]
        exact ⟨z2, rfl⟩
end worth
/-- the class's fair and d: what the ring tells and what stays over minutes -/
def stR (N B : Nat) (rg pl : Nat → Nat) (d : Nat → Int32) (lasts stalls buyers minute : Int32) (price came seller praise borne : Nat → Int32) : Prop :=
  lasts = d 1 ∧ stalls = d 3 ∧ buyers = d 4 ∧ minute = d 10 ∧ (∀ s, s < N → price s = d (11 + 4 * s + 1)) ∧ (∀ b, b < B → came b = d (95 + b)) ∧
  (∀ s, s < N → seller s = nn (slr N rg pl s)) ∧ (∀ s, s < N → praise s = prS N rg pl d s) ∧ (∀ s, s < N → borne s = b01 (brS N rg pl d s = true))
/-- what buying changes -/
def dyR (N B : Nat) (d : Nat → Int32) (goods till sold purse had : Nat → Int32) : Prop :=
  (∀ s, s < N → goods s = d (11 + 4 * s)) ∧ (∀ s, s < N → till s = d (11 + 4 * s + 2)) ∧ (∀ s, s < N → sold s = d (101 + s) - d (11 + 4 * s)) ∧ (∀ b, b < B → purse b = d (47 + b)) ∧ (∀ b s, b < B → s < N → had (b * 6 + s) = d (53 + 6 * b + s))
section choice
variable {N B L : Nat} {rg pl : Nat → Nat} {d : Nat → Int32} {lasts stalls buyers minute : Int32} {price came seller praise borne goods till sold purse had : Nat → Int32} {b s : Nat}
theorem can_ev (hS : stR N B rg pl d lasts stalls buyers minute price came seller praise borne) (hD : dyR N B d goods till sold purse had) (hN : N ≤ 6) (hB : B ≤ 6) (hb : b < B) (hs : s < N) : mFair_can (nn b) (nn s) goods price purse = some (b01 (cnS d b s = true)) := by
  have e1 := hD.1 s hs
  have e2 := hS.2.2.2.2.1 s hs
  have e3 := hD.2.2.2.1 b hb
  unfold mFair_can cnS
  rw [rq_inb (by omega) (by omega), nn_tn (by omega), e1, li0, li1, rq_inb (by omega) (by omega), rq_inb (by omega) (by omega), nn_tn (by omega), e2, e3]
  by_cases h1 : d (11 + 4 * s) ≤ nn 0
  · rw [if_pos h1, b01_f]
    simp only [Bool.and_eq_true, decide_eq_true_eq, not_and]
    intro h; rw [Int32.lt_iff_toInt_lt] at h; rw [Int32.le_iff_toInt_le] at h1; omega
  · rw [if_neg h1]
    have h1' : nn 0 < d (11 + 4 * s) := by rw [Int32.lt_iff_toInt_lt]; rw [Int32.le_iff_toInt_le] at h1; omega
    by_cases h2 : d (47 + b) < d (11 + 4 * s + 1)
    · rw [if_pos h2, b01_f]
      simp only [Bool.and_eq_true, decide_eq_true_eq, not_and]
      intro h; rw [Int32.lt_iff_toInt_lt] at h2; rw [Int32.le_iff_toInt_le]; omega
    · rw [if_neg h2, b01_t]
      simp only [Bool.and_eq_true, decide_eq_true_eq]
      refine ⟨h1', ?_⟩
      rw [Int32.lt_iff_toInt_lt] at h2; rw [Int32.le_iff_toInt_le]; omega
theorem tellWords_ev (hS : stR N B rg pl d lasts stalls buyers minute price came seller praise borne) (hD : dyR N B d goods till sold purse had) (hf : fxR N B L rg d) (hb : b < B) (hs : s < N) (wd : Nat → Int64) :
    ∃ w, mRule_tellWords (nn b) (nn s) wd lasts minute goods price sold purse came had praise borne = some w ∧ ∀ k, k < 12 → w k = wdS N rg pl d b s k := by
  obtain ⟨hN, hB, hL, hL2, h3, h4, h5, h8⟩ := hf
  have f1 := hD.1 s hs
  have f2 := hS.2.2.2.2.1 s hs
  have f3 := hD.2.2.2.1 b hb
  have f4 := hS.2.2.2.2.2.1 b hb
  have f5 := hD.2.2.2.2 b s hb hs
  have f6 := hD.2.2.1 s hs
  have f7 := hS.2.2.2.2.2.2.2.1 s hs
  have f8 := hS.2.2.2.2.2.2.2.2 s hs
  have f9 := hS.2.2.2.1
  have el : lasts = nn L := by rw [hS.1, h5]
  have hl0 : ¬ lasts ≤ (0 : Int32) := by
    rw [el, li0, nn_le (by omega) (by omega)]; omega
  have hL0 : ¬ nn L = nn 0 := by rw [nn_inj (by omega) (by omega)]; omega
  have fin : ∀ cm : Int64, cm = (if d (95 + b) = nn s then 1 else 0) → ∃ w, mRule_tellWords_j92 (nn b) (nn s) (nn L) (vp_updL (vp_updL (vp_updL (vp_updL (vp_updL wd 0 (nn b).toInt64) 1 (nn s).toInt64) 2 (d (47 + b)).toInt64) 3 (d (11 + 4 * s + 1)).toInt64) 4 (prS N rg pl d s).toInt64) lasts minute goods price sold purse came had praise borne (nn 5) cm = some w ∧ ∀ k, k < 12 → w k = wdS N rg pl d b s k := by
    intro cm hcm
    unfold mRule_tellWords_j92
    simp (disch := omega) only [lt, rq_inb, rq_dec, rq_bo0, rq_bo1, rq_bob, bs, ba, nn_add, nn_mul, nn_tn, nn_le, nn_lt, nn_inj, nn_m1, nn_sub, upd_s, upd_o, updL_s, updL_o, li31, li25, li0, li1, li2, li3, li4, li5, li6, li7, li8, li9, li10, li11, li12, li13, li14, li15, li16, li19, li20, li24, li32, li35, li36, li40, li41, li42, li45, li47, li48, li50, li53, li57, li60, li79, li89, li91, li93, li95, li97, li99, li100, li101, li107, li113, li119, li122, li125, li155, li156, li200, li255, li288, li400, li999, li9999, li1580, li2400, li624, f1, f5, f6, f8, f9]
    refine ⟨_, rfl, ?_⟩
    intro k hk
    have hbl : (b01 (brS N rg pl d s = true)).toInt64 = (if brS N rg pl d s = true then 1 else 0) := by unfold b01; split <;> rfl
    have : k = 0 ∨ k = 1 ∨ k = 2 ∨ k = 3 ∨ k = 4 ∨ k = 5 ∨ k = 6 ∨ k = 7 ∨ k = 8 ∨ k = 9 ∨ k = 10 ∨ k = 11 := by omega
    rcases this with h | h | h | h | h | h | h | h | h | h | h | h <;> subst h <;> simp [vp_updL, wdS, hcm, hbl, h5]
  unfold mRule_tellWords
  rw [if_neg hl0, show mRule_tellWords_j15 (nn b) (nn s) wd lasts minute goods price sold purse came had praise borne lasts = mRule_tellWords_j15 (nn b) (nn s) wd lasts minute goods price sold purse came had praise borne (nn L) from congrArg (mRule_tellWords_j15 (nn b) (nn s) wd lasts minute goods price sold purse came had praise borne) el]
  unfold mRule_tellWords_j15
  simp (disch := omega) only [lt, rq_inb, rq_dec, rq_bo0, rq_bo1, rq_bob, bs, ba, nn_add, nn_mul, nn_tn, nn_le, nn_lt, nn_inj, nn_m1, nn_sub, upd_s, upd_o, updL_s, updL_o, li31, li25, li0, li1, li2, li3, li4, li5, li6, li7, li8, li9, li10, li11, li12, li13, li14, li15, li16, li19, li20, li24, li32, li35, li36, li40, li41, li42, li45, li47, li48, li50, li53, li57, li60, li79, li89, li91, li93, li95, li97, li99, li100, li101, li107, li113, li119, li122, li125, li155, li156, li200, li255, li288, li400, li999, li9999, li1580, li2400, li624, f2, f3, f4, f7]
  by_cases hc : d (95 + b) = nn s
  · rw [if_pos hc]; exact fin 1 (by rw [if_pos hc])
  · rw [if_neg hc]; exact fin 0 (by rw [if_neg hc])
theorem worth_ev {steps sumFrom testFrom testTo : Nat → Int32} {size clauses readsTime : Int32} {r : RU} {len : Nat} (hR : rcR steps size sumFrom testFrom testTo clauses readsTime r len)
    (hS : stR N B rg pl d lasts stalls buyers minute price came seller praise borne) (hD : dyR N B d goods till sold purse had) (hf : fxR N B L rg d) (hb : b < B) (hs : s < N) (wd z : Nat → Int64) :
    ∃ w z', mRule_worth (nn b) (nn s) steps size sumFrom testFrom testTo clauses wd z lasts minute goods price sold purse came had praise borne = some (wS (some r) N rg pl d b s, w, z') := by
  obtain ⟨w, hw, hk⟩ := tellWords_ev hS hD hf hb hs wd
  unfold mRule_worth
  rw [hw, bs]
  obtain ⟨z', hz⟩ := worth_l10_ev (wd := w) hR (q1 := lasts) (q2 := minute) (a1 := goods) (a2 := price) (a3 := sold) (a4 := purse) (a5 := came) (a6 := had) (a7 := praise) (a8 := borne) r.1 0 FU z (by omega) (by have := hR.1.1; unfold FU; omega)
  refine ⟨w, z', hz.trans ?_⟩
  rw [smL_congr hR.1 hk r.1 0 (by omega)]
  rfl
theorem choicer_l8_ev {steps sumFrom testFrom testTo : Nat → Int32} {size clauses readsTime : Int32} {r : RU} {len : Nat} (hR : rcR steps size sumFrom testFrom testTo clauses readsTime r len)
    (hS : stR N B rg pl d lasts stalls buyers minute price came seller praise borne) (hD : dyR N B d goods till sold purse had) (hf : fxR N B L rg d) (hb : b < B) :
    ∀ (k s n : Nat) (o : Option Nat) (m : Int64) (wd z : Nat → Int64), s + k = N → k < n →
      ∃ w' z', mFair_choicer_l8 lasts stalls minute goods price sold purse came had praise borne steps size sumFrom testFrom testTo clauses (nn b) n (oi o) m (nn s) wd z = some (oi (chS (cnS d b) (wS (some r) N rg pl d b) k s o m), w', z') := by
  have hf' := hf
  obtain ⟨hN, hB, hL, hL2, h3, h4, h5, h8⟩ := hf'
  have hst : stalls = nn N := by rw [hS.2.1, h3]
  intro k
  induction k with
  | zero =>
    intro s n o m wd z h1 h2
    match n, h2 with
    | n + 1, _ =>
    refine ⟨wd, z, ?_⟩
    unfold mFair_choicer_l8
    rw [hst, ifle_t (by omega) (by omega)]
    rfl
  | succ k ih =>
    intro s n o m wd z h1 h2
    match n, h2 with
    | n + 1, h2 =>
    unfold mFair_choicer_l8
    rw [hst, ifle_f (by omega) (by omega), ← hst, can_ev hS hD hN hB hb (by omega), bs, li0, li1, nn_add]
    unfold chS
    by_cases hc : cnS d b s = true
    · rw [if_neg (by rw [b01_0]; exact fun h => h hc), if_pos hc]
      obtain ⟨w', z', hz⟩ := worth_ev hR hS hD hf hb (show s < N by omega) wd z
      rw [hz, bs]
      show ∃ w' z', (if lg_cmp (wS (some r) N rg pl d b s) m ≤ nn 0 then _ else _) = _
      by_cases hw : m < wS (some r) N rg pl d b s
      · rw [if_neg (by rw [lgc_le, L_le]; rw [L_lt] at hw; omega), if_pos hw]
        exact ih (s + 1) n (some s) _ w' z' (by omega) (by omega)
      · rw [if_pos (by rw [lgc_le, L_le]; rw [L_lt] at hw; omega), if_neg hw]
        exact ih (s + 1) n o m w' z' (by omega) (by omega)
    · rw [if_pos (by rw [b01_0]; exact hc), if_neg hc]
      exact ih (s + 1) n o m wd z (by omega) (by omega)
/-- tongues -/
def tgR (N : Nat) (d : Nat → Int32) : Prop := ∀ s, s < N → ∃ k, k ≤ 20 ∧ d (89 + s) = nn k
theorem prS_val (hr : rOK N rg pl) (ht : tgR N d) (hs : s < N) : ∃ k, k ≤ 20 ∧ prS N rg pl d s = nn k := by
  obtain ⟨k, hk, e⟩ := ht _ (slr_lt hr hs)
  unfold prS
  rw [e]
  split
  · exact ⟨k / 2, by omega, nn_div (by omega) (by omega) (by omega)⟩
  · exact ⟨k, hk, rfl⟩
theorem choicen_l8_ev (hS : stR N B rg pl d lasts stalls buyers minute price came seller praise borne) (hD : dyR N B d goods till sold purse had) (hf : fxR N B L rg d) (hr : rOK N rg pl) (ht : tgR N d) (hb : b < B) :
    ∀ (k s n : Nat) (o : Option Nat) (m : Int64), s + k = N → k < n →
      mFair_choicen_l8 stalls goods price purse came praise (nn b) n (oi o) m (nn s) = some (oi (chS (cnS d b) (wS none N rg pl d b) k s o m)) := by
  have hf' := hf
  obtain ⟨hN, hB, hL, hL2, h3, h4, h5, h8⟩ := hf'
  have hst : stalls = nn N := by rw [hS.2.1, h3]
  intro k
  induction k with
  | zero =>
    intro s n o m h1 h2
    match n, h2 with
    | n + 1, _ =>
    unfold mFair_choicen_l8
    rw [hst, ifle_t (by omega) (by omega)]
    rfl
  | succ k ih =>
    intro s n o m h1 h2
    match n, h2 with
    | n + 1, h2 =>
    unfold mFair_choicen_l8
    rw [hst, ifle_f (by omega) (by omega), ← hst, can_ev hS hD hN hB hb (by omega), bs]
    simp only [lt, li0, li1, li3]
    rw [nn_add]
    unfold chS
    by_cases hc : cnS d b s = true
    · rw [if_neg (by rw [b01_0]; exact fun h => h hc), if_pos hc, rq_inb (by omega) (by omega), rq_inb (by omega) (by omega), nn_tn (by omega), nn_tn (by omega), hS.2.2.2.2.2.1 b hb, hS.2.2.2.2.2.2.2.1 s (by omega)]
      obtain ⟨p, hp, ep⟩ := prS_val hr ht (show s < N by omega)
      have fin : ∀ q : Int64, q = wS none N rg pl d b s → (if lg_cmp q m ≤ nn 0 then mFair_choicen_l8 stalls goods price purse came praise (nn b) n (oi o) m (nn (s + 1)) else mFair_choicen_l8 stalls goods price purse came praise (nn b) n (nn s) q (nn (s + 1))) = some (oi (if m < wS none N rg pl d b s then chS (cnS d b) (wS none N rg pl d b) k (s + 1) (some s) (wS none N rg pl d b s) else chS (cnS d b) (wS none N rg pl d b) k (s + 1) o m)) := by
        intro q hq
        subst hq
        by_cases hw : m < wS none N rg pl d b s
        · rw [if_neg (by rw [lgc_le, L_le]; rw [L_lt] at hw; omega), if_pos hw]
          exact ih (s + 1) n (some s) _ (by omega) (by omega)
        · rw [if_pos (by rw [lgc_le, L_le]; rw [L_lt] at hw; omega), if_neg hw]
          exact ih (s + 1) n o m (by omega) (by omega)
      by_cases hcm : d (95 + b) = nn s
      · rw [if_pos hcm]
        refine fin _ ?_
        unfold wS
        rw [if_pos hcm, ep, nn_add, nn_add, nnL (by omega), nnL (by omega), Int64.ofNat_add, Int64.ofNat_add]
        rfl
      · rw [if_neg hcm]
        refine fin _ ?_
        unfold wS
        rw [if_neg hcm, ep, nn_add, nn_add, nnL (by omega), nnL (by omega), Int64.ofNat_add, Int64.ofNat_add]
        rfl
    · rw [if_pos (by rw [b01_0]; exact hc), if_neg hc]
      exact ih (s + 1) n o m (by omega) (by omega)
end choice
