/-! asks: which rules fit the notes -/
def ruAt (rs : Nat → RU) (k : Nat) : Option RU := match k with | 0 => none | k + 1 => some (rs k)
theorem id_ok (N : Nat) : rOK N (fun k => k) (fun k => k) := fun k hk => ⟨hk, hk, rfl, rfl⟩
/-- rule k (0: none) fits -/
def fiB (rs : Nat → RU) (N B : Nat) (d : Nat → Int32) (nr : Nat → Nt) (n k : Nat) : Bool := ftB (ruAt rs k) N B (fun k => k) (fun k => k) (begD d) nr n
theorem sub_ixS (k : Nat) (h : k < 1000) : nn k - nn 1 = ixS k := by
  rw [Int32.sub_eq_add_neg]; exact ixS_pred k h
theorem ixS_succ (k : Nat) : ixS k + nn 1 = nn k := by
  match k with
  | 0 => decide
  | k + 1 => exact nn_add k 1
theorem nar01 {c : Bool} : vp_nar .boolean (b01 (c = true)) = b01 (c = true) := by cases c <;> rfl
section mruled
variable {sign clause clauses : Nat → Int32} {force : Int32} {d : Nat → Int32} {N B L n R : Nat} {nr : Nat → Nt} {rs : Nat → RU}
theorem begin_fx {rg : Nat → Nat} (hf : fxR N B L rg d) : fxR N B L (fun k => k) (begD d) := by
  obtain ⟨h1, h2, h3, h4, h5, h6, h7, h8⟩ := hf
  refine ⟨h1, h2, h3, h4, by rw [beg_o (by omega), h5], by rw [beg_o (by omega), h6], by rw [beg_o (by omega), h7], fun k hk => ?_⟩
  unfold begD
  rw [if_neg (by omega), if_neg (by omega), if_neg (by omega), if_pos (by omega), show 35 + k - 35 = k by omega]
theorem frR_at (hR : ∀ t, t < R → ∃ len, rmR sign clause clauses t (rs t) len) (hR6 : R ≤ 6) {k : Nat} (hk : k ≤ R) : frR sign clause clauses (ixS k) (ruAt rs k) := by
  match k, hk with
  | 0, _ => rfl
  | k + 1, hk =>
    obtain ⟨len, h⟩ := hR k (by omega)
    exact ⟨k, len, by omega, rfl, h⟩
theorem fills_l11_ev {rg : Nat → Nat} {kp : Nat → Int32} (hR : ∀ t, t < R → ∃ len, rmR sign clause clauses t (rs t) len) (hR6 : R ≤ 6) (hf : fxR N B L rg d) (hn : nrR N n nr d) (hk : ∀ k, k < 79 → kp k = d (10 + k)) (x1 was : Int32) :
    ∀ (k r f : Nat) (z : Nat → Int64) (tp : Int32) (wd u : Nat → Int64) (said : Nat → Int32) (fo : Int32) (isF tt : Nat → Int32), r + k = R + 1 → k < f → oEq d said → (∀ j, j < r → isF j = b01 (fiB rs N B d nr n j = true)) → (∀ t, x1 = nn t → t ≤ 60 → ∀ j, j < r → ∀ s, s < 6 → tt (6 * j + s) = tjD (ruAt rs j) N B (fun k => k) (fun k => k) (begD d) (t + 1) (11 + 4 * s + 2)) →
      ∃ z' tp' wd' isF' tt', m_fillsFits_l11 (nn R) sign clause clauses (-nn 1) kp x1 was f (nn r) z tp wd said fo (nn 0) isF tt = some (z', tp', wd', d, was, nn 0, kp, isF', tt') ∧ (∀ j, j ≤ R → isF' j = b01 (fiB rs N B d nr n j = true)) ∧ (∀ t, x1 = nn t → t ≤ 60 → ∀ j, j ≤ R → ∀ s, s < 6 → tt' (6 * j + s) = tjD (ruAt rs j) N B (fun k => k) (fun k => k) (begD d) (t + 1) (11 + 4 * s + 2)) := by
  intro k
  induction k with
  | zero =>
    intro r f z tp wd u said fo isF tt h1 h2 ho h3 h4
    match f, h2 with
    | f + 1, _ =>
    unfold m_fillsFits_l11
    rw [iflt_t (by omega) (by omega), laysBack_ev ho hk, bs]
    exact ⟨z, tp, wd, isF, tt, rfl, fun j hj => h3 j (by omega), fun t e1 e2 j hj => h4 t e1 e2 j (by omega)⟩
  | succ k ih =>
    intro r f z tp wd u said fo isF tt h1 h2 ho h3 h4
    match f, h2 with
    | f + 1, h2 =>
    have eb : begD said = begD d := beg_congr ho
    have hfb := begin_fx hf
    have hnb : nrR N n nr (begD d) := nr_oEq hn (fun k h _ => beg_o (by omega))
    obtain ⟨z', tp', wd', tt', hz, hj, ht⟩ := areAllSo_ev (frR_at hR hR6 (show r ≤ R by omega)) (id_ok N) hfb hnb (show r < 7 by omega) x1 z tp wd tt
    unfold m_fillsFits_l11
    simp only [lt, li1]
    rw [iflt_f (by omega) (by omega), begins_ev, bs, eb, sub_ixS r (by omega), hz, bs, rq_inb (by omega) (by omega), nn_tn (by omega), nn_add]
    refine ih (r + 1) f z' tp' wd' u _ _ _ _ (by omega) (by omega) ?_ (fun j hj2 => ?_) (fun t e1 e2 j hj2 s hs => ?_)
    · intro k hk2
      show tjD _ N B _ _ (begD d) 61 k = d k
      rw [show tjD (ruAt rs r) N B (fun k => k) (fun k => k) (begD d) 61 k = begD d k from minsS_o hfb.1 hfb.2.1 (id_ok N) (by omega) _ _ _, beg_o (by omega)]
    · by_cases e : j = r
      · subst e; rw [upd_s]; exact nar01
      · rw [upd_o e]; exact h3 j (by omega)
    · by_cases e : j = r
      · subst e; exact ht t e1 e2 s hs
      · show tt' (6 * j + s) = _
        rw [hj _ (by omega)]; exact h4 t e1 e2 j (by omega) s hs
theorem fills_ev {rg : Nat → Nat} (hR : ∀ t, t < R → ∃ len, rmR sign clause clauses t (rs t) len) (hR6 : R ≤ 6) (hf : fxR N B L rg d) (hn : nrR N n nr d) (x1 : Int32) (z : Nat → Int64) (tp : Int32) (wd : Nat → Int64) (kept isF tt : Nat → Int32) :
      ∃ z' tp' wd' kp isF' tt', m_fillsFits x1 (nn R) sign clause clauses z tp wd d force (-nn 1) (nn 0) kept isF tt = some (z', tp', wd', d, force, nn 0, kp, isF', tt') ∧ (∀ j, j ≤ R → isF' j = b01 (fiB rs N B d nr n j = true)) ∧ (∀ t, x1 = nn t → t ≤ 60 → ∀ j, j ≤ R → ∀ s, s < 6 → tt' (6 * j + s) = tjD (ruAt rs j) N B (fun k => k) (fun k => k) (begD d) (t + 1) (11 + 4 * s + 2)) := by
  obtain ⟨kp, hkp, ekp⟩ := keeps_ev d kept
  obtain ⟨z', tp', wd', isF', tt', h1, h2, h3⟩ := fills_l11_ev (L := L) hR hR6 hf hn ekp x1 force (R + 1) 0 FU z tp wd wd d force isF tt (by omega) (by unfold FU; omega) (fun _ _ => rfl) (fun j h => by omega) (fun t _ _ j h => by omega)
  refine ⟨z', tp', wd', kp, isF', tt', ?_, h2, h3⟩
  unfold m_fillsFits
  rw [hkp, bs, li0]
  exact h1
def frv (f : Option Nat) : Int32 := match f with | none => -nn 2 | some c => ixS c
theorem ruled_l36_ev {z : Nat → Int64} {tp : Int32} {wd : Nat → Int64} {kp isF tt : Nat → Int32} {p : Nat → Bool} (hR6 : R ≤ 6) (hF : ∀ j, j ≤ R → isF j = b01 (p j = true)) (w : Int32) :
    ∀ (k f : Nat), k ≤ R + 1 → k < f → m_ruled_l36 (nn R) sign clause clauses z tp wd d force (-nn 1) (nn 0) kp isF tt w f (nn (cntS p (R + 1 - k) k)) (frv (frsS p (R + 1 - k) k)) (ixS k) = some (if w = nn 0 then nn (cntS p (R + 1) 0) else frv (frsS p (R + 1) 0), z, tp, wd, d, force, nn 0, kp, isF, tt) := by
  intro k
  induction k with
  | zero =>
    intro f h1 h2
    match f, h2 with
    | f + 1, _ =>
    unfold m_ruled_l36
    simp only [li0]
    rw [show ixS 0 = -nn 1 from rfl, if_pos neg1_lt, Nat.sub_zero]
    by_cases e : w = nn 0
    · rw [if_pos e, if_pos e]
    · rw [if_neg e, if_neg e]
  | succ k ih =>
    intro f h1 h2
    match f, h2 with
    | f + 1, h2 =>
    unfold m_ruled_l36
    simp only [lt, li0, li1]
    rw [show ixS (k + 1) = nn k from rfl, iflt_f (by omega) (by omega), rq_inb (by omega) (by omega), nn_tn (by omega), hF k (by omega), ixS_pred k (by omega), sub_ixS k (by omega), nn_add]
    have e6 : R + 1 - k = (R + 1 - (k + 1)) + 1 := by omega
    have h3 := ih f (by omega) (by omega)
    rw [e6] at h3
    unfold cntS frsS at h3
    by_cases e : p k = true
    · rw [if_neg (by rw [b01_0]; exact fun h => h e)]
      rw [if_pos e, if_pos e, Nat.add_comm 1] at h3
      exact h3
    · rw [if_pos (by rw [b01_0]; exact e)]
      rw [if_neg e, if_neg e, Nat.zero_add] at h3
      exact h3
end mruled
section cruled
variable {d : Nat → Int32} {N B L n R : Nat} {nr nc : Nat → Nt} {rs : Nat → RU} {g5 : tyFair} {g7 : tyNotes} {pr : Nat → tyRule}
theorem ruleOf_0 : mTrials_ruleOf_rules (ixS 0) = some none := by
  unfold mTrials_ruleOf_rules
  rw [within_ev, bs, if_pos]
  rw [li0, b01_0]
  decide
theorem ruleOf_s {t : Nat} (h : t < 6) : mTrials_ruleOf_rules (ixS (t + 1)) = some (some t) := by
  unfold mTrials_ruleOf_rules
  rw [show ixS (t + 1) = nn t from rfl, within_ev, bs, if_neg, rq_inb (by omega) (by omega)]
  · simp only [lt]; rw [nn_tn (by omega)]
  · rw [li0, b01_0]
    intro h2
    apply h2
    rw [wi_iff, show (nn 0).toInt = 0 from rfl, nn_toInt (k := t) (by omega), show ((6 : Int32) - 1).toInt = 5 from by decide]
    omega
/-- the class's rules, as they were -/
def prE (pr p : Nat → tyRule) : Prop := ∀ t, rqE (pr t) (p t)
theorem prE.refl (pr : Nat → tyRule) : prE pr pr := fun t => rqE.refl _
theorem prE.up {p : Nat → tyRule} {j : Nat} {q : tyRule} (h : prE pr p) (hq : rqE (pr j) q) : prE pr (va_up p j q) := by
  intro t
  by_cases e : t = j
  · subst e; rw [va_up_self]; exact hq
  · rw [va_up_ne _ _ e]; exact h t
theorem ft_set {ru : Option RU} {rg pl : Nat → Nat} (h1 : ∀ i, i < n → ∃ j, j < n ∧ nc i = nr j) (h2 : ∀ j, j < n → ∃ i, i < n ∧ nc i = nr j) : ftB ru N B rg pl d nc n = ftB ru N B rg pl d nr n := by
  rw [Bool.eq_iff_iff, ft_iff, ft_iff]
  constructor
  · intro h j hj
    obtain ⟨i, hi, e⟩ := h2 j hj
    rw [← e]; exact h i hi
  · intro h i hi
    obtain ⟨j, hj, e⟩ := h1 i hi
    rw [e]; exact h j hj
/-- the notes of both are the same -/
def ntE (N n : Nat) (nr nc : Nat → Nt) (g : tyNotes) : Prop := n ≤ 10 ∧ ncR n nc g ∧ (∀ i, i < n → (nc i).1 ≤ 60 ∧ (nc i).2.1 < N) ∧ (∀ i, i < n → ∃ j, j < n ∧ nc i = nr j) ∧ (∀ j, j < n → ∃ i, i < n ∧ nc i = nr j)
theorem fitr_ev {rg pl : Nat → Nat} {g1 : tyFair} {r : RU} {len : Nat} {q : tyRule} (hR : rcR q.1 q.2.1 q.2.2.1 q.2.2.2.1 q.2.2.2.2.1 q.2.2.2.2.2.1 q.2.2.2.2.2.2.2.1 r len) (hr : rOK N rg pl) (hn : ntE N n nr nc g7) (hm0 : d 10 = nn 0) (hF : fR N B L rg pl d g1) :
    ∃ g1' q', mNotes_fitrr g7 g1 q = some (b01 (ftB (some r) N B rg pl d nr n = true), g1', q') ∧ rqE q q' := by
  obtain ⟨h10, h1, h2, h3, h4⟩ := hn
  obtain ⟨g1', q', hz, hq⟩ := fitr_l2_ev hR hr h1 h10 h2 hm0 n 0 FU 0 g1 q (by omega) (by unfold FU; omega) (fun j _ _ => by omega) (by omega) hF hm0 (rqE.refl q)
  refine ⟨g1', q', ?_, hq⟩
  rw [← ft_set (nc := nc) (nr := nr) h3 h4]
  exact hz
theorem fitn_ev {rg pl : Nat → Nat} {g1 : tyFair}  (hr : rOK N rg pl) (hn : ntE N n nr nc g7) (hm0 : d 10 = nn 0) (hF : fR N B L rg pl d g1) :
    ∃ g1' , mNotes_fitrn g7 g1  = some (b01 (ftB none N B rg pl d nr n = true), g1')  := by
  obtain ⟨h10, h1, h2, h3, h4⟩ := hn
  obtain ⟨g1',  hz⟩ := fitn_l2_ev  hr h1 h10 h2 hm0 n 0 FU 0 g1  (by omega) (by unfold FU; omega) (fun j _ _ => by omega) (by omega) hF hm0 
  refine ⟨g1',  ?_⟩
  rw [← ft_set (nc := nc) (nr := nr) h3 h4]
  exact hz
def rdS (p : Nat → Bool) : Nat → Nat → Int32 × Int32 → Int32 × Int32
  | 0, _, s => s
  | k + 1, c, s => if p c = true then (if s.1 = nn 0 then rdS p k (c + 1) (s.1 + nn 1, ixS c) else rdS p k (c + 1) (s.1 + nn 1, s.2)) else rdS p k (c + 1) s
theorem rdS_val {p : Nat → Bool} : ∀ (k c m : Nat) (s : Int32), m + k < 1000 → rdS p k c (nn m, s) = (nn (m + cntS p k c), if m = 0 then (match frsS p k c with | none => s | some x => ixS x) else s)
  | 0, c, m, s, _ => by unfold rdS cntS frsS; simp
  | k + 1, c, m, s, h => by
    unfold rdS cntS frsS
    by_cases e : p c = true
    · simp only [if_pos e]
      by_cases e2 : m = 0
      · subst e2
        simp only [if_true]
        rw [nn_add, rdS_val k (c + 1) (0 + 1) _ (by omega), if_neg (by omega)]
        simp only [Nat.zero_add]
      · have e3 : ¬ nn m = nn 0 := by rw [nn_inj (by omega) (by omega)]; exact e2
        simp only [if_neg e3, if_neg e2]
        rw [nn_add, rdS_val k (c + 1) (m + 1) _ (by omega), if_neg (by omega), Nat.add_assoc]
    · simp only [if_neg e]
      rw [rdS_val k (c + 1) m s (by omega), Nat.zero_add]
theorem c_ruled (hR : ∀ t, t < R → ∃ len, rcR (pr t).1 (pr t).2.1 (pr t).2.2.1 (pr t).2.2.2.1 (pr t).2.2.2.2.1 (pr t).2.2.2.2.2.1 (pr t).2.2.2.2.2.2.2.1 (rs t) len) (hR6 : R ≤ 6) (hn : ntE N n nr nc g7) (hF : fR N B L (fun k => k) (fun k => k) (begD d) g5) :
    ∀ (k j f : Nat) (t : tyTrials) (g1 : tyFair) (p : Nat → tyRule), j + k = R + 1 → k < f → prE pr p →
      ∃ t' g1' p', mTrials_findRuledr_rules_l11 g5 g7 (nn R) f (ixS j) t g1 p = some (t', g1', p') ∧ (t'.1 0, t'.1 1) = rdS (fiB rs N B d nr n) k j (t.1 0, t.1 1) ∧ prE pr p' := by
  have hm0 : begD d 10 = nn 0 := rfl
  have hle : ∀ j, j ≤ R → ¬ nn R ≤ ixS j := by
    intro j hj
    match j, hj with
    | 0, _ => rw [show ixS 0 = -nn 1 from rfl, Int32.le_iff_toInt_le, nn_toInt (by omega), show (-nn 1).toInt = -1 from by decide]; omega
    | j + 1, hj => rw [show ixS (j + 1) = nn j from rfl, nn_le (by omega) (by omega)]; omega
  intro k
  induction k with
  | zero =>
    intro j f t g1 p h1 h2 hp
    match f, h2 with
    | f + 1, _ =>
    have hj : j = R + 1 := by omega
    subst hj
    unfold mTrials_findRuledr_rules_l11
    rw [show ixS (R + 1) = nn R from rfl, ifle_t (by omega) (by omega)]
    exact ⟨t, g1, p, rfl, rfl, hp⟩
  | succ k ih =>
    intro j f t g1 p h1 h2 hp
    match f, h2 with
    | f + 1, h2 =>
    obtain ⟨g3, hg3, eg3⟩ := from_ev g1 g5
    have hF3 := fR_gEq hF eg3
    have step : ∀ (c : Bool) (g' : tyFair) (p' : Nat → tyRule), c = fiB rs N B d nr n j → prE pr p' →
        ∃ t' g1' p'', (if b01 (c = true) = nn 0 then mTrials_findRuledr_rules_l11 g5 g7 (nn R) f (ixS j + nn 1) t g' p' else rq (inb (nn 0) 3) (if t.1 (nn 0).toNatClampNeg = nn 0 then rq (inb (nn 1) 3) (rq (inb (nn 0) 3) (rq (inb (nn 0) 3) (mTrials_findRuledr_rules_l11 g5 g7 (nn R) f (ixS j + nn 1) (upd (upd t.1 (nn 1).toNatClampNeg (ixS j)) (nn 0).toNatClampNeg (upd t.1 (nn 1).toNatClampNeg (ixS j) (nn 0).toNatClampNeg + nn 1), t.2.1, t.2.2.1, t.2.2.2.1, t.2.2.2.2) g' p'))) else rq (inb (nn 0) 3) (rq (inb (nn 0) 3) (mTrials_findRuledr_rules_l11 g5 g7 (nn R) f (ixS j + nn 1) (upd t.1 (nn 0).toNatClampNeg (t.1 (nn 0).toNatClampNeg + nn 1), t.2.1, t.2.2.1, t.2.2.2.1, t.2.2.2.2) g' p')))) = some (t', g1', p'') ∧ (t'.1 0, t'.1 1) = rdS (fiB rs N B d nr n) (k + 1) j (t.1 0, t.1 1) ∧ prE pr p'' := by
      intro c g' p' hc hp'
      have exs : ixS j + nn 1 = ixS (j + 1) := ixS_succ j
      rw [exs, rq_inb (by omega) (by omega), rq_inb (by omega) (by omega), rq_inb (by omega) (by omega), rq_inb (by omega) (by omega)]
      unfold rdS
      rw [← hc]
      by_cases e : c = true
      · rw [if_neg (by rw [b01_0]; exact fun h => h e), if_pos e]
        by_cases e3 : t.1 0 = nn 0
        · rw [if_pos (show t.1 (nn 0).toNatClampNeg = nn 0 from e3), if_pos e3]
          exact ih (j + 1) f (upd (upd t.1 1 (ixS j)) 0 (upd t.1 1 (ixS j) 0 + nn 1), t.2) g' p' (by omega) (by omega) hp'
        · rw [if_neg (show ¬ t.1 (nn 0).toNatClampNeg = nn 0 from e3), if_neg e3]
          exact ih (j + 1) f (upd t.1 0 (t.1 0 + nn 1), t.2) g' p' (by omega) (by omega) hp'
      · rw [if_pos (by rw [b01_0]; exact e), if_neg e]
        exact ih (j + 1) f t g' p' (by omega) (by omega) hp'
    unfold mTrials_findRuledr_rules_l11
    rw [if_neg (hle j (by omega)), hg3, bs]
    match j, h1 with
    | 0, h1 =>
      rw [ruleOf_0, bs]
      obtain ⟨g', hz⟩ := fitn_ev (id_ok N) hn hm0 hF3
      unfold mt
      rw [hz, bs]
      simp only [lt, li0, li1]
      exact step (fiB rs N B d nr n 0) g' p rfl hp
    | j + 1, h1 =>
      obtain ⟨len, hlen⟩ := hR j (by omega)
      rw [ruleOf_s (by omega), bs]
      obtain ⟨g', q', hz, hq⟩ := fitr_ev (rcR_E hlen (hp j)) (id_ok N) hn hm0 hF3
      unfold mt
      simp only
      rw [rq_dec (show j < 6 by omega), hz, bs]
      simp only [lt, li0, li1]
      exact step (fiB rs N B d nr n (j + 1)) g' (va_up p j q') rfl (hp.up ((hp j).trans hq))
end cruled
