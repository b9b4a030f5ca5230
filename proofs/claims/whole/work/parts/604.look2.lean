theorem lkS_zero {F : Nat → Nat} : ∀ (k s : Nat), (∀ s, F s = 0) → lkS F k s none = none
  | 0, _, _ => rfl
  | k + 1, s, h => by
    unfold lkS
    simp only [if_pos (h s)]
    exact lkS_zero k (s + 1) h
theorem cpin_nn {a b c n0 n1 : Nat} (h1 : a + c ≤ n0) (h2 : b + c ≤ n1) (h3 : n0 < 1000000) (h4 : n1 < 1000000) : cpin (nn a) (nn b) (nn c) n0 n1 = true := by
  unfold cpin
  have h0 : (0 : Int32) = nn 0 := rfl
  rw [nn_tn (by omega), nn_tn (by omega), nn_tn (by omega), h0]
  simp only [Bool.and_eq_true, decide_eq_true_eq]
  rw [nn_le (by omega) (by omega), nn_le (by omega) (by omega), nn_le (by omega) (by omega)]
  omega
theorem fL_app {p : Nat → Bool} : ∀ k i, (fL p (k + 1) i) = (if p i = true then [i] else []) ++ fL p k (i + 1) := by
  intro k i
  show (if p i = true then i :: fL p k (i + 1) else fL p k (i + 1)) = _
  split <;> rfl
theorem mL_pos {al : List Int32} (h : 0 < al.length) : 0 < mL al al 0 := by
  match al, h with
  | x :: r, _ =>
    have h1 : 1 ≤ cL x (x :: r) := cL_mem (List.mem_cons_self)
    show 0 < mL (x :: r) r (if 0 < cL x (x :: r) then cL x (x :: r) else 0)
    rw [if_pos (by omega)]
    have gen : ∀ (l : List Int32) (m : Nat), 0 < m → 0 < mL (x :: r) l m := by
      intro l
      induction l with
      | nil => intro m hm; exact hm
      | cons y l ih =>
        intro m hm
        show 0 < mL (x :: r) l (if m < cL y (x :: r) then cL y (x :: r) else m)
        refine ih _ ?_
        split <;> omega
    exact gen r _ (by omega)
section clook2
variable {d : Nat → Int32} {N B L n R T : Nat} {nr nc : Nat → Nt} {rs : Nat → RU} {g5 : tyFair} {g7 : tyNotes} {pr : Nat → tyRule}
def lkV (rs : Nat → RU) (N B : Nat) (d : Nat → Int32) (T s j : Nat) : Int32 := tjD (ruAt rs j) N B (fun k => k) (fun k => k) (begD d) (T + 1) (11 + 4 * s + 2)
def lkF (rs : Nat → RU) (N B : Nat) (d : Nat → Int32) (T : Nat) (fl : List Nat) (s : Nat) : Nat := mL (fl.map (lkV rs N B d T s)) (fl.map (lkV rs N B d T s)) 0
theorem c_look (hR : ∀ t, t < R → ∃ len, rcR (pr t).1 (pr t).2.1 (pr t).2.2.1 (pr t).2.2.2.1 (pr t).2.2.2.2.1 (pr t).2.2.2.2.2.1 (pr t).2.2.2.2.2.2.2.1 (rs t) len) (hR6 : R ≤ 6) (hT : T ≤ 60) (hn : ntE N n nr nc g7) (hF : fR N B L (fun k => k) (fun k => k) (begD d) g5) :
    ∀ (k j f : Nat) (dn : List Nat) (t : tyTrials) (g1 : tyFair) (p : Nat → tyRule), j + k = R + 1 → k < f → dn.length ≤ j → (∀ i (h : i < dn.length), ∀ s, s < N → t.2.2.2.2 (i * 6 + s) = lkV rs N B d T s dn[i]) → prE pr p →
      ∃ t' g1' p', mTrials_findLookr_rules_l6 g5 g7 (nn R) (nn T) f (nn dn.length) (ixS j) t g1 p = some (t', g1', p') ∧ t'.1 0 = lk0 (lkS (lkF rs N B d T (dn ++ fL (fiB rs N B d nr n) k j)) N 0 none) ∧ t'.1 1 = lk1 (lkS (lkF rs N B d T (dn ++ fL (fiB rs N B d nr n) k j)) N 0 none) ∧ prE pr p' := by
  have hm0 : begD d 10 = nn 0 := rfl
  have hN := hF.1.2.2.2.2.1.1
  have hst : g5.2.2.1 = nn N := by rw [hF.1.1.2.1, hF.1.2.2.2.2.1.2.2.2.2.1]
  have hle : ∀ j, j ≤ R → ¬ nn R ≤ ixS j := by
    intro j hj
    match j, hj with
    | 0, _ => rw [show ixS 0 = -nn 1 from rfl, Int32.le_iff_toInt_le, nn_toInt (by omega), show (-nn 1).toInt = -1 from by decide]; omega
    | j + 1, hj => rw [show ixS (j + 1) = nn j from rfl, nn_le (by omega) (by omega)]; omega
  intro k
  induction k with
  | zero =>
    intro j f dn t g1 p h1 h2 hd hv hp
    match f, h2 with
    | f + 1, _ =>
    have hj : j = R + 1 := by omega
    subst hj
    unfold mTrials_findLookr_rules_l6
    rw [show ixS (R + 1) = nn R from rfl, ifle_t (by omega) (by omega), find_ev, bs, li0, show (-2 : Int32) = -nn 2 from id rfl, show fL (fiB rs N B d nr n) 0 (R + 1) = [] from rfl, List.append_nil]
    by_cases e : 0 < dn.length
    · obtain ⟨t2, h3, h4, h5⟩ := c_look_l113 (t := t) (g1 := g1) (g7 := g7) (pr := p) (F := lkF rs N B d T dn) (rows := dn.length) hN hst (by omega) e (fun s t' hs ht' => by
        have hl : (dn.map (lkV rs N B d T s)).length = dn.length := List.length_map _
        refine ⟨mostAlike_ev hl (by omega) (by omega) (fun i hi => ?_), ?_, ?_⟩
        · rw [ht', hv i (by omega) s hs, List.getElem_map]
        · exact (mL_le _ _ 0 (by omega) (by rw [hl]; omega)).1
        · exact mL_pos (by rw [hl]; exact e)) N 0 FU none (upd (upd (upd t.1 0 (-nn 2)) 1 (-nn 2)) 2 (nn 0), t.2) (by omega) (by unfold FU; omega) rfl rfl rfl (fun x hx => by cases hx)
      exact ⟨t2, g1, p, h3, h4, h5, hp⟩
    · have e0 : dn = [] := List.length_eq_zero_iff.1 (by omega)
      subst e0
      have hz : lkS (lkF rs N B d T []) N 0 none = none := lkS_zero N 0 (fun s => rfl)
      refine ⟨(upd (upd (upd t.1 0 (-nn 2)) 1 (-nn 2)) 2 (nn 0), t.2), g1, p, ?_, ?_, ?_, hp⟩
      · show mTrials_findLookr_rules_l113 g1 g5 g7 p (nn 0) (4999 + 1) (nn 0) _ = _
        unfold mTrials_findLookr_rules_l113
        rw [li0]
        by_cases e2 : g5.2.2.1 ≤ nn 0
        · rw [if_pos e2]
        · rw [if_neg e2, ifle_t (by omega) (by omega)]
      · rw [hz]; rfl
      · rw [hz]; rfl
  | succ k ih =>
    intro j f dn t g1 p h1 h2 hd hv hp
    match f, h2 with
    | f + 1, h2 =>
    have exs : ixS j + nn 1 = ixS (j + 1) := ixS_succ j
    obtain ⟨g3, hg3, eg3⟩ := from_ev g1 g5
    have hF3 := fR_gEq hF eg3
    have more : ∀ (g' : tyFair) (ti : Nat → Int32) (p' : Nat → tyRule), fiB rs N B d nr n j = true → (∀ s, s < N → ti s = lkV rs N B d T s j) → prE pr p' →
        ∃ t' g1' p'', rq (cpin (nn 0) (nn dn.length * nn 6) (nn 6) 6 42) (mTrials_findLookr_rules_l6 g5 g7 (nn R) (nn T) f (nn dn.length + nn 1) (ixS j + nn 1) (t.1, t.2.1, t.2.2.1, t.2.2.2.1, va_cpy ti t.2.2.2.2 (nn 0).toNatClampNeg (nn dn.length * nn 6).toNatClampNeg (nn 6).toNatClampNeg) g' p') = some (t', g1', p'') ∧ t'.1 0 = lk0 (lkS (lkF rs N B d T (dn ++ fL (fiB rs N B d nr n) (k + 1) j)) N 0 none) ∧ t'.1 1 = lk1 (lkS (lkF rs N B d T (dn ++ fL (fiB rs N B d nr n) (k + 1) j)) N 0 none) ∧ prE pr p'' := by
      intro g' ti p' hfit hti hp'
      rw [exs, nn_mul, nn_add, rq_true (cpin_nn (by omega) (by omega) (by omega) (by omega)), nn_tn (by omega), nn_tn (by omega), nn_tn (by omega), fL_app, if_pos hfit, ← List.append_assoc]
      have hl : (dn ++ [j]).length = dn.length + 1 := by rw [List.length_append]; rfl
      rw [← hl]
      refine ih (j + 1) f (dn ++ [j]) _ g' p' (by omega) (by omega) (by omega) (fun i hi s hs => ?_) hp'
      show va_cpy ti t.2.2.2.2 0 (dn.length * 6) 6 (i * 6 + s) = _
      unfold va_cpy
      by_cases e : i = dn.length
      · subst e
        rw [if_pos (by omega), show 0 + (dn.length * 6 + s - dn.length * 6) = s by omega, hti s hs, List.getElem_append_right (Nat.le_refl _)]
        simp
      · have hi2 : i < dn.length := by omega
        rw [if_neg (by omega), hv i hi2 s hs, List.getElem_append_left hi2]
    have less : ∀ (g' : tyFair) (p' : Nat → tyRule), ¬ fiB rs N B d nr n j = true → prE pr p' →
        ∃ t' g1' p'', mTrials_findLookr_rules_l6 g5 g7 (nn R) (nn T) f (nn dn.length) (ixS j + nn 1) t g' p' = some (t', g1', p'') ∧ t'.1 0 = lk0 (lkS (lkF rs N B d T (dn ++ fL (fiB rs N B d nr n) (k + 1) j)) N 0 none) ∧ t'.1 1 = lk1 (lkS (lkF rs N B d T (dn ++ fL (fiB rs N B d nr n) (k + 1) j)) N 0 none) ∧ prE pr p'' := by
      intro g' p' hfit hp'
      rw [exs, fL_app, if_neg hfit, List.nil_append]
      exact ih (j + 1) f dn t g' p' (by omega) (by omega) (by omega) hv hp'
    unfold mTrials_findLookr_rules_l6
    rw [if_neg (hle j (by omega)), li6, iflt_f (by omega) (by omega)]
    match j, h1, hd, more, less with
    | 0, h1, hd, more, less =>
      rw [ruleOf_0, bs]
      obtain ⟨g', hz⟩ := fitn_ev (id_ok N) hn hm0 hF3
      obtain ⟨gb, hgb, egb⟩ := from_ev g' g5
      have hFb := fR_gEq hF egb
      obtain ⟨m, go, ti, we, so, pu, ha, hgo, hF5⟩ := gon_g (M := T + 1) acR_all (id_ok N) (by omega) hFb
      unfold mt
      rw [hg3, bs, hz, bs]
      simp only [lt, li0, li1]
      by_cases e : fiB rs N B d nr n 0 = true
      · rw [if_neg (by rw [b01_0]; exact fun h => h e), hgb, bs]
        unfold mNotes_passedBehind
        rw [bs, li1, nn_add, hgo, bs]
        exact more _ ti p e (fun s hs => hF5.1.2.1.2.1 s hs) hp
      · rw [if_pos (by rw [b01_0]; exact e)]
        exact less g' p e hp
    | j + 1, h1, hd, more, less =>
      obtain ⟨len, hlen⟩ := hR j (by omega)
      rw [ruleOf_s (by omega), bs]
      obtain ⟨g', q', hz, hq⟩ := fitr_ev (rcR_E hlen (hp j)) (id_ok N) hn hm0 hF3
      obtain ⟨gb, hgb, egb⟩ := from_ev g' g5
      have hFb := fR_gEq hF egb
      have hqq := (hp j).trans hq
      obtain ⟨m, go, ti, we, so, pu, ha, wd', z', hgo, hF5⟩ := gor_g (M := T + 1) (rcR_E hlen hqq) acR_all (id_ok N) (by omega) hFb q'.2.2.2.2.2.2.2.2.1 q'.2.2.2.2.2.2.2.2.2
      unfold mt
      simp only
      rw [rq_dec (show j < 6 by omega), hg3, bs, hz, bs]
      simp only [lt, li0, li1, va_up_self]
      by_cases e : fiB rs N B d nr n (j + 1) = true
      · rw [if_neg (by rw [b01_0]; exact fun h => h e), hgb, bs]
        unfold mNotes_passedBehind
        rw [bs, li1, nn_add, hgo, bs]
        exact more _ ti _ e (fun s hs => hF5.1.2.1.2.1 s hs) ((hp.up hqq).up hqq.up)
      · rw [if_pos (by rw [b01_0]; exact e)]
        exact less g' _ e (hp.up hqq)
end clook2
