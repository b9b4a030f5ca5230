/-! asks: where to look -/
def cL (x : Int32) : List Int32 → Nat
  | [] => 0
  | y :: r => (if x = y then 1 else 0) + cL x r
def mL (al : List Int32) : List Int32 → Nat → Nat
  | [], m => m
  | x :: r, m => mL al r (if m < cL x al then cL x al else m)
def fL (p : Nat → Bool) : Nat → Nat → List Nat
  | 0, _ => []
  | k + 1, i => if p i = true then i :: fL p k (i + 1) else fL p k (i + 1)
theorem cL_le (x : Int32) : ∀ l, cL x l ≤ l.length
  | [] => Nat.le_refl _
  | y :: r => by unfold cL; have := cL_le x r; rw [List.length_cons]; split <;> omega
theorem fL_len (p : Nat → Bool) : ∀ k i, (fL p k i).length ≤ k
  | 0, _ => Nat.le_refl _
  | k + 1, i => by unfold fL; split; (rw [List.length_cons]; have := fL_len p k (i + 1); omega); exact Nat.le_succ_of_le (fL_len p k (i + 1))
theorem mL_le (al : List Int32) : ∀ l m, m ≤ 100 → al.length ≤ 100 → mL al l m ≤ 100 ∧ m ≤ mL al l m
  | [], m, h, _ => ⟨h, Nat.le_refl _⟩
  | x :: r, m, h, h2 => by
    unfold mL
    have h3 := cL_le x al
    by_cases e : m < cL x al
    · rw [if_pos e]; have := mL_le al r (cL x al) (by omega) h2; omega
    · rw [if_neg e]; exact mL_le al r m h h2
theorem cL_mem {x : Int32} : ∀ {l : List Int32}, x ∈ l → 1 ≤ cL x l
  | y :: r, h => by
    unfold cL
    rcases List.mem_cons.1 h with h | h
    · rw [if_pos h]; omega
    · have := cL_mem h; omega
section mlook
variable {N R : Nat} {p : Nat → Bool} {v : Nat → Int32} {isF tt : Nat → Int32} {st : Nat}
theorem l18_ev (hR : R ≤ 6) (hF : ∀ j, j ≤ R → isF j = b01 (p j = true)) (hv : ∀ j, j ≤ R → p j = true → tt (6 * j + st) = v j) (hst : st < 6) {a : Nat} (ha : a ≤ R) (hpa : p a = true) (m : Nat) (hm : m ≤ 100) {K} :
    ∀ (k b f c : Nat), b + k = R + 1 → k < f → c ≤ b → m_alikeAt_l18 (nn R) isF tt (nn st) (nn m) (nn a) K f (nn c) (nn b) = K (nn (if m < c + cL (v a) ((fL p k b).map v) then c + cL (v a) ((fL p k b).map v) else m)) (nn (a + 1)) := by
  intro k
  induction k with
  | zero =>
    intro b f c h1 h2 hc
    match f, h2 with
    | f + 1, _ =>
    unfold m_alikeAt_l18
    rw [iflt_t (by omega) (by omega), li1, nn_add]
    show _ = K (nn (if m < c + 0 then c + 0 else m)) _
    simp only [Nat.add_zero]
    by_cases e : m < c
    · rw [ifle_f e (by omega), if_pos e]
    · rw [ifle_t (by omega) (by omega), if_neg e]
  | succ k ih =>
    intro b f c h1 h2 hc
    match f, h2 with
    | f + 1, h2 =>
    unfold m_alikeAt_l18
    simp only [lt, li0, li1, li6, nn_mul, nn_add]
    rw [iflt_f (by omega) (by omega), rq_inb (by omega) (by omega), nn_tn (by omega), hF a ha, if_neg (by rw [b01_0]; exact fun h => h hpa), rq_inb (by omega) (by omega), nn_tn (by omega), hF b (by omega), rq_inb (by omega) (by omega), rq_inb (by omega) (by omega), nn_tn (by omega), nn_tn (by omega), hv a ha hpa]
    unfold fL
    by_cases e : p b = true
    · rw [if_neg (by rw [b01_0]; exact fun h => h e), if_pos e, hv b (by omega) e, List.map_cons]
      unfold cL
      by_cases e2 : v a = v b
      · rw [if_pos e2, if_pos e2, ih (b + 1) f (c + 1) (by omega) (by omega) (by omega), Nat.add_assoc]
      · rw [if_neg e2, if_neg e2, ih (b + 1) f (c + 0) (by omega) (by omega) (by omega), Nat.add_assoc]
    · rw [if_pos (by rw [b01_0]; exact e), if_neg e]
      exact ih (b + 1) f (c + 0) (by omega) (by omega) (by omega)
theorem alikeAt_ev (hR : R ≤ 6) (hF : ∀ j, j ≤ R → isF j = b01 (p j = true)) (hv : ∀ j, j ≤ R → p j = true → tt (6 * j + st) = v j) (hst : st < 6) : m_alikeAt (nn st) (nn R) isF tt = some (nn (mL ((fL p (R + 1) 0).map v) ((fL p (R + 1) 0).map v) 0)) := by
  have hlen : ((fL p (R + 1) 0).map v).length ≤ 100 := by rw [List.length_map]; have := fL_len p (R + 1) 0; omega
  have loop : ∀ (k a f m : Nat), a + k = R + 1 → k < f → m ≤ 100 → m_alikeAt_l4 (nn R) isF tt (nn st) f (nn m) (nn a) = some (nn (mL ((fL p (R + 1) 0).map v) ((fL p k a).map v) m)) := by
    intro k
    induction k with
    | zero =>
      intro a f m h1 h2 hm
      match f, h2 with
      | f + 1, _ =>
      unfold m_alikeAt_l4
      rw [iflt_t (by omega) (by omega)]
      rfl
    | succ k ih =>
      intro a f m h1 h2 hm
      match f, h2 with
      | f + 1, h2 =>
      unfold m_alikeAt_l4
      rw [iflt_f (by omega) (by omega), li0]
      unfold fL
      by_cases e : p a = true
      · rw [if_pos e, List.map_cons]
        rw [l18_ev hR hF hv hst (show a ≤ R by omega) e m hm (R + 1) 0 FU 0 (by omega) (by unfold FU; omega) (by omega), Nat.zero_add]
        show _ = some (nn (mL _ _ (if m < cL (v a) ((fL p (R + 1) 0).map v) then cL (v a) ((fL p (R + 1) 0).map v) else m)))
        refine ih (a + 1) f _ (by omega) (by omega) ?_
        have := cL_le (v a) ((fL p (R + 1) 0).map v)
        split <;> omega
      · rw [if_neg e]
        show m_alikeAt_l18 _ _ _ _ _ _ _ (4999 + 1) _ _ = _
        unfold m_alikeAt_l18
        rw [iflt_f (by omega) (by omega), rq_inb (by omega) (by omega), nn_tn (by omega), hF a (by omega), li0, if_pos (by rw [b01_0]; exact e), ifle_t (by omega) (by omega), li1, nn_add]
        exact ih (a + 1) f m (by omega) (by omega) hm
  exact loop (R + 1) 0 FU 0 (by omega) (by unfold FU; omega) (by omega)
end mlook
/-- the least of the most alike -/
def lkS (F : Nat → Nat) : Nat → Nat → Option (Nat × Nat) → Option (Nat × Nat)
  | 0, _, o => o
  | k + 1, s, o => match o with
    | none => if F s = 0 then lkS F k (s + 1) none else lkS F k (s + 1) (some (s, F s))
    | some (w, f) => if F s = 0 then lkS F k (s + 1) (some (w, f)) else if F s < f then lkS F k (s + 1) (some (s, F s)) else lkS F k (s + 1) (some (w, f))
def lk0 (o : Option (Nat × Nat)) : Int32 := match o with | none => -nn 2 | some (w, _) => nn w
def lk1 (o : Option (Nat × Nat)) : Int32 := match o with | none => -nn 2 | some (_, f) => nn f
theorem neg2_lt : (-nn 2 : Int32) < nn 0 := by decide
section mlook2
variable {sign clause clauses : Nat → Int32} {force : Int32} {d : Nat → Int32} {N R : Nat} {F : Nat → Nat} {isF tt kp : Nat → Int32} {z : Nat → Int64} {tp : Int32} {wd : Nat → Int64}
theorem look_l46_ev (hN : N ≤ 6) (h3 : d 3 = nn N) (hA : ∀ s, s < N → m_alikeAt (nn s) (nn R) isF tt = some (nn (F s)) ∧ F s ≤ 100) (w : Int32) :
    ∀ (k s f : Nat) (o : Option (Nat × Nat)), s + k = N → k < f → (∀ x, o = some x → x.1 < N ∧ x.2 ≤ 100) → m_look_l46 (nn R) sign clause clauses z tp wd d force (-nn 1) (nn 0) kp isF tt w f (lk0 o) (lk1 o) (nn s) = some (if w = nn 0 then lk0 (lkS F k s o) else lk1 (lkS F k s o), z, tp, wd, d, force, nn 0, kp, isF, tt) := by
  intro k
  induction k with
  | zero =>
    intro s f o h1 h2 ho
    match f, h2 with
    | f + 1, _ =>
    unfold m_look_l46
    rw [li3, rq_inb (by omega) (by omega), nn_tn (by omega), h3, ifle_t (by omega) (by omega), li0]
    unfold lkS
    by_cases e : w = nn 0
    · rw [if_pos e, if_pos e]
    · rw [if_neg e, if_neg e]
  | succ k ih =>
    intro s f o h1 h2 ho
    match f, h2 with
    | f + 1, h2 =>
    obtain ⟨hA1, hA2⟩ := hA s (by omega)
    unfold m_look_l46
    rw [li3, rq_inb (by omega) (by omega), nn_tn (by omega), h3, ifle_f (by omega) (by omega), hA1, bs, li0, li1, nn_add]
    unfold lkS
    match o, ho with
    | none, ho =>
      by_cases e : F s = 0
      · rw [ifeq_t e]; simp only [if_pos e]
        exact ih (s + 1) f none (by omega) (by omega) ho
      · rw [ifeq_f e (by omega) (by omega), show lk0 none = -nn 2 from rfl, if_pos neg2_lt]; simp only [if_neg e]
        exact ih (s + 1) f (some (s, F s)) (by omega) (by omega) (fun x hx => by cases hx; exact ⟨by omega, hA2⟩)
    | some (w0, f0), ho =>
      have hb := ho _ rfl
      simp only at hb
      by_cases e : F s = 0
      · rw [ifeq_t e]; simp only [if_pos e]
        exact ih (s + 1) f (some (w0, f0)) (by omega) (by omega) ho
      · rw [ifeq_f e (by omega) (by omega), show lk0 (some (w0, f0)) = nn w0 from rfl, show lk1 (some (w0, f0)) = nn f0 from rfl, iflt_f (by omega) (by omega)]; simp only [if_neg e]
        by_cases e2 : F s < f0
        · rw [iflt_t e2 (by omega)]; simp only [if_pos e2]
          exact ih (s + 1) f (some (s, F s)) (by omega) (by omega) (fun x hx => by cases hx; exact ⟨by omega, hA2⟩)
        · rw [iflt_f (by omega) (by omega)]; simp only [if_neg e2]
          exact ih (s + 1) f (some (w0, f0)) (by omega) (by omega) ho
end mlook2
section clook
variable {N R : Nat} {st rows : Nat} {t : tyTrials} {al : List Int32}
theorem mostAlike_ev (hlen : al.length = rows) (hr : rows ≤ 7) (hst : st < 6) (hv : ∀ i (h : i < al.length), t.2.2.2.2 (i * 6 + st) = al[i]) : mTrials_mostAlike (nn st) (nn rows) t = some (nn (mL al al 0)) := by
  have inner : ∀ {K : Int32 → Int32 → Option Int32} (i m : Nat) (hi : i < al.length), m ≤ 100 → ∀ (k j f c : Nat), j + k = rows → k < f → c ≤ j → mTrials_mostAlike_l17 t (nn st) (nn rows) (nn m) (nn i) K f (nn c) (nn j) = K (nn (if m < c + cL al[i] (al.drop j) then c + cL al[i] (al.drop j) else m)) (nn (i + 1)) := by
    intro K i m hi hm k
    induction k with
    | zero =>
      intro j f c h1 h2 hc
      match f, h2 with
      | f + 1, _ =>
      unfold mTrials_mostAlike_l17
      simp only [lt]
      rw [ifle_t (by omega) (by omega), li1, nn_add, List.drop_eq_nil_of_le (by omega)]
      show _ = K (nn (if m < c + 0 then c + 0 else m)) _
      simp only [Nat.add_zero]
      by_cases e : m < c
      · rw [iflt_t e (by omega), if_pos e]
      · rw [iflt_f (by omega) (by omega), if_neg e]
    | succ k ih =>
      intro j f c h1 h2 hc
      match f, h2 with
      | f + 1, h2 =>
      have hj : j < al.length := by omega
      unfold mTrials_mostAlike_l17
      simp only [li6, li1, nn_mul, nn_add]
      rw [ifle_f (by omega) (by omega), rq_inb (by omega) (by omega), rq_inb (by omega) (by omega), nn_tn (by omega), nn_tn (by omega), hv i hi, hv j hj, List.drop_eq_getElem_cons hj]
      unfold cL
      by_cases e2 : al[i] = al[j]
      · rw [if_pos e2, if_pos e2, ih (j + 1) f (c + 1) (by omega) (by omega) (by omega), Nat.add_assoc]
      · rw [if_neg e2, if_neg e2, ih (j + 1) f c (by omega) (by omega) (by omega), Nat.zero_add]
  have outer : ∀ (k i f m : Nat), i + k = rows → k < f → m ≤ 100 → mTrials_mostAlike_l5 t (nn st) (nn rows) f (nn m) (nn i) = some (nn (mL al (al.drop i) m)) := by
    intro k
    induction k with
    | zero =>
      intro i f m h1 h2 hm
      match f, h2 with
      | f + 1, _ =>
      unfold mTrials_mostAlike_l5
      rw [ifle_t (by omega) (by omega), List.drop_eq_nil_of_le (by omega)]
      rfl
    | succ k ih =>
      intro i f m h1 h2 hm
      match f, h2 with
      | f + 1, h2 =>
      have hi : i < al.length := by omega
      unfold mTrials_mostAlike_l5
      rw [ifle_f (by omega) (by omega), li0, inner i m hi hm rows 0 FU 0 (by omega) (by unfold FU; omega) (by omega), Nat.zero_add, List.drop_zero, List.drop_eq_getElem_cons hi]
      unfold mL
      refine ih (i + 1) f _ (by omega) (by omega) ?_
      have := cL_le al[i] al
      split <;> omega
  have := outer rows 0 FU 0 (by omega) (by unfold FU; omega) (by omega)
  rw [List.drop_zero] at this
  exact this
theorem c_look_l113 {g1 g5 : tyFair} {g7 : tyNotes} {pr : Nat → tyRule} {F : Nat → Nat} (hN : N ≤ 6) (hst : g5.2.2.1 = nn N) (hr : rows ≤ 7) (hr0 : 0 < rows) (hA : ∀ (s : Nat) (t' : tyTrials), s < N → t'.2 = t.2 → mTrials_mostAlike (nn s) (nn rows) t' = some (nn (F s)) ∧ F s ≤ 100 ∧ 0 < F s) :
    ∀ (k s f : Nat) (o : Option (Nat × Nat)) (t' : tyTrials), s + k = N → k < f → t'.2 = t.2 → t'.1 0 = lk0 o → t'.1 1 = lk1 o → (∀ x, o = some x → x.1 < N ∧ x.2 ≤ 100) →
      ∃ t2, mTrials_findLookr_rules_l113 g1 g5 g7 pr (nn rows) f (nn s) t' = some (t2, g1, pr) ∧ t2.1 0 = lk0 (lkS F k s o) ∧ t2.1 1 = lk1 (lkS F k s o) := by
  intro k
  induction k with
  | zero =>
    intro s f o t' h1 h2 ht h3 h4 ho
    match f, h2 with
    | f + 1, _ =>
    unfold mTrials_findLookr_rules_l113
    rw [hst, ifle_t (by omega) (by omega)]
    exact ⟨t', rfl, h3, h4⟩
  | succ k ih =>
    intro s f o t' h1 h2 ht h3 h4 ho
    match f, h2 with
    | f + 1, h2 =>
    obtain ⟨hA1, hA2, hA3⟩ := hA s t' (by omega) ht
    unfold mTrials_findLookr_rules_l113
    rw [hst, ifle_f (by omega) (by omega), li0, ifle_f hr0 (by omega), hA1, bs, rq_inb (by omega) (by omega), li1, nn_add, rq_inb (by omega) (by omega), find_ev, bs, show (-2 : Int32) = -nn 2 from id rfl]
    unfold lkS
    match o, ho, h3, h4 with
    | none, ho, h3, h4 =>
      rw [if_pos (show t'.1 (nn 0).toNatClampNeg = -nn 2 from h3)]
      simp only [if_neg (show ¬ F s = 0 by omega)]
      exact ih (s + 1) f (some (s, F s)) (upd (upd (upd t'.1 0 (nn s)) 1 (nn (F s))) 2 (nn 0), t'.2) (by omega) (by omega) ht rfl rfl (fun x hx => by cases hx; exact ⟨by omega, hA2⟩)
    | some (w0, f0), ho, h3, h4 =>
      have hb := ho _ rfl
      simp only at hb
      have hne : ¬ t'.1 (nn 0).toNatClampNeg = -nn 2 := by
        show ¬ t'.1 0 = -nn 2
        rw [h3]
        intro h
        have := congrArg Int32.toInt h
        rw [show lk0 (some (w0, f0)) = nn w0 from rfl, nn_toInt (by omega), show (-nn 2).toInt = -2 from by decide] at this
        omega
      rw [if_neg hne]
      simp only [if_neg (show ¬ F s = 0 by omega)]
      by_cases e2 : F s < f0
      · rw [if_neg (show ¬ t'.1 (nn 1).toNatClampNeg ≤ nn (F s) by show ¬ t'.1 1 ≤ _; rw [h4, show lk1 (some (w0, f0)) = nn f0 from rfl, nn_le (by omega) (by omega)]; omega)]
        simp only [if_pos e2]
        exact ih (s + 1) f (some (s, F s)) (upd (upd (upd t'.1 0 (nn s)) 1 (nn (F s))) 2 (nn 0), t'.2) (by omega) (by omega) ht rfl rfl (fun x hx => by cases hx; exact ⟨by omega, hA2⟩)
      · rw [if_pos (show t'.1 (nn 1).toNatClampNeg ≤ nn (F s) by show t'.1 1 ≤ _; rw [h4, show lk1 (some (w0, f0)) = nn f0 from rfl, nn_le (by omega) (by omega)]; omega)]
        simp only [if_neg e2]
        exact ih (s + 1) f (some (w0, f0)) t' (by omega) (by omega) ht h3 h4 ho
end clook
