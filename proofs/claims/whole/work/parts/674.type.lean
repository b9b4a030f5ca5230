/-! types of what is read -/
def tcL : List (Nat × Nat) → List Bool → Option (List Bool)
  | [], t => some t
  | c :: l, t => (tc1 c t).bind (tcL l)
theorem tcL_app : ∀ (l m : List (Nat × Nat)) (t : List Bool), tcL (l ++ m) t = (tcL l t).bind (tcL m) := by
  intro l
  induction l with
  | nil => intro m t; rfl
  | cons c l ih =>
    intro m t
    show (tc1 c t).bind (tcL (l ++ m)) = ((tc1 c t).bind (tcL l)).bind (tcL m)
    cases tc1 c t with
    | none => rfl
    | some u => exact ih m u
theorem tcL_1 (c : Nat × Nat) (t : List Bool) : tcL [c] t = tc1 c t := by
  show (tc1 c t).bind (tcL []) = tc1 c t
  cases tc1 c t <;> rfl
theorem tcs_L {pg : Nat → Nat × Nat} : ∀ (D A C : List (Nat × Nat)) (t : List Bool), (∀ i c, (A ++ (D ++ C))[i]? = some c → pg i = c) → tcs pg D.length A.length t = tcL D t := by
  intro D
  induction D with
  | nil => intro A C t _; rfl
  | cons c D ih =>
    intro A C t h
    have hc : pg A.length = c := h A.length c (by rw [List.getElem?_append_right (Nat.le_refl _), Nat.sub_self]; rfl)
    show (tc1 (pg A.length) t).bind (tcs pg D.length (A.length + 1)) = (tc1 c t).bind (tcL D)
    rw [hc]
    cases tc1 c t with
    | none => rfl
    | some u =>
      have := ih (A ++ [c]) C u (fun i d hd => h i d (by rw [← hd]; rw [List.append_assoc]; rfl))
      rw [List.length_append, List.length_singleton] at this
      exact this
section types
variable {b : Nat → Int32} {T : Nat}
def tyF (T : Nat) (f : RS → Except Nat RS) (v : Bool) : Prop := ∀ (j : Nat) (s s1 : RS), okR T j s → f s = Except.ok s1 → ∃ D, s1.2.1 = s.2.1 ++ D ∧ s.2.2 < s1.2.2 ∧ ∀ ts : List Bool, ts.length + (s1.2.2 - s.2.2) ≤ 60 → tcL D ts = some (v :: ts)
theorem ty_va : tyF T (vaS b T) false := by
  intro j s s1 h e
  have hq := skp_le (b := b) h.1
  have hbd := num_bd (b := b) hq
  unfold vaS mkS at e
  by_cases e1 : isDg b T (skp b T s.1) = true
  · rw [if_pos e1] at e
    cases hk : nuK b T 0 99999 (skp b T s.1) with
    | some k => rw [hk] at e; cases e
    | none =>
      rw [hk] at e
      by_cases e2 : s.2.2 = 60
      · simp [e2] at e
      · simp only [if_neg e2] at e
        cases e
        refine ⟨_, rfl, by dsimp only; omega, fun ts ht => ?_⟩
        dsimp only at ht
        rw [tcL_1]
        unfold tc1
        rw [if_pos rfl, if_pos ⟨by omega, hbd.1⟩]
  · rw [if_neg e1] at e
    cases hk : wx WD (run b T (skp b T s.1)) 0 with
    | none => rw [hk] at e; cases e
    | some w =>
      rw [hk] at e
      have hw := wx_lt _ _ _ _ hk
      have hWl : WD.length = 12 := rfl
      by_cases e2 : s.2.2 = 60
      · simp [e2] at e
      · simp only [if_neg e2] at e
        cases e
        refine ⟨_, rfl, by dsimp only; omega, fun ts ht => ?_⟩
        dsimp only at ht
        rw [tcL_1]
        unfold tc1
        rw [if_neg (by dsimp only; omega), if_pos rfl, if_pos ⟨by omega, by dsimp only; omega⟩]
def pnB (a : Option Nat) (ts : List Bool) : List Bool := match a with | none => ts | some _ => false :: ts
theorem em_ty {a : Option Nat} {ts : List Bool} (ha : a = none ∨ a = some 2 ∨ a = some 3) {L : List (Nat × Nat)} : ∃ D, emO a L = L ++ D ∧ tcL D (false :: pnB a ts) = some (false :: ts) := by
  rcases ha with h | h | h <;> subst h
  · exact ⟨[], (List.append_nil L).symm, rfl⟩
  · exact ⟨[(2, 0)], rfl, rfl⟩
  · exact ⟨[(3, 0)], rfl, rfl⟩
theorem em_ty2 {a : Option Nat} (ha : a = none ∨ a = some 2 ∨ a = some 3) {L : List (Nat × Nat)} : ∃ D, emO a L = L ++ D ∧ ∀ ts : List Bool, tcL D (false :: pnB a ts) = some (false :: ts) := by
  rcases ha with h | h | h <;> subst h
  · exact ⟨[], (List.append_nil L).symm, fun _ => rfl⟩
  · exact ⟨[(2, 0)], rfl, fun _ => rfl⟩
  · exact ⟨[(3, 0)], rfl, fun _ => rfl⟩
theorem pnB_len {a : Option Nat} {ts : List Bool} : (pnB a ts).length = ts.length + pnO a := by cases a <;> rfl
theorem ty_tl (hT : T ≤ 400) : ∀ (k : Nat) (a : Option Nat) (j : Nat) (s s1 : RS), okR T (j + pnO a) s → (a = none ∨ a = some 2 ∨ a = some 3) → T - s.1 < k → tlS b T k a s = Except.ok s1 →
    ∃ D, s1.2.1 = s.2.1 ++ D ∧ s.2.2 ≤ s1.2.2 ∧ ∀ ts : List Bool, ts.length + 1 + pnO a + (s1.2.2 - s.2.2) ≤ 60 → tcL D (false :: pnB a ts) = some (false :: ts) := by
  intro k
  induction k with
  | zero => intro a j s s1 _ _ h; omega
  | succ k ih =>
    intro a j s s1 h ha hk e
    obtain ⟨p, L, m⟩ := s
    have h0 := h
    obtain ⟨h1, h2, h3, h4⟩ := h
    dsimp only at h1 h2 h3 h4 hk e ⊢
    have ha16 : ∀ k, a = some k → k < 16 := fun k hk => by rcases ha with h | h | h <;> rw [h] at hk <;> cases hk <;> omega
    have hq := skp_le (b := b) h1
    have hq2 := skp_ge (b := b) h1
    have hel := emO_len (a := a) (L := L)
    unfold tlS at e
    dsimp only at e
    cases hs : scO (seB b T (skp b T p)) with
    | some c =>
      rw [hs] at e
      dsimp only at e
      have hc := scO_some hs
      have hlt : skp b T p < T := by
        rcases hc with ⟨h, _⟩ | ⟨h, _⟩ | ⟨h, _⟩ <;> exact seB_lt (by omega) h
      have ho : okR T (j + pnO a + 1) (skp b T p + 1, L, m) := okR_sl h0 (by omega) (by omega) h4
      cases hv : vaS b T (skp b T p + 1, L, m) with
      | error F => rw [hv] at e; cases e
      | ok s2 =>
        rw [hv] at e
        dsimp only at e
        obtain ⟨⟨o1, o2, o3, o4⟩, v2, v3⟩ := vaS_ok ho hT hv
        dsimp only at v2
        obtain ⟨D1, d1, d2, d3⟩ := ty_va _ _ _ ho hv
        obtain ⟨D2, f1, f2, f3⟩ := ih a j (s2.1, s2.2.1 ++ [(c, 0)], s2.2.2) s1 ⟨o1, by rw [List.length_append, List.length_singleton]; dsimp only; omega, o3, okL_app o4 ⟨by dsimp only; omega, by dsimp only; omega⟩⟩ ha (by dsimp only; omega) e
        dsimp only at d1 d2 d3 f1 f2 f3
        refine ⟨D1 ++ ([(c, 0)] ++ D2), by rw [f1, d1]; simp, by omega, fun ts ht => ?_⟩
        rw [tcL_app, d3 (false :: pnB a ts) (by rw [List.length_cons, pnB_len]; omega)]
        show tcL ([(c, 0)] ++ D2) _ = _
        rw [tcL_app, tcL_1]
        have : tc1 (c, 0) (false :: false :: pnB a ts) = some (false :: pnB a ts) := by rcases hc with ⟨_, h⟩ | ⟨_, h⟩ | ⟨_, h⟩ <;> subst h <;> rfl
        rw [this]
        exact f3 ts (by omega)
    | none =>
      rw [hs] at e
      dsimp only at e
      obtain ⟨D0, g1, g2⟩ := em_ty2 ha (L := L)
      cases hs2 : adO (seB b T (skp b T p)) with
      | some c =>
        rw [hs2] at e
        dsimp only at e
        have hc := adO_some hs2
        have hlt : skp b T p < T := by
          rcases hc with ⟨h, _⟩ | ⟨h, _⟩ <;> exact seB_lt (by omega) h
        have ho : okR T (j + 1) (skp b T p + 1, emO a L, m) := okR_sl h0 (by omega) (by omega) (emO_ok h4 ha16)
        cases hv : vaS b T (skp b T p + 1, emO a L, m) with
        | error F => rw [hv] at e; cases e
        | ok s2 =>
          rw [hv] at e
          dsimp only at e
          obtain ⟨o, v2, v3⟩ := vaS_ok ho hT hv
          dsimp only at v2
          obtain ⟨D1, d1, d2, d3⟩ := ty_va _ _ _ ho hv
          obtain ⟨D2, f1, f2, f3⟩ := ih (some c) j s2 s1 o (by rcases hc with ⟨_, h⟩ | ⟨_, h⟩ <;> subst h <;> simp) (by omega) e
          dsimp only at d1 d2 d3
          have p1 : pnO (some c) = 1 := rfl
          refine ⟨D0 ++ (D1 ++ D2), by rw [f1, d1, g1]; simp, by omega, fun ts ht => ?_⟩
          rw [tcL_app, g2]
          show tcL (D1 ++ D2) _ = _
          rw [tcL_app, d3 (false :: ts) (by rw [List.length_cons]; omega)]
          exact f3 ts (by omega)
      | none =>
        rw [hs2] at e
        cases e
        exact ⟨D0, g1, Nat.le_refl _, fun ts _ => g2 ts⟩
theorem ty_sm (hT : T ≤ 400) : tyF T (smS b T) false := by
  intro j s s1 h e
  unfold smS at e
  cases hv : vaS b T s with
  | error F => rw [hv] at e; cases e
  | ok s2 =>
    rw [hv] at e
    obtain ⟨o, v2, v3⟩ := vaS_ok h hT hv
    obtain ⟨D1, d1, d2, d3⟩ := ty_va _ _ _ h hv
    obtain ⟨D2, f1, f2, f3⟩ := ty_tl hT 401 none j s2 s1 o (Or.inl rfl) (by omega) e
    have p1 : pnO none = 0 := rfl
    refine ⟨D1 ++ D2, by rw [f1, d1]; simp, by omega, fun ts ht => ?_⟩
    rw [tcL_app, d3 ts (by omega)]
    exact f3 ts (by omega)
theorem ty_cm (hT : T ≤ 400) : tyF T (cmS b T) true := by
  intro j s s' h e
  unfold cmS at e
  cases hs : smS b T s with
  | error F0 => rw [hs] at e; cases e
  | ok s1 =>
    rw [hs] at e
    obtain ⟨⟨o1, o2, o3, o4⟩, o5⟩ := smS_ok hT h hs
    obtain ⟨D1, d1, d2, d3⟩ := ty_sm hT _ _ _ h hs
    have hq := skp_le (b := b) o1
    have hq2 := skp_ge (b := b) o1
    dsimp only at e
    generalize skp b T s1.1 = q at hq hq2 e
    cases hk : sgK (seB b T q) with
    | none => rw [hk] at e; cases e
    | some k =>
      rw [hk] at e
      have hlt : q < T := by rcases sgK_some hk with ⟨h, _⟩ | ⟨h, _⟩ | ⟨h, _⟩ <;> exact seB_lt (by omega) h
      have hp := al_le (b := b) (k := k) hlt
      dsimp only at e
      by_cases e6 : s1.2.2 = 60
      · rw [if_pos e6] at e; cases e
      · rw [if_neg e6] at e
        have ho : okR T (j + 1) (q + 1 + (if alB b T q k = true then 1 else 0), s1.2.1, s1.2.2 + 1) := ⟨hp, by dsimp only; omega, by dsimp only; omega, o4⟩
        cases hs2 : smS b T (q + 1 + (if alB b T q k = true then 1 else 0), s1.2.1, s1.2.2 + 1) with
        | error F0 => rw [hs2] at e; cases e
        | ok s2 =>
          rw [hs2] at e
          cases e
          obtain ⟨D2, f1, f2, f3⟩ := ty_sm hT _ _ _ ho hs2
          dsimp only at f1 f2 f3 ⊢
          refine ⟨D1 ++ (D2 ++ [(cdS k (alB b T q k), 0)]), by rw [f1, d1]; simp, by omega, fun ts ht => ?_⟩
          rw [tcL_app, d3 ts (by omega)]
          show tcL (D2 ++ _) _ = _
          rw [tcL_app, f3 (false :: ts) (by rw [List.length_cons]; omega)]
          show tcL [(cdS k (alB b T q k), 0)] _ = _
          rw [tcL_1]
          have hc := cdS_lt k (alB b T q k)
          unfold tc1
          rw [if_neg (by dsimp only; omega), if_neg (by dsimp only; omega), if_neg (by dsimp only; omega), if_neg (by dsimp only; omega), if_pos hc]
def pdB (fi jo : Bool) (ts : List Bool) : List Bool := (if jo = true then [true] else []) ++ ((if fi = true then [] else [true]) ++ ts)
theorem pdB_len {fi jo : Bool} {ts : List Bool} : (pdB fi jo ts).length = ts.length + pd fi jo := by cases fi <;> cases jo <;> simp [pdB, pd]
theorem pd_ty1 {jo : Bool} {L : List (Nat × Nat)} : ∃ D, emO (if jo = true then some 12 else none) L = L ++ D ∧ ∀ fi ts, tcL D (true :: pdB fi jo ts) = some (true :: pdB fi false ts) := by
  cases jo
  · exact ⟨[], (List.append_nil L).symm, fun _ _ => rfl⟩
  · exact ⟨[(12, 0)], rfl, fun _ _ => rfl⟩
theorem pd_ty2 {fi : Bool} {L : List (Nat × Nat)} : ∃ D, emO (if fi = true then none else some 13) L = L ++ D ∧ ∀ ts, tcL D (true :: pdB fi false ts) = some (true :: ts) := by
  cases fi
  · exact ⟨[(13, 0)], rfl, fun _ => rfl⟩
  · exact ⟨[], (List.append_nil L).symm, fun _ => rfl⟩
theorem ty_te (hT : T ≤ 400) {f : RS → Except Nat RS} (hg : gdF T f) (hf : tyF T f true) : ∀ (k : Nat) (fi jo : Bool) (j : Nat) (s s1 : RS), okR T (j + pd fi jo) s → T - s.1 < k → teL b T f k fi jo s = Except.ok s1 →
    ∃ D, s1.2.1 = s.2.1 ++ D ∧ s.2.2 < s1.2.2 ∧ ∀ ts : List Bool, ts.length + pd fi jo + (s1.2.2 - s.2.2) ≤ 60 → tcL D (pdB fi jo ts) = some (true :: ts) := by
  intro k
  induction k with
  | zero => intro fi jo j s s1 _ h; omega
  | succ k ih =>
    intro fi jo j s s' h hk e
    obtain ⟨f1, f2⟩ := hg _ s h
    unfold teL at e
    cases hs : f s with
    | error F0 => rw [hs] at e; cases e
    | ok s1 =>
      rw [hs] at e
      obtain ⟨⟨o1, o2, o3, o4⟩, o5⟩ := f2 _ hs
      obtain ⟨D1, d1, d2, d3⟩ := hf _ _ _ h hs
      have hq := skp_le (b := b) o1
      have hq2 := skp_ge (b := b) o1
      dsimp only at e
      generalize skp b T s1.1 = q at hq hq2 e
      have l1 := emO_len (a := if jo = true then some 12 else none) (L := s1.2.1)
      have l2 := emO_len (a := if fi = true then none else some 13) (L := emO (if jo = true then some 12 else none) s1.2.1)
      have hj : pnO (if jo = true then some 12 else none) = if jo = true then 1 else 0 := by cases jo <;> rfl
      have hi : pnO (if fi = true then none else some 13) = if fi = true then 0 else 1 := by cases fi <;> rfl
      have k1 : okL (emO (if jo = true then some 12 else none) s1.2.1) := emO_ok o4 (fun k hk => by cases jo <;> simp at hk; omega)
      have k2 : okL (emO (if fi = true then none else some 13) (emO (if jo = true then some 12 else none) s1.2.1)) := emO_ok k1 (fun k hk => by cases fi <;> simp at hk; omega)
      obtain ⟨E1, x1, x2⟩ := pd_ty1 (jo := jo) (L := s1.2.1)
      obtain ⟨E2, y1, y2⟩ := pd_ty2 (fi := fi) (L := emO (if jo = true then some 12 else none) s1.2.1)
      have hpd : pd fi jo = (if jo = true then 1 else 0) + (if fi = true then 0 else 1) := rfl
      have hfirst : ∀ ts : List Bool, ts.length + pd fi jo + (s1.2.2 - s.2.2) ≤ 60 → tcL (D1 ++ E1) (pdB fi jo ts) = some (true :: pdB fi false ts) := fun ts ht => by
        rw [tcL_app, d3 (pdB fi jo ts) (by rw [pdB_len]; omega)]
        exact x2 fi ts
      by_cases e1 : run b T q = wAnd
      · rw [if_pos e1] at e
        have hw : q + 3 ≤ T := run_pos e1 hq
        have hp1 : pd fi true = 1 + (if fi = true then 0 else 1) := rfl
        obtain ⟨D2, g1, g2, g3⟩ := ih fi true j (q + 3, emO (if jo = true then some 12 else none) s1.2.1, s1.2.2) s' ⟨hw, by dsimp only; omega, o3, k1⟩ (by dsimp only; omega) e
        dsimp only at g1 g2 g3
        refine ⟨(D1 ++ E1) ++ D2, by rw [g1, x1, d1]; simp, by omega, fun ts ht => ?_⟩
        rw [tcL_app, hfirst ts (by omega)]
        exact g3 ts (by omega)
      · rw [if_neg e1] at e
        by_cases e2 : run b T q = wOr
        · rw [if_pos e2] at e
          have hw : q + 2 ≤ T := run_pos e2 hq
          have hp1 : pd false false = 1 := rfl
          obtain ⟨D2, g1, g2, g3⟩ := ih false false j (q + 2, emO (if fi = true then none else some 13) (emO (if jo = true then some 12 else none) s1.2.1), s1.2.2) s' ⟨hw, by dsimp only; omega, o3, k2⟩ (by dsimp only; omega) e
          dsimp only at g1 g2 g3
          refine ⟨(D1 ++ E1) ++ (E2 ++ D2), by rw [g1, y1, x1, d1]; simp, by omega, fun ts ht => ?_⟩
          rw [tcL_app, hfirst ts (by omega)]
          show tcL (E2 ++ D2) _ = _
          rw [tcL_app, y2 ts]
          exact g3 ts (by omega)
        · rw [if_neg e2] at e
          cases e
          refine ⟨(D1 ++ E1) ++ E2, by dsimp only; rw [y1, x1, d1]; simp, d2, fun ts ht => ?_⟩
          dsimp only at ht
          rw [tcL_app, hfirst ts (by omega)]
          exact y2 ts
theorem ty_fa (hT : T ≤ 400) : ∀ r, tyF T (faS b T r) true := by
  intro r
  induction r with
  | zero =>
    intro j s s' h e
    have hq := skp_le (b := b) h.1
    have hq2 := skp_ge (b := b) h.1
    have h2 := h.2.1
    unfold faS at e
    by_cases w : run b T (skp b T s.1) = wNot ∨ seB b T (skp b T s.1) = nn 91
    · rw [if_pos w] at e; cases e
    · rw [if_neg w] at e
      exact ty_cm hT j (skp b T s.1, s.2.1, s.2.2) s' ⟨hq, by dsimp only; omega, h.2.2.1, h.2.2.2⟩ e
  | succ r ih =>
    intro j s s' h e
    have hq := skp_le (b := b) h.1
    have hq2 := skp_ge (b := b) h.1
    have h2 := h.2.1
    unfold faS at e
    by_cases w1 : run b T (skp b T s.1) = wNot
    · rw [if_pos w1] at e
      have hw : skp b T s.1 + 3 ≤ T := run_pos w1 hq
      cases hf : faS b T r (skp b T s.1 + 3, s.2.1, s.2.2) with
      | error F0 => rw [hf] at e; cases e
      | ok s1 =>
        rw [hf] at e
        cases e
        obtain ⟨D, d1, d2, d3⟩ := ih (j + 1) (skp b T s.1 + 3, s.2.1, s.2.2) s1 ⟨hw, by dsimp only; omega, h.2.2.1, h.2.2.2⟩ hf
        dsimp only at d1 d2 d3 ⊢
        refine ⟨D ++ [(11, 0)], by rw [d1]; simp, d2, fun ts ht => ?_⟩
        rw [tcL_app, d3 ts ht]
        rfl
    · rw [if_neg w1] at e
      by_cases w2 : seB b T (skp b T s.1) = nn 91
      · rw [if_pos w2] at e
        have hlt := seB_lt (b := b) (by omega) w2
        have ho : okR T j (skp b T s.1 + 1, s.2.1, s.2.2) := ⟨by dsimp only; omega, by dsimp only; omega, h.2.2.1, h.2.2.2⟩
        cases hf : teL b T (faS b T r) 401 true false (skp b T s.1 + 1, s.2.1, s.2.2) with
        | error F0 => rw [hf] at e; cases e
        | ok s1 =>
          rw [hf] at e
          dsimp only at e
          obtain ⟨D, d1, d2, d3⟩ := ty_te hT (gd_fa (b := b) hT r) ih 401 true false j _ s1 ho (by dsimp only; omega) hf
          by_cases w3 : seB b T (skp b T s1.1) = nn 93
          · rw [if_pos w3] at e
            cases e
            exact ⟨D, d1, d2, fun ts ht => d3 ts ht⟩
          · rw [if_neg w3] at e; cases e
      · rw [if_neg w2] at e
        exact ty_cm hT j (skp b T s.1, s.2.1, s.2.2) s' ⟨hq, by dsimp only; omega, h.2.2.1, h.2.2.2⟩ e
theorem ty_tst (hT : T ≤ 400) {j : Nat} {s s1 : RS} (h : okR T j s) (e : teL b T (faS b T 10) 401 true false s = Except.ok s1) : ∃ D, s1.2.1 = s.2.1 ++ D ∧ s.2.2 < s1.2.2 ∧ tcL D [] = some [true] ∧ 0 < D.length := by
  have h1 := h.1
  obtain ⟨D, d1, d2, d3⟩ := ty_te hT (gd_fa (b := b) hT 10) (ty_fa hT 10) 401 true false j s s1 h (by omega) e
  have h3 := ((gd_te (b := b) hT (gd_fa (b := b) hT 10) 401 true false j s h (by omega)).2 s1 e).1.2.2.1
  have h4 := d3 [] (by have : pd true false = 0 := rfl; rw [List.length_nil]; omega)
  refine ⟨D, d1, d2, h4, ?_⟩
  cases D with
  | nil => exact absurd h4 (by decide)
  | cons c D => exact Nat.succ_pos _
theorem ty_sum0 (hT : T ≤ 400) {j : Nat} {s s1 : RS} (h : okR T j s) (e : smS b T s = Except.ok s1) : ∃ D, s1.2.1 = s.2.1 ++ D ∧ s.2.2 < s1.2.2 ∧ tcL D [] = some [false] := by
  obtain ⟨D, d1, d2, d3⟩ := ty_sm hT j s s1 h e
  have h3 := (smS_ok hT h e).1.2.2.1
  exact ⟨D, d1, d2, d3 [] (by rw [List.length_nil]; omega)⟩
end types
