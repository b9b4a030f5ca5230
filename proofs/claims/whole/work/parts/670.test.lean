/-! facts and tests: what is read -/
section spec
variable {b tx : Nat → Int32} {T : Nat}
/-- of a sign: which (0 is less, 1 alike, 2 more), and whether = follows -/
def sgK (c : Int32) : Option Nat := if c = nn 60 then some 0 else if c = nn 61 then some 1 else if c = nn 62 then some 2 else none
def alB (b : Nat → Int32) (T q k : Nat) : Bool := decide (¬ k = 1) && (decide (q + 1 < T) && decide (b (q + 1) = nn 61))
def cdS (k : Nat) (al : Bool) : Nat := if k = 0 then (if al = true then 7 else 6) else if k = 1 then 8 else (if al = true then 9 else 10)
def cmS (b : Nat → Int32) (T : Nat) (s : RS) : Except Nat RS :=
  match smS b T s with
  | .error F => Except.error F
  | .ok s1 => match sgK (seB b T (skp b T s1.1)) with
    | none => Except.error (1 + 8 * skp b T s1.1)
    | some k => if s1.2.2 = 60 then Except.error (1 + 8 * skp b T s1.1 + 3) else
      match smS b T (skp b T s1.1 + 1 + (if alB b T (skp b T s1.1) k = true then 1 else 0), s1.2.1, s1.2.2 + 1) with
      | .error F => Except.error F
      | .ok s2 => Except.ok (s2.1, s2.2.1 ++ [(cdS k (alB b T (skp b T s1.1) k), 0)], s2.2.2)
def wNot : List Nat := [110, 111, 116]
def wAnd : List Nat := [97, 110, 100]
def wOr : List Nat := [111, 114]
/-- a test: the first part, a fact that is joined; f reads a fact -/
def teL (b : Nat → Int32) (T : Nat) (f : RS → Except Nat RS) : Nat → Bool → Bool → RS → Except Nat RS
  | 0, _, _, s => Except.ok s
  | n + 1, fi, jo, s => match f s with
    | .error F => Except.error F
    | .ok s1 => if run b T (skp b T s1.1) = wAnd then teL b T f n fi true (skp b T s1.1 + 3, emO (if jo = true then some 12 else none) s1.2.1, s1.2.2)
      else if run b T (skp b T s1.1) = wOr then teL b T f n false false (skp b T s1.1 + 2, emO (if fi = true then none else some 13) (emO (if jo = true then some 12 else none) s1.2.1), s1.2.2)
      else Except.ok (skp b T s1.1, emO (if fi = true then none else some 13) (emO (if jo = true then some 12 else none) s1.2.1), s1.2.2)
/-- a fact, r deep yet -/
def faS (b : Nat → Int32) (T : Nat) : Nat → RS → Except Nat RS
  | 0, s => if run b T (skp b T s.1) = wNot ∨ seB b T (skp b T s.1) = nn 91 then Except.error (1 + 8 * skp b T s.1 + 2) else cmS b T (skp b T s.1, s.2.1, s.2.2)
  | r + 1, s => if run b T (skp b T s.1) = wNot then
      (match faS b T r (skp b T s.1 + 3, s.2.1, s.2.2) with | .error F => Except.error F | .ok s1 => Except.ok (s1.1, s1.2.1 ++ [(11, 0)], s1.2.2))
    else if seB b T (skp b T s.1) = nn 91 then
      (match teL b T (faS b T r) 401 true false (skp b T s.1 + 1, s.2.1, s.2.2) with
       | .error F => Except.error F
       | .ok s1 => if seB b T (skp b T s1.1) = nn 93 then Except.ok (skp b T s1.1 + 1, s1.2.1, s1.2.2) else Except.error (1 + 8 * skp b T s1.1))
    else cmS b T (skp b T s.1, s.2.1, s.2.2)
/-- what a reader keeps -/
def gdF (T : Nat) (f : RS → Except Nat RS) : Prop := ∀ j s, okR T j s → (∀ F, f s = Except.error F → 0 < F ∧ F < 100000) ∧ (∀ s', f s = Except.ok s' → okR T j s' ∧ s.1 < s'.1)
theorem sgK_some {c : Int32} {k : Nat} (h : sgK c = some k) : (c = nn 60 ∧ k = 0) ∨ (c = nn 61 ∧ k = 1) ∨ (c = nn 62 ∧ k = 2) := by
  unfold sgK at h
  by_cases e1 : c = nn 60
  · rw [if_pos e1] at h; cases h; exact Or.inl ⟨e1, rfl⟩
  · rw [if_neg e1] at h
    by_cases e2 : c = nn 61
    · rw [if_pos e2] at h; cases h; exact Or.inr (Or.inl ⟨e2, rfl⟩)
    · rw [if_neg e2] at h
      by_cases e3 : c = nn 62
      · rw [if_pos e3] at h; cases h; exact Or.inr (Or.inr ⟨e3, rfl⟩)
      · rw [if_neg e3] at h; cases h
theorem alB_lt {q k : Nat} (h : alB b T q k = true) : q + 1 < T := by
  unfold alB at h
  simp at h
  exact h.2.1
theorem al_le {q k : Nat} (h : q < T) : q + 1 + (if alB b T q k = true then 1 else 0) ≤ T := by
  by_cases e : alB b T q k = true
  · rw [if_pos e]; have := alB_lt e; omega
  · rw [if_neg e]; omega
theorem cdS_lt (k : Nat) (al : Bool) : 6 ≤ cdS k al ∧ cdS k al ≤ 10 := by unfold cdS; repeat' split
                                                                          all_goals omega
theorem gd_cm (hT : T ≤ 400) : gdF T (cmS b T) := by
  intro j s h
  have key : (∀ F, cmS b T s = Except.error F → 0 < F ∧ F < 100000) ∧ (∀ s', cmS b T s = Except.ok s' → okR T j s' ∧ s.1 < s'.1) := by
    unfold cmS
    cases hs : smS b T s with
    | error F0 => exact ⟨fun F e => by cases e; exact smS_err hT h hs, fun s' e => by cases e⟩
    | ok s1 =>
      obtain ⟨⟨o1, o2, o3, o4⟩, o5⟩ := smS_ok hT h hs
      have hq := skp_le (b := b) o1
      have hq2 := skp_ge (b := b) o1
      dsimp only
      generalize skp b T s1.1 = q at hq hq2
      cases hk : sgK (seB b T q) with
      | none => exact ⟨fun F e => by cases e; omega, fun s' e => by cases e⟩
      | some k =>
        have hlt : q < T := by rcases sgK_some hk with ⟨h, _⟩ | ⟨h, _⟩ | ⟨h, _⟩ <;> exact seB_lt (by omega) h
        have hp := al_le (b := b) (k := k) hlt
        dsimp only
        by_cases e6 : s1.2.2 = 60
        · rw [if_pos e6]; exact ⟨fun F e => by cases e; omega, fun s' e => by cases e⟩
        · rw [if_neg e6]
          have ho : okR T (j + 1) (q + 1 + (if alB b T q k = true then 1 else 0), s1.2.1, s1.2.2 + 1) := ⟨hp, by dsimp only; omega, by dsimp only; omega, o4⟩
          cases hs2 : smS b T (q + 1 + (if alB b T q k = true then 1 else 0), s1.2.1, s1.2.2 + 1) with
          | error F0 => exact ⟨fun F e => by cases e; exact smS_err hT ho hs2, fun s' e => by cases e⟩
          | ok s2 =>
            obtain ⟨⟨w1, w2, w3, w4⟩, w5⟩ := smS_ok hT ho hs2
            dsimp only at w5
            refine ⟨fun F e => (by cases e), fun s' e => ?_⟩
            cases e
            have hc := cdS_lt k (alB b T q k)
            exact ⟨⟨w1, by rw [List.length_append, List.length_singleton]; dsimp only; omega, w3, okL_app w4 ⟨by dsimp only; omega, by dsimp only; omega⟩⟩, by dsimp only; omega⟩
  exact key
theorem run_pos {W : List Nat} {p : Nat} (h : run b T p = W) (hp : p ≤ T) : p + W.length ≤ T := by rw [← h]; exact run_le hp
def pd (fi jo : Bool) : Nat := (if jo = true then 1 else 0) + (if fi = true then 0 else 1)
theorem gd_te (hT : T ≤ 400) {f : RS → Except Nat RS} (hf : gdF T f) : ∀ (k : Nat) (fi jo : Bool) (j : Nat) (s : RS), okR T (j + pd fi jo) s → T - s.1 < k → (∀ F, teL b T f k fi jo s = Except.error F → 0 < F ∧ F < 100000) ∧ (∀ s', teL b T f k fi jo s = Except.ok s' → okR T j s' ∧ s.1 < s'.1 ∧ skp b T s'.1 = s'.1) := by
  intro k
  induction k with
  | zero => intro fi jo j s _ h; omega
  | succ k ih =>
    intro fi jo j s h hk
    obtain ⟨f1, f2⟩ := hf _ s h
    unfold teL
    cases hs : f s with
    | error F0 => exact ⟨fun F e => by cases e; exact f1 _ hs, fun s' e => by cases e⟩
    | ok s1 =>
      obtain ⟨⟨o1, o2, o3, o4⟩, o5⟩ := f2 _ hs
      have hq := skp_le (b := b) o1
      have hq2 := skp_ge (b := b) o1
      have hqq := skp_skp (b := b) (T := T) (p := s1.1)
      dsimp only
      generalize skp b T s1.1 = q at hq hq2 hqq
      have l1 := emO_len (a := if jo = true then some 12 else none) (L := s1.2.1)
      have l2 := emO_len (a := if fi = true then none else some 13) (L := emO (if jo = true then some 12 else none) s1.2.1)
      have hj : pnO (if jo = true then some 12 else none) = if jo = true then 1 else 0 := by cases jo <;> rfl
      have hi : pnO (if fi = true then none else some 13) = if fi = true then 0 else 1 := by cases fi <;> rfl
      have k1 : okL (emO (if jo = true then some 12 else none) s1.2.1) := emO_ok o4 (fun k hk => by cases jo <;> simp at hk; omega)
      have k2 : okL (emO (if fi = true then none else some 13) (emO (if jo = true then some 12 else none) s1.2.1)) := emO_ok k1 (fun k hk => by cases fi <;> simp at hk; omega)
      unfold pd at o2
      by_cases e1 : run b T q = wAnd
      · rw [if_pos e1]
        have hw : q + 3 ≤ T := run_pos e1 hq
        have := ih fi true j (q + 3, emO (if jo = true then some 12 else none) s1.2.1, s1.2.2) ⟨hw, by unfold pd; rw [if_pos rfl]; dsimp only; omega, o3, k1⟩ (by dsimp only; omega)
        exact ⟨this.1, fun s' e => by have h2 := this.2 s' e; dsimp only at h2; exact ⟨h2.1, by omega, h2.2.2⟩⟩
      · rw [if_neg e1]
        by_cases e2 : run b T q = wOr
        · rw [if_pos e2]
          have hw : q + 2 ≤ T := run_pos e2 hq
          have := ih false false j (q + 2, emO (if fi = true then none else some 13) (emO (if jo = true then some 12 else none) s1.2.1), s1.2.2) ⟨hw, by show _ + (j + 1) ≤ q + 2; dsimp only; omega, o3, k2⟩ (by dsimp only; omega)
          exact ⟨this.1, fun s' e => by have h2 := this.2 s' e; dsimp only at h2; exact ⟨h2.1, by omega, h2.2.2⟩⟩
        · rw [if_neg e2]
          refine ⟨fun F e => (by cases e), fun s' e => ?_⟩
          cases e
          exact ⟨⟨hq, by dsimp only; omega, o3, k2⟩, by dsimp only; omega, hqq⟩
theorem gd_fa (hT : T ≤ 400) : ∀ r, gdF T (faS b T r) := by
  intro r
  induction r with
  | zero =>
    intro j s h
    have h0 := h
    obtain ⟨h1, h2, h3, h4⟩ := h
    have hq := skp_le (b := b) h1
    have hq2 := skp_ge (b := b) h1
    unfold faS
    by_cases e : run b T (skp b T s.1) = wNot ∨ seB b T (skp b T s.1) = nn 91
    · rw [if_pos e]; exact ⟨fun F e => by cases e; omega, fun s' e => by cases e⟩
    · rw [if_neg e]
      have := gd_cm (b := b) hT j (skp b T s.1, s.2.1, s.2.2) ⟨hq, by dsimp only; omega, h3, h4⟩
      exact ⟨this.1, fun s' e => by have h2 := this.2 s' e; dsimp only at h2; exact ⟨h2.1, by omega⟩⟩
  | succ r ih =>
    intro j s h
    obtain ⟨h1, h2, h3, h4⟩ := h
    have hq := skp_le (b := b) h1
    have hq2 := skp_ge (b := b) h1
    unfold faS
    by_cases e : run b T (skp b T s.1) = wNot
    · rw [if_pos e]
      have hw : skp b T s.1 + 3 ≤ T := run_pos e hq
      have := ih (j + 1) (skp b T s.1 + 3, s.2.1, s.2.2) ⟨hw, by dsimp only; omega, h3, h4⟩
      cases hf : faS b T r (skp b T s.1 + 3, s.2.1, s.2.2) with
      | error F0 => exact ⟨fun F e => by cases e; exact this.1 _ hf, fun s' e => by cases e⟩
      | ok s1 =>
        refine ⟨fun F e => (by cases e), fun s' e => ?_⟩
        cases e
        obtain ⟨⟨o1, o2, o3, o4⟩, o5⟩ := this.2 _ hf
        dsimp only at o5
        exact ⟨⟨o1, by rw [List.length_append, List.length_singleton]; dsimp only; omega, o3, okL_app o4 ⟨by dsimp only; omega, by dsimp only; omega⟩⟩, by dsimp only; omega⟩
    · rw [if_neg e]
      by_cases e2 : seB b T (skp b T s.1) = nn 91
      · rw [if_pos e2]
        have hlt := seB_lt (b := b) (by omega) e2
        have := gd_te (b := b) hT ih 401 true false j (skp b T s.1 + 1, s.2.1, s.2.2) ⟨by dsimp only; omega, by show _ + (j + 0) ≤ _; dsimp only; omega, h3, h4⟩ (by dsimp only; omega)
        cases hf : teL b T (faS b T r) 401 true false (skp b T s.1 + 1, s.2.1, s.2.2) with
        | error F0 => exact ⟨fun F e => by cases e; exact this.1 _ hf, fun s' e => by cases e⟩
        | ok s1 =>
          obtain ⟨⟨o1, o2, o3, o4⟩, o5, o6⟩ := this.2 _ hf
          have hr := skp_le (b := b) o1
          have hr2 := skp_ge (b := b) o1
          dsimp only at o5 ⊢
          by_cases e3 : seB b T (skp b T s1.1) = nn 93
          · rw [if_pos e3]
            have hlt2 := seB_lt (b := b) (by omega) e3
            refine ⟨fun F e => (by cases e), fun s' e => ?_⟩
            cases e
            exact ⟨⟨by dsimp only; omega, by dsimp only; omega, o3, o4⟩, by dsimp only; omega⟩
          · rw [if_neg e3]
            exact ⟨fun F e => by cases e; omega, fun s' e => by cases e⟩
      · rw [if_neg e2]
        have := gd_cm (b := b) hT j (skp b T s.1, s.2.1, s.2.2) ⟨hq, by dsimp only; omega, h3, h4⟩
        exact ⟨this.1, fun s' e => by have h2 := this.2 s' e; dsimp only at h2; exact ⟨h2.1, by omega⟩⟩
end spec
