/-! tests: the reference's stack of open signs (its top first) -/
def stg (o : Nat) : Nat := if o = 13 then 1 else if o = 12 then 2 else if o = 11 then 3 else 0
def ldS (l : Nat) : List Nat → List (Nat × Nat) → List Nat × List (Nat × Nat)
  | [], L => ([], L)
  | o :: O, L => if l ≤ stg o then ldS l O (L ++ [(o, 0)]) else (o :: O, L)
def dpS : List Nat → Nat
  | [] => 0
  | o :: O => (if o = 11 ∨ o = 91 then 1 else 0) + dpS O
section ttS
variable {b tx : Nat → Int32} {T : Nat}
def fcS (b : Nat → Int32) (T : Nat) : Nat → List Nat → RS → Except Nat (List Nat × RS)
  | 0, _, _ => Except.error 0
  | n + 1, O, s => if run b T (skp b T s.1) = wNot then (if dpS O = 10 then Except.error (1 + 8 * skp b T s.1 + 2) else fcS b T n (11 :: O) (skp b T s.1 + 3, s.2.1, s.2.2))
    else if seB b T (skp b T s.1) = nn 91 then (if dpS O = 10 then Except.error (1 + 8 * skp b T s.1 + 2) else fcS b T n (91 :: O) (skp b T s.1 + 1, s.2.1, s.2.2))
    else match cmS b T (skp b T s.1, s.2.1, s.2.2) with | .error F => Except.error F | .ok s1 => Except.ok (O, s1)
def clS (b : Nat → Int32) (T : Nat) : Nat → List Nat → RS → List Nat × RS
  | 0, O, s => (O, s)
  | n + 1, O, s => if seB b T (skp b T s.1) = nn 93 ∧ 91 ∈ O then
      clS b T n (ldS 3 (ldS 1 O s.2.1).1.tail (ldS 1 O s.2.1).2).1 (skp b T s.1 + 1, (ldS 3 (ldS 1 O s.2.1).1.tail (ldS 1 O s.2.1).2).2, s.2.2)
    else (O, (skp b T s.1, s.2.1, s.2.2))
/-- behind what is closed -/
def aoS (b : Nat → Int32) (T : Nat) (tt : List Nat → RS → Except Nat RS) (z : List Nat × RS) : Except Nat RS :=
  if run b T z.2.1 = wAnd then tt (12 :: (ldS 2 z.1 z.2.2.1).1) (z.2.1 + 3, (ldS 2 z.1 z.2.2.1).2, z.2.2.2)
  else if run b T z.2.1 = wOr then tt (13 :: (ldS 1 z.1 z.2.2.1).1) (z.2.1 + 2, (ldS 1 z.1 z.2.2.1).2, z.2.2.2)
  else if 91 ∈ z.1 then Except.error (1 + 8 * z.2.1) else Except.ok (z.2.1, (ldS 1 z.1 z.2.2.1).2, z.2.2.2)
/-- behind a fact -/
def afS (b : Nat → Int32) (T : Nat) (tt : List Nat → RS → Except Nat RS) (c : Nat) (O : List Nat) (s : RS) : Except Nat RS := aoS b T tt (clS b T c (ldS 3 O s.2.1).1 (s.1, (ldS 3 O s.2.1).2, s.2.2))
def ttS (b : Nat → Int32) (T : Nat) : Nat → List Nat → RS → Except Nat RS
  | 0, _, _ => Except.error 0
  | n + 1, O, s => match fcS b T 401 O s with | .error F => Except.error F | .ok z => afS b T (ttS b T n) 401 z.1 z.2
def fgS (b : Nat → Int32) (T n k : Nat) (O : List Nat) (s : RS) : Except Nat RS := match fcS b T k O s with | .error F => Except.error F | .ok z => afS b T (ttS b T n) 401 z.1 z.2
def ex (fi jo : Bool) (B : List Nat) : List Nat := (if jo = true then [12] else []) ++ ((if fi = true then [] else [13]) ++ B)
def teE (b : Nat → Int32) (T n c : Nat) : List Nat → RS → Except Nat RS
  | [], s => Except.ok s
  | _ :: O, s => if seB b T s.1 = nn 93 then afS b T (ttS b T n) c O (s.1 + 1, s.2.1, s.2.2) else Except.error (1 + 8 * s.1)
theorem teE_c {n c o : Nat} {O : List Nat} {s : RS} : teE b T n c (o :: O) s = if seB b T s.1 = nn 93 then afS b T (ttS b T n) c O (s.1 + 1, s.2.1, s.2.2) else Except.error (1 + 8 * s.1) := rfl
theorem ex_dp {fi jo : Bool} {B : List Nat} : dpS (ex fi jo B) = dpS B := by cases fi <;> cases jo <;> simp [ex, dpS]
theorem ex_l3 {fi jo : Bool} {B : List Nat} {L : List (Nat × Nat)} (hB : B = [] ∨ ∃ O, B = 91 :: O) : ldS 3 (ex fi jo B) L = (ex fi jo B, L) := by
  rcases hB with h | ⟨O, h⟩ <;> subst h <;> cases fi <;> cases jo <;> simp [ex, ldS, stg]
theorem ex_l2 {fi jo : Bool} {B : List Nat} {L : List (Nat × Nat)} (hB : B = [] ∨ ∃ O, B = 91 :: O) : ldS 2 (ex fi jo B) L = (ex fi false B, emO (if jo = true then some 12 else none) L) := by
  rcases hB with h | ⟨O, h⟩ <;> subst h <;> cases fi <;> cases jo <;> simp [ex, ldS, stg, emO]
theorem ex_l1 {fi jo : Bool} {B : List Nat} {L : List (Nat × Nat)} (hB : B = [] ∨ ∃ O, B = 91 :: O) : ldS 1 (ex fi jo B) L = (B, emO (if fi = true then none else some 13) (emO (if jo = true then some 12 else none) L)) := by
  rcases hB with h | ⟨O, h⟩ <;> subst h <;> cases fi <;> cases jo <;> simp [ex, ldS, stg, emO]
theorem ex_no {fi jo : Bool} : ¬ 91 ∈ ex fi jo [] := by cases fi <;> cases jo <;> simp [ex]
theorem ex_in {fi jo : Bool} {O : List Nat} : 91 ∈ ex fi jo (91 :: O) := by cases fi <;> cases jo <;> simp [ex]
theorem run_se {q : Nat} {W : List Nat} (h : run b T q = W) (hW : ¬ W = []) : ¬ seB b T q = nn 93 := by
  intro h2
  by_cases e : isLt b T q = true
  · obtain ⟨c, c1, c2, c3, _⟩ := lt_val e
    unfold seB at h2
    rw [if_pos (isLt_t.1 e).1, c1, by_dec2 c (by omega), nn_inj (by omega) (by omega)] at h2
    omega
  · rw [run_no (by rw [← Bool.not_eq_true]; exact e)] at h
    exact hW h.symm
def clF (b : Nat → Int32) (T : Nat) (f : RS → Except Nat RS) (r : Nat) : Prop := ∀ (n k j : Nat) (O : List Nat) (s : RS), dpS O + r = 10 → okR T j s → T - s.1 < n → T - s.1 < k →
  (∀ F, f s = Except.error F → fgS b T n k O s = Except.error F) ∧ (∀ s1, f s = Except.ok s1 → ∃ n1 c1, T - s1.1 < n1 ∧ T - s1.1 < c1 ∧ fgS b T n k O s = afS b T (ttS b T n1) c1 O s1)
theorem B_te (hT : T ≤ 400) {f : RS → Except Nat RS} {r : Nat} (hg : gdF T f) (hf : clF b T f r) : ∀ (kk : Nat) (fi jo : Bool) (B : List Nat) (n k j : Nat) (s : RS), (B = [] ∨ ∃ O, B = 91 :: O) → dpS B + r = 10 → okR T (j + pd fi jo) s → T - s.1 < n → T - s.1 < k → T - s.1 < kk →
    (∀ F, teL b T f kk fi jo s = Except.error F → fgS b T n k (ex fi jo B) s = Except.error F) ∧ (∀ s1, teL b T f kk fi jo s = Except.ok s1 → ∃ n1 c1, T - s1.1 < n1 ∧ T - s1.1 ≤ c1 ∧ fgS b T n k (ex fi jo B) s = teE b T n1 c1 B s1) := by
  intro kk
  induction kk with
  | zero => intro fi jo B n k j s _ _ _ _ _ h; omega
  | succ kk ih =>
    intro fi jo B n k j s hB hd h hn hk hkk
    obtain ⟨a1, a2⟩ := hf n k _ (ex fi jo B) s (by rw [ex_dp]; exact hd) h hn hk
    obtain ⟨g1, g2⟩ := hg _ s h
    unfold teL
    cases hs : f s with
    | error F0 => exact ⟨fun F e => by cases e; exact a1 _ hs, fun s1 e => by cases e⟩
    | ok s1 =>
      obtain ⟨⟨o1, o2, o3, o4⟩, o5⟩ := g2 _ hs
      obtain ⟨n1, c1, hn1, hc1, e1⟩ := a2 _ hs
      have hq := skp_le (b := b) o1
      have hq2 := skp_ge (b := b) o1
      have l1 := emO_len (a := if jo = true then some 12 else none) (L := s1.2.1)
      have l2 := emO_len (a := if fi = true then none else some 13) (L := emO (if jo = true then some 12 else none) s1.2.1)
      have hj : pnO (if jo = true then some 12 else none) = if jo = true then 1 else 0 := by cases jo <;> rfl
      have hi : pnO (if fi = true then none else some 13) = if fi = true then 0 else 1 := by cases fi <;> rfl
      have k1 : okL (emO (if jo = true then some 12 else none) s1.2.1) := emO_ok o4 (fun k hk => by cases jo <;> simp at hk; omega)
      have k2 : okL (emO (if fi = true then none else some 13) (emO (if jo = true then some 12 else none) s1.2.1)) := emO_ok k1 (fun k hk => by cases fi <;> simp at hk; omega)
      unfold pd at o2
      match c1, hc1 with
      | c1 + 1, hc1 =>
      match n1, hn1 with
      | n1 + 1, hn1 =>
      have e2 : afS b T (ttS b T (n1 + 1)) (c1 + 1) (ex fi jo B) s1 = aoS b T (ttS b T (n1 + 1)) (clS b T (c1 + 1) (ex fi jo B) (s1.1, s1.2.1, s1.2.2)) := by
        unfold afS; rw [ex_l3 hB]
      have hcl : (¬ (seB b T (skp b T s1.1) = nn 93 ∧ 91 ∈ ex fi jo B)) → clS b T (c1 + 1) (ex fi jo B) (s1.1, s1.2.1, s1.2.2) = (ex fi jo B, (skp b T s1.1, s1.2.1, s1.2.2)) := fun h => by unfold clS; rw [if_neg h]
      have hcl2 : (seB b T (skp b T s1.1) = nn 93 ∧ 91 ∈ ex fi jo B) → clS b T (c1 + 1) (ex fi jo B) (s1.1, s1.2.1, s1.2.2) = clS b T c1 (ldS 3 (ldS 1 (ex fi jo B) s1.2.1).1.tail (ldS 1 (ex fi jo B) s1.2.1).2).1 (skp b T s1.1 + 1, (ldS 3 (ldS 1 (ex fi jo B) s1.2.1).1.tail (ldS 1 (ex fi jo B) s1.2.1).2).2, s1.2.2) := fun h => by
        conv => lhs; unfold clS
        rw [if_pos h]
      rw [e1, e2]
      dsimp only
      generalize skp b T s1.1 = q at hq hq2 hcl hcl2
      by_cases w1 : run b T q = wAnd
      · rw [if_pos w1, hcl (fun h => run_se w1 (by decide) h.1)]
        have hw : q + 3 ≤ T := run_pos w1 hq
        unfold aoS
        dsimp only
        rw [if_pos w1, ex_l2 hB]
        exact ih fi true B n1 401 j (q + 3, emO (if jo = true then some 12 else none) s1.2.1, s1.2.2) hB hd ⟨hw, by unfold pd; rw [if_pos rfl]; dsimp only; omega, o3, k1⟩ (by dsimp only; omega) (by dsimp only; omega) (by dsimp only; omega)
      · rw [if_neg w1]
        by_cases w2 : run b T q = wOr
        · rw [if_pos w2, hcl (fun h => run_se w2 (by decide) h.1)]
          have hw : q + 2 ≤ T := run_pos w2 hq
          unfold aoS
          dsimp only
          rw [if_neg w1, if_pos w2, ex_l1 hB]
          exact ih false false B n1 401 j (q + 2, emO (if fi = true then none else some 13) (emO (if jo = true then some 12 else none) s1.2.1), s1.2.2) hB hd ⟨hw, by show _ + (j + 1) ≤ q + 2; dsimp only; omega, o3, k2⟩ (by dsimp only; omega) (by dsimp only; omega) (by dsimp only; omega)
        · rw [if_neg w2]
          refine ⟨fun F e => (by cases e), fun s' e => ?_⟩
          cases e
          refine ⟨n1 + 1, c1, by dsimp only; omega, by dsimp only; omega, ?_⟩
          rcases hB with h | ⟨O, h⟩
          · subst h
            rw [hcl (fun h => ex_no h.2)]
            unfold aoS teE
            dsimp only
            rw [if_neg w1, if_neg w2, if_neg ex_no, ex_l1 (Or.inl rfl)]
          · subst h
            unfold teE
            dsimp only
            by_cases w3 : seB b T q = nn 93
            · rw [if_pos w3, hcl2 ⟨w3, ex_in⟩, ex_l1 (Or.inr ⟨O, rfl⟩)]
              rfl
            · rw [if_neg w3, hcl (fun h => w3 h.1)]
              unfold aoS
              dsimp only
              rw [if_neg w1, if_neg w2, if_pos ex_in]
theorem B_fa (hT : T ≤ 400) : ∀ r, clF b T (faS b T r) r := by
  have cmp : ∀ (n k j : Nat) (O : List Nat) (s : RS), okR T j s → T - s.1 < n → ¬ run b T (skp b T s.1) = wNot → ¬ seB b T (skp b T s.1) = nn 91 →
      (∀ F, cmS b T (skp b T s.1, s.2.1, s.2.2) = Except.error F → fgS b T n (k + 1) O s = Except.error F) ∧ (∀ s1, cmS b T (skp b T s.1, s.2.1, s.2.2) = Except.ok s1 → ∃ n1 c1, T - s1.1 < n1 ∧ T - s1.1 < c1 ∧ fgS b T n (k + 1) O s = afS b T (ttS b T n1) c1 O s1) := by
    intro n k j O s h hn w1 w2
    have hq := skp_le (b := b) h.1
    have hq2 := skp_ge (b := b) h.1
    have h2 := h.2.1
    have hgd := gd_cm (b := b) hT j (skp b T s.1, s.2.1, s.2.2) ⟨hq, by dsimp only; omega, h.2.2.1, h.2.2.2⟩
    constructor
    · intro F e
      unfold fgS fcS
      rw [if_neg w1, if_neg w2, e]
    · intro s1 e
      have hlt := (hgd.2 s1 e).2
      dsimp only at hlt
      refine ⟨n, 401, by omega, by omega, ?_⟩
      unfold fgS fcS
      rw [if_neg w1, if_neg w2, e]
  intro r
  induction r with
  | zero =>
    intro n k j O s hd h hn hk
    match k, hk with
    | k + 1, hk =>
    have hd' : dpS O = 10 := by omega
    by_cases w1 : run b T (skp b T s.1) = wNot
    · have e1 : faS b T 0 s = Except.error (1 + 8 * skp b T s.1 + 2) := by unfold faS; rw [if_pos (Or.inl w1)]
      have e2 : fgS b T n (k + 1) O s = Except.error (1 + 8 * skp b T s.1 + 2) := by unfold fgS fcS; rw [if_pos w1, if_pos hd']
      rw [e1, e2]
      exact ⟨fun F e => e, fun s1 e => by cases e⟩
    · by_cases w2 : seB b T (skp b T s.1) = nn 91
      · have e1 : faS b T 0 s = Except.error (1 + 8 * skp b T s.1 + 2) := by unfold faS; rw [if_pos (Or.inr w2)]
        have e2 : fgS b T n (k + 1) O s = Except.error (1 + 8 * skp b T s.1 + 2) := by unfold fgS fcS; rw [if_neg w1, if_pos w2, if_pos hd']
        rw [e1, e2]
        exact ⟨fun F e => e, fun s1 e => by cases e⟩
      · have e1 : faS b T 0 s = cmS b T (skp b T s.1, s.2.1, s.2.2) := by unfold faS; rw [if_neg (fun h => h.elim w1 w2)]
        rw [e1]
        exact cmp n k j O s h hn w1 w2
  | succ r ih =>
    intro n k j O s hd h hn hk
    match k, hk with
    | k + 1, hk =>
    have hd' : ¬ dpS O = 10 := by omega
    have hq := skp_le (b := b) h.1
    have hq2 := skp_ge (b := b) h.1
    have h2 := h.2.1
    by_cases w1 : run b T (skp b T s.1) = wNot
    · have hw : skp b T s.1 + 3 ≤ T := run_pos w1 hq
      have e2 : fgS b T n (k + 1) O s = fgS b T n k (11 :: O) (skp b T s.1 + 3, s.2.1, s.2.2) := by
        unfold fgS; conv => lhs; unfold fcS
        rw [if_pos w1, if_neg hd']
      rw [e2]
      obtain ⟨a1, a2⟩ := ih n k (j + 1) (11 :: O) (skp b T s.1 + 3, s.2.1, s.2.2) (by simp [dpS]; omega) ⟨hw, by dsimp only; omega, h.2.2.1, h.2.2.2⟩ (by dsimp only; omega) (by dsimp only; omega)
      unfold faS
      rw [if_pos w1]
      cases hf : faS b T r (skp b T s.1 + 3, s.2.1, s.2.2) with
      | error F0 => exact ⟨fun F e => by cases e; exact a1 _ hf, fun s1 e => by cases e⟩
      | ok s1 =>
        refine ⟨fun F e => (by cases e), fun s' e => ?_⟩
        cases e
        obtain ⟨n1, c1, b1, b2, b3⟩ := a2 _ hf
        refine ⟨n1, c1, b1, b2, ?_⟩
        rw [b3]
        rfl
    · by_cases w2 : seB b T (skp b T s.1) = nn 91
      · have hlt := seB_lt (b := b) (by omega) w2
        have e2 : fgS b T n (k + 1) O s = fgS b T n k (ex true false (91 :: O)) (skp b T s.1 + 1, s.2.1, s.2.2) := by
          unfold fgS; conv => lhs; unfold fcS
          rw [if_neg w1, if_pos w2, if_neg hd']
          rfl
        rw [e2]
        have ho : okR T j (skp b T s.1 + 1, s.2.1, s.2.2) := ⟨by dsimp only; omega, by dsimp only; omega, h.2.2.1, h.2.2.2⟩
        obtain ⟨a1, a2⟩ := B_te hT (gd_fa (b := b) hT r) ih 401 true false (91 :: O) n k j (skp b T s.1 + 1, s.2.1, s.2.2) (Or.inr ⟨O, rfl⟩) (by simp [dpS]; omega) ho (by dsimp only; omega) (by dsimp only; omega) (by dsimp only; omega)
        have hgt := gd_te (b := b) hT (gd_fa (b := b) hT r) 401 true false j (skp b T s.1 + 1, s.2.1, s.2.2) ho (by dsimp only; omega)
        unfold faS
        rw [if_neg w1, if_pos w2]
        cases hf : teL b T (faS b T r) 401 true false (skp b T s.1 + 1, s.2.1, s.2.2) with
        | error F0 => exact ⟨fun F e => by cases e; exact a1 _ hf, fun s1 e => by cases e⟩
        | ok s1 =>
          obtain ⟨n1, c1, b1, b2, b3⟩ := a2 _ hf
          obtain ⟨o, o5, o6⟩ := hgt.2 _ hf
          have o1 := o.1
          rw [b3, teE_c]
          dsimp only
          rw [o6]
          by_cases w3 : seB b T s1.1 = nn 93
          · have hlt2 := seB_lt (b := b) (by omega) w3
            rw [if_pos w3, if_pos w3]
            refine ⟨fun F e => (by cases e), fun s' e => ?_⟩
            cases e
            exact ⟨n1, c1, by dsimp only; omega, by dsimp only; omega, rfl⟩
          · rw [if_neg w3, if_neg w3]
            exact ⟨fun F e => e, fun s' e => by cases e⟩
      · have e1 : faS b T (r + 1) s = cmS b T (skp b T s.1, s.2.1, s.2.2) := by unfold faS; rw [if_neg w1, if_neg w2]
        rw [e1]
        exact cmp n k j O s h hn w1 w2
theorem tt_eq (hT : T ≤ 400) {n j : Nat} {s : RS} (h : okR T j s) (hn : T - s.1 < n) : ttS b T (n + 1) [] s = teL b T (faS b T 10) 401 true false s := by
  have h1 := h.1
  obtain ⟨a1, a2⟩ := B_te hT (gd_fa (b := b) hT 10) (B_fa (b := b) hT 10) 401 true false [] n 401 j s (Or.inl rfl) rfl h hn (by omega) (by omega)
  show fgS b T n 401 (ex true false []) s = _
  cases hf : teL b T (faS b T 10) 401 true false s with
  | error F => exact a1 _ hf
  | ok s1 =>
    obtain ⟨n1, c1, _, _, b3⟩ := a2 _ hf
    rw [b3]
    rfl
end ttS
