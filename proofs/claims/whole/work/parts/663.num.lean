/-! numbers and faults -/
section num
variable {b tx : Nat → Int32} {T : Nat}
def nmF (b : Nat → Int32) (T q : Nat) : Nat → Nat → Nat → Nat × Nat
  | 0, v, a => (v, a)
  | k + 1, v, a => if isDg b T a = true then nmF b T q k (if 5 ≤ a - q then v else 10 * v + ((b a).toNatClampNeg - 48)) (a + 1) else (v, a)
def num (b : Nat → Int32) (T q : Nat) : Nat × Nat := nmF b T q (T - q) 0 q
theorem nmF_bd {q : Nat} : ∀ (k v a : Nat), v < 10 ^ (min (a - q) 5) → q ≤ a → a ≤ T → (nmF b T q k v a).1 < 100000 ∧ a ≤ (nmF b T q k v a).2 ∧ (nmF b T q k v a).2 ≤ T := by
  intro k
  induction k with
  | zero =>
    intro v a h1 h2 h3
    unfold nmF
    refine ⟨?_, Nat.le_refl _, h3⟩
    have : 10 ^ (min (a - q) 5) ≤ 10 ^ 5 := Nat.pow_le_pow_right (by omega) (by omega)
    dsimp only
    omega
  | succ k ih =>
    intro v a h1 h2 h3
    unfold nmF
    by_cases e : isDg b T a = true
    · rw [if_pos e]
      obtain ⟨c, c1, c2, c3⟩ := dg_val e
      have ha := (isDg_t.1 e).1
      have h4 : (if 5 ≤ a - q then v else 10 * v + ((b a).toNatClampNeg - 48)) < 10 ^ (min (a + 1 - q) 5) := by
        by_cases e5 : 5 ≤ a - q
        · rw [if_pos e5, show min (a + 1 - q) 5 = min (a - q) 5 by omega]; exact h1
        · rw [if_neg e5, show min (a + 1 - q) 5 = min (a - q) 5 + 1 by omega, Nat.pow_succ, c3]
          omega
      obtain ⟨i1, i2, i3⟩ := ih _ (a + 1) h4 (by omega) (by omega)
      exact ⟨i1, by omega, i3⟩
    · rw [if_neg e]
      refine ⟨?_, Nat.le_refl _, h3⟩
      have : 10 ^ (min (a - q) 5) ≤ 10 ^ 5 := Nat.pow_le_pow_right (by omega) (by omega)
      dsimp only
      omega
theorem num_bd {q : Nat} (h : q ≤ T) : (num b T q).1 < 100000 ∧ q ≤ (num b T q).2 ∧ (num b T q).2 ≤ T := nmF_bd _ _ _ (by simp) (Nat.le_refl _) h
theorem num_eq {q : Nat} (h : q ≤ T) : (num b T q).2 = q ↔ isDg b T q = false := by
  unfold num
  by_cases e : isDg b T q = true
  · have hq := (isDg_t.1 e).1
    rw [show T - q = (T - (q + 1)) + 1 by omega]
    unfold nmF
    rw [if_pos e]
    obtain ⟨c, c1, c2, c3⟩ := dg_val e
    have := (nmF_bd (b := b) (T := T) (q := q) (T - (q + 1)) (if 5 ≤ q - q then 0 else 10 * 0 + ((b q).toNatClampNeg - 48)) (q + 1) (by rw [if_neg (by omega), c3, show q + 1 - q = 1 by omega]; simp; omega) (by omega) (by omega)).2.1
    constructor
    · intro h; omega
    · intro h; rw [h] at e; cases e
  · have e' : isDg b T q = false := by rw [← Bool.not_eq_true]; exact e
    constructor
    · intro _; exact e'
    · intro _
      cases T - q with
      | zero => rfl
      | succ k => unfold nmF; rw [if_neg e]
/-- what is wrong with the number that begins there -/
def nuK (b : Nat → Int32) (T : Nat) (x1 x2 : Int32) (q : Nat) : Option Nat :=
  if (num b T q).2 = q then some 0 else if 5 < (num b T q).2 - q ∨ ¬ wi (nn (num b T q).1) x1.toInt x2.toInt = true then some 1 else none
def flt (F k p : Nat) : Nat := if F = 0 then 1 + 8 * p + k else F
def nuF (F : Nat) (o : Option Nat) (q : Nat) : Nat := match o with | none => F | some k => flt F k q
theorem xc_fail {F k p : Nat} (hF : F < 100000) : mCursor_fail (nn k) (nn p) (nn F) = some (nn (flt F k p)) := by
  unfold mCursor_fail flt
  by_cases e : F = 0
  · subst e; rw [if_pos (show nn 0 = 0 from rfl), ltp, if_pos rfl, li1, show (8 : Int32) = nn 8 from id rfl, nn_mul, nn_add, nn_add]
  · rw [if_neg (show ¬ nn F = 0 by rw [li0, nn_inj (by omega) (by omega)]; exact e), if_neg e]
theorem xc_isFine {F : Nat} (hF : F < 100000) : mCursor_isFine (nn F) = some (b01 (decide (F = 0) = true)) := by
  unfold mCursor_isFine
  by_cases e : F = 0
  · subst e; rw [if_pos (show nn 0 = 0 from rfl), b01_t (by decide)]; rfl
  · rw [if_neg (show ¬ nn F = 0 by rw [li0, nn_inj (by omega) (by omega)]; exact e), b01_f (by simp; exact e)]; rfl
theorem flt_lt {F k p : Nat} (hF : F < 100000) (hp : p ≤ 400) (hk : k < 8) : flt F k p < 100000 := by unfold flt; by_cases e : F = 0 <;> simp [e] <;> omega
theorem nuF_lt {F : Nat} {x1 x2 : Int32} {q : Nat} (hF : F < 100000) (hq : q ≤ 400) : nuF F (nuK b T x1 x2 q) q < 100000 := by
  unfold nuF nuK
  by_cases e : (num b T q).2 = q
  · rw [if_pos e]; exact flt_lt hF hq (by omega)
  · rw [if_neg e]
    by_cases e2 : 5 < (num b T q).2 - q ∨ ¬ wi (nn (num b T q).1) x1.toInt x2.toInt = true
    · rw [if_pos e2]; exact flt_lt hF hq (by omega)
    · rw [if_neg e2]; exact hF
theorem c_j78 {x1 x2 : Int32} {q v a F : Nat} (hF : F < 100000) (hqa : q ≤ a) (ha : a ≤ 400) : mCursor_takeNumber_j78 x1 x2 (nn q) (nn v) tx (nn T) (nn a) (nn F) = some (nn v, nn a, nn (nuF F (if a = q then some 0 else if 5 < a - q ∨ ¬ wi (nn v) x1.toInt x2.toInt = true then some 1 else none) q)) := by
  unfold mCursor_takeNumber_j78
  by_cases e : a = q
  · rw [ifeq_t e, if_pos e, li0, xc_fail hF, bs]; rfl
  · rw [ifeq_f e (by omega) (by omega), if_neg e, nn_sub hqa (by omega), show (5 : Int32) = nn 5 from id rfl]
    by_cases e5 : 5 < a - q
    · rw [iflt_t e5 (by omega), if_pos (Or.inl e5), li1, xc_fail hF, bs]; rfl
    · rw [iflt_f (by omega) (by omega), within_ev, bs]
      by_cases e6 : wi (nn v) x1.toInt x2.toInt = true
      · rw [ifb_t e6, if_neg (fun h => h.elim e5 (fun h => h e6))]; rfl
      · rw [ifb_f e6, if_pos (Or.inr e6), li1, xc_fail hF, bs]; rfl
theorem c_num_l13 (hT : T ≤ 400) (hb : bR T b tx) {x1 x2 : Int32} {q F : Nat} (hF : F < 100000) : ∀ (k v a f : Nat), T - a = k → q ≤ a → a ≤ T → k < f → v < 10 ^ (min (a - q) 5) →
    mCursor_takeNumber_l13 tx (nn T) (nn F) x1 x2 (nn q) f (nn v) (nn a) = some (nn (nmF b T q k v a).1, nn (nmF b T q k v a).2, nn (nuF F (if (nmF b T q k v a).2 = q then some 0 else if 5 < (nmF b T q k v a).2 - q ∨ ¬ wi (nn (nmF b T q k v a).1) x1.toInt x2.toInt = true then some 1 else none) q)) := by
  intro k
  induction k with
  | zero =>
    intro v a f h1 h2 h3 h4 h5
    match f, h4 with
    | f + 1, _ =>
    unfold mCursor_takeNumber_l13 nmF
    rw [ifle_t (by omega) (by omega)]
    exact c_j78 hF h2 (by omega)
  | succ k ih =>
    intro v a f h1 h2 h3 h4 h5
    match f, h4 with
    | f + 1, h4 =>
    unfold mCursor_takeNumber_l13 nmF
    rw [ifle_f (by omega) (by omega), xc_isDigit hT hb (by omega), bs]
    by_cases e : isDg b T a = true
    · rw [ifb_t e, if_pos e, nn_sub h2 (by omega), show (5 : Int32) = nn 5 from id rfl]
      obtain ⟨c, c1, c2, c3⟩ := dg_val e
      by_cases e5 : 5 ≤ a - q
      · rw [ifle_t e5 (by omega), if_pos e5, ltp, li1, nn_add]
        exact ih v (a + 1) f (by omega) (by omega) (by omega) (by omega) (by rw [show min (a + 1 - q) 5 = min (a - q) 5 by omega]; exact h5)
      · have h6 : 10 ^ (min (a - q) 5) ≤ 10 ^ 5 := Nat.pow_le_pow_right (by omega) (by omega)
        rw [ifle_f (by omega) (by omega), if_neg e5, rq_inb (by omega) (by omega), ltp, ltp, nn_tn (by omega), hb a (by omega), c3, c1, li1, show (10 : Int32) = nn 10 from id rfl, show (48 : Int32) = nn 48 from id rfl, nn_mul, nn_add, nn_sub (by omega) (by omega), nn_add, show v * 10 + (48 + c) - 48 = 10 * v + (48 + c - 48) by omega]
        refine ih _ (a + 1) f (by omega) (by omega) (by omega) (by omega) ?_
        rw [show min (a + 1 - q) 5 = min (a - q) 5 + 1 by omega, Nat.pow_succ]
        omega
    · rw [ifb_f e, if_neg e]
      exact c_j78 hF h2 (by omega)
theorem xc_takeNumber (hT : T ≤ 400) (hb : bR T b tx) (x1 x2 : Int32) {p F : Nat} (hF : F < 100000) (hp : p ≤ T) : mCursor_takeNumber x1 x2 tx (nn T) (nn p) (nn F) = some (nn (num b T (skp b T p)).1, nn (num b T (skp b T p)).2, nn (nuF F (nuK b T x1 x2 (skp b T p)) (skp b T p))) := by
  unfold mCursor_takeNumber
  have h1 := skp_le (b := b) hp
  rw [xc_see hT hb hp, bs]
  dsimp only
  rw [li0, c_num_l13 hT hb hF (T - skp b T p) 0 (skp b T p) FU rfl (Nat.le_refl _) h1 (by unfold FU; omega) (by simp)]
  rfl
theorem m_l34 (hT : T ≤ 400) (hb : bR T b tx) {x1 x2 nb : Int32} {q : Nat} : ∀ (k v a f : Nat), T - a = k → q < a → a ≤ T → k < f → v < 10 ^ (min (a - q) 5) →
    m_numberHere_l34 tx (nn T) (nn 0) nb x1 x2 (nn q) f (nn v) (nn a) = some (if 5 < (nmF b T q k v a).2 - q ∨ ¬ wi (nn (nmF b T q k v a).1) x1.toInt x2.toInt = true then (nn 0, nn (nmF b T q k v a).2, nn (1 + 8 * q + 1), nn (nmF b T q k v a).1) else (nn 1, nn (nmF b T q k v a).2, nn 0, nn (nmF b T q k v a).1)) := by
  have base : ∀ (v a f : Nat), q < a → a ≤ T → 0 < f → isDg b T a = false → m_numberHere_l34 tx (nn T) (nn 0) nb x1 x2 (nn q) f (nn v) (nn a) = some (if 5 < a - q ∨ ¬ wi (nn v) x1.toInt x2.toInt = true then (nn 0, nn a, nn (1 + 8 * q + 1), nn v) else (nn 1, nn a, nn 0, nn v)) := by
    intro v a f h2 h3 h4 h5
    match f, h4 with
    | f + 1, _ =>
    unfold m_numberHere_l34
    have hf : m_fails (1 : Int32) (nn q) (nn 0) = some (nn 0, nn (1 + 8 * q + 1)) := by
      unfold m_fails
      rw [if_pos (show nn 0 = 0 from rfl), ltp, li1, show (8 : Int32) = nn 8 from id rfl, nn_mul, nn_add, nn_add]; rfl
    rw [xm_isDigit hT hb (by omega), bs, ifb_f (by rw [h5]; decide), nn_sub (by omega) (by omega), show (5 : Int32) = nn 5 from id rfl, in_ev, Int32.toInt_toInt64, Int32.toInt_toInt64, hf, bs, bs]
    by_cases e5 : 5 < a - q
    · rw [iflt_t e5 (by omega), if_pos (Or.inl e5), ifn0]; rfl
    · rw [iflt_f (by omega) (by omega)]
      by_cases e6 : wi (nn v) x1.toInt x2.toInt = true
      · rw [ifb_t e6, if_neg (fun h => h.elim e5 (fun h => h e6))]; rfl
      · rw [ifb_f e6, if_pos (Or.inr e6), ifn0]; rfl
  intro k
  induction k with
  | zero =>
    intro v a f h1 h2 h3 h4 h5
    unfold nmF
    exact base v a f h2 h3 (by omega) (by rw [← Bool.not_eq_true, isDg_t]; omega)
  | succ k ih =>
    intro v a f h1 h2 h3 h4 h5
    by_cases e : isDg b T a = true
    · match f, h4 with
      | f + 1, h4 =>
      unfold m_numberHere_l34 nmF
      obtain ⟨c, c1, c2, c3⟩ := dg_val e
      rw [xm_isDigit hT hb (by omega), bs, ifb_t e, if_pos e, nn_sub (by omega) (by omega), show (5 : Int32) = nn 5 from id rfl]
      by_cases e5 : 5 ≤ a - q
      · rw [ifle_t e5 (by omega), if_pos e5, ltp, li1, nn_add]
        exact ih v (a + 1) f (by omega) (by omega) (by omega) (by omega) (by rw [show min (a + 1 - q) 5 = min (a - q) 5 by omega]; exact h5)
      · have h6 : 10 ^ (min (a - q) 5) ≤ 10 ^ 5 := Nat.pow_le_pow_right (by omega) (by omega)
        rw [ifle_f (by omega) (by omega), if_neg e5, rq_inb (by omega) (by omega), ltp, ltp, nn_tn (by omega), hb a (by omega), c3, c1, li1, show (10 : Int32) = nn 10 from id rfl, show (48 : Int32) = nn 48 from id rfl, nn_mul, nn_add, nn_sub (by omega) (by omega), nn_add, show 10 * v + (48 + c) - 48 = 10 * v + (48 + c - 48) by omega]
        refine ih _ (a + 1) f (by omega) (by omega) (by omega) (by omega) ?_
        rw [show min (a + 1 - q) 5 = min (a - q) 5 + 1 by omega, Nat.pow_succ]
        omega
    · unfold nmF
      rw [if_neg e]
      exact base v a f h2 h3 (by omega) (by rw [← Bool.not_eq_true]; exact e)
theorem xm_numberHere (hT : T ≤ 400) (hb : bR T b tx) (x1 x2 nb : Int32) {p : Nat} (hp : p ≤ T) :
    ∃ nb', m_numberHere x1 x2 tx (nn T) (nn p) (nn 0) nb = some (match nuK b T x1 x2 (skp b T p) with | none => (nn 1, nn (num b T (skp b T p)).2, nn 0, nn (num b T (skp b T p)).1) | some k => (nn 0, nn (num b T (skp b T p)).2, nn (1 + 8 * skp b T p + k), nb')) := by
  unfold m_numberHere
  have h1 := skp_le (b := b) hp
  rw [xm_see hT hb hp, bs]
  dsimp only
  rw [xm_isDigit hT hb (by omega), bs]
  generalize hq : skp b T p = q at h1
  by_cases e : isDg b T q = true
  · have hlt := (isDg_t.1 e).1
    have hne : ¬ (num b T q).2 = q := fun h => by rw [num_eq h1, e] at h; cases h
    obtain ⟨c, c1, c2, c3⟩ := dg_val e
    have hn : num b T q = nmF b T q (T - (q + 1)) c (q + 1) := by
      unfold num
      rw [show T - q = (T - (q + 1)) + 1 by omega]
      conv => lhs; unfold nmF
      rw [if_pos e, if_neg (by omega), c3]
      congr 1
      omega
    rw [ifb_t e, li0]
    have hl : m_numberHere_l34 tx (nn T) (nn 0) nb x1 x2 (nn q) FU (nn 0) (nn q) = m_numberHere_l34 tx (nn T) (nn 0) nb x1 x2 (nn q) 4999 (nn c) (nn (q + 1)) := by
      show m_numberHere_l34 tx (nn T) (nn 0) nb x1 x2 (nn q) (4999 + 1) (nn 0) (nn q) = _
      conv => lhs; unfold m_numberHere_l34
      rw [xm_isDigit hT hb (by omega), bs, ifb_t e, nn_sub (by omega) (by omega), show (5 : Int32) = nn 5 from id rfl, ifle_f (by omega) (by omega), rq_inb (by omega) (by omega), ltp, ltp, nn_tn (by omega), hb q (by omega), c1, li1, show (10 : Int32) = nn 10 from id rfl, show (48 : Int32) = nn 48 from id rfl, nn_mul, nn_add, nn_sub (by omega) (by omega), nn_add, show 10 * 0 + (48 + c) - 48 = c by omega]
    rw [hl, m_l34 hT hb (T - (q + 1)) c (q + 1) 4999 rfl (by omega) (by omega) (by omega) (by rw [show min (q + 1 - q) 5 = 1 by omega]; omega), ← hn]
    unfold nuK
    rw [if_neg hne]
    by_cases e2 : 5 < (num b T q).2 - q ∨ ¬ wi (nn (num b T q).1) x1.toInt x2.toInt = true
    · rw [if_pos e2, if_pos e2]; exact ⟨_, rfl⟩
    · rw [if_neg e2, if_neg e2]; exact ⟨nn 0, rfl⟩
  · have e' : isDg b T q = false := by rw [← Bool.not_eq_true]; exact e
    have he : (num b T q).2 = q := (num_eq h1).2 e'
    rw [ifb_f e]
    unfold nuK m_fails
    rw [if_pos he, if_pos (show nn 0 = 0 from rfl), ltp, li1, li0, show (8 : Int32) = nn 8 from id rfl, nn_mul, nn_add, nn_add, bs, he]
    exact ⟨nb, rfl⟩
/-- what is seen -/
theorem seB_end {q : Nat} : seB b T q = -nn 1 ↔ ¬ q < T := by
  unfold seB
  by_cases e : q < T
  · rw [if_pos e]
    constructor
    · intro h
      have h2 : (b q &&& nn 255) &&& nn 256 = -nn 1 &&& nn 256 := by rw [h]
      rw [Int32.and_assoc, show nn 255 &&& nn 256 = 0 from by decide, Int32.and_zero, show -nn 1 &&& nn 256 = nn 256 from by decide] at h2
      exact absurd h2 (by decide)
    · intro h; exact absurd e h
  · rw [if_neg e]; exact ⟨fun _ => e, fun _ => rfl⟩
theorem by_dec : ∀ k, k < 129 → ∀ c, c < 128 → ¬ (-nn k &&& nn 255) = nn c ∨ k = 0 := by decide +kernel
theorem by_dec2 : ∀ k, k < 128 → nn k &&& nn 255 = nn k := by decide +kernel
def byR (T : Nat) (b : Nat → Int32) : Prop := ∀ i, i < T → fits .byte (.int (b i)) = true
theorem by_and {x : Int32} {c : Nat} (h : fits .byte (.int x) = true) (hc : c < 128) (he : x &&& nn 255 = nn c) : x = nn c := by
  have hx : -128 ≤ x.toInt ∧ x.toInt ≤ 127 := by
    simp [fits] at h
    rw [Int32.le_iff_toInt_le, Int32.le_iff_toInt_le, show (-128 : Int32).toInt = -128 from by decide, show (127 : Int32).toInt = 127 from by decide] at h
    exact h
  by_cases e : 0 ≤ x.toInt
  · obtain ⟨k, hk⟩ : ∃ k : Nat, (k : Int) = x.toInt := ⟨x.toInt.toNat, by omega⟩
    have ex : x = nn k := i_eq (by rw [nn_toInt (by omega), hk])
    rw [ex, by_dec2 k (by omega)] at he
    rw [ex, he]
  · obtain ⟨k, hk⟩ : ∃ k : Nat, (k : Int) = -x.toInt := ⟨(-x.toInt).toNat, by omega⟩
    have ex : x = -nn k := i_eq (by
      rw [Int32.toInt_neg, nn_toInt (by omega), bm (by omega) (by omega)]; omega)
    rw [ex] at he
    rcases by_dec k (by omega) c hc with h | h
    · exact absurd he h
    · omega
theorem seB_val {q c : Nat} (hy : byR T b) (hc : c < 128) (h : seB b T q = nn c) : q < T ∧ b q = nn c := by
  by_cases e : q < T
  · unfold seB at h
    rw [if_pos e] at h
    exact ⟨e, by_and (hy q e) hc h⟩
  · rw [seB_end.2 e] at h
    have := congrArg Int32.toInt h
    rw [nn_toInt (by omega), show (-nn 1).toInt = -1 from by decide] at this
    omega
end num
