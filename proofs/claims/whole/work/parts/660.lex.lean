/-! reading: signs, words, numbers of a text b of T bytes -/
section lex
variable {b tx : Nat → Int32} {T : Nat}
def isB (b : Nat → Int32) (T p : Nat) : Bool := decide (p < T) && decide (b p = nn 32)
def isLt (b : Nat → Int32) (T p : Nat) : Bool := decide (p < T) && (!decide (b p < nn 97) && !decide (nn 122 < b p))
def isDg (b : Nat → Int32) (T p : Nat) : Bool := decide (p < T) && (!decide (b p < nn 48) && !decide (nn 57 < b p))
/-- behind the blanks -/
def skF (b : Nat → Int32) (T : Nat) : Nat → Nat → Nat
  | 0, p => p
  | k + 1, p => if isB b T p = true then skF b T k (p + 1) else p
def skp (b : Nat → Int32) (T p : Nat) : Nat := skF b T (T - p) p
/-- what is seen there -/
def seB (b : Nat → Int32) (T p : Nat) : Int32 := if p < T then b p &&& nn 255 else -nn 1
def bR (T : Nat) (b tx : Nat → Int32) : Prop := ∀ i, i < T → tx i = b i
theorem isB_t {p : Nat} : isB b T p = true ↔ p < T ∧ b p = nn 32 := by unfold isB; simp
theorem isLt_t {p : Nat} : isLt b T p = true ↔ p < T ∧ ¬ b p < nn 97 ∧ ¬ nn 122 < b p := by unfold isLt; simp
theorem isDg_t {p : Nat} : isDg b T p = true ↔ p < T ∧ ¬ b p < nn 48 ∧ ¬ nn 57 < b p := by unfold isDg; simp
theorem skF_le : ∀ (k p : Nat), p ≤ T → p ≤ skF b T k p ∧ skF b T k p ≤ T := by
  intro k
  induction k with
  | zero => intro p h; exact ⟨Nat.le_refl _, h⟩
  | succ k ih =>
    intro p h
    unfold skF
    by_cases e : isB b T p = true
    · rw [if_pos e]
      have := isB_t.1 e
      obtain ⟨h1, h2⟩ := ih (p + 1) (by omega)
      exact ⟨by omega, h2⟩
    · rw [if_neg e]; exact ⟨Nat.le_refl _, h⟩
theorem skF_end : ∀ (k p : Nat), T - p ≤ k → isB b T (skF b T k p) = false := by
  intro k
  induction k with
  | zero =>
    intro p h
    unfold skF
    rw [← Bool.not_eq_true, isB_t]; omega
  | succ k ih =>
    intro p h
    unfold skF
    by_cases e : isB b T p = true
    · rw [if_pos e]; exact ih (p + 1) (by omega)
    · rw [if_neg e, ← Bool.not_eq_true]; exact e
theorem skp_ge {p : Nat} (h : p ≤ T) : p ≤ skp b T p := (skF_le _ _ h).1
theorem skp_le {p : Nat} (h : p ≤ T) : skp b T p ≤ T := (skF_le _ _ h).2
theorem skp_no {p : Nat} : isB b T (skp b T p) = false := skF_end _ _ (Nat.le_refl _)
theorem skF_no {k p : Nat} (h : isB b T p = false) : skF b T k p = p := by
  cases k with
  | zero => rfl
  | succ k => unfold skF; rw [if_neg (by rw [h]; decide)]
theorem skp_id {p : Nat} (h : isB b T p = false) : skp b T p = p := skF_no h
theorem skp_skp {p : Nat} : skp b T (skp b T p) = skp b T p := skp_id skp_no
theorem xm_see_l0 (hT : T ≤ 400) (hb : bR T b tx) : ∀ (k p f : Nat), T - p = k → p ≤ T → k < f → m_see_l0 tx (nn T) f (nn p) = some (seB b T (skF b T k p), nn (skF b T k p)) := by
  intro k
  induction k with
  | zero =>
    intro p f h1 h2 h3
    match f, h3 with
    | f + 1, _ =>
    unfold m_see_l0
    rw [ifle_t (by omega) (by omega), ifle_t (by omega) (by omega)]
    unfold skF seB
    rw [if_neg (by omega)]
    rfl
  | succ k ih =>
    intro p f h1 h2 h3
    match f, h3 with
    | f + 1, h3 =>
    unfold m_see_l0
    rw [ifle_f (by omega) (by omega), rq_inb (by omega) (by omega), nn_tn (by omega), hb p (by omega), li32]
    unfold skF
    by_cases e : b p = nn 32
    · rw [if_pos e, if_pos (isB_t.2 ⟨by omega, e⟩), ltp, li1, nn_add]
      exact ih (p + 1) f (by omega) (by omega) (by omega)
    · rw [if_neg e, ifle_f (by omega) (by omega), rq_inb (by omega) (by omega), if_neg (show ¬ isB b T p = true by rw [isB_t]; exact fun h => e h.2)]
      unfold seB
      rw [if_pos (by omega)]
      rfl
theorem xm_see (hT : T ≤ 400) (hb : bR T b tx) {p : Nat} (hp : p ≤ T) : m_see tx (nn T) (nn p) = some (seB b T (skp b T p), nn (skp b T p)) := by
  unfold m_see
  exact xm_see_l0 hT hb (T - p) p FU rfl hp (by unfold FU; omega)
theorem xm_isLetter (hT : T ≤ 400) (hb : bR T b tx) {p : Nat} (hp : p < 100000) : m_isLetter (nn p) tx (nn T) = some (b01 (isLt b T p = true)) := by
  unfold m_isLetter
  by_cases e : p < T
  · rw [ifle_f (by omega) (by omega), rq_inb (by omega) (by omega), nn_tn (by omega), hb p e, li97, show (122 : Int32) = nn 122 from id rfl]
    by_cases e1 : b p < nn 97
    · rw [if_pos e1, b01_f (by rw [isLt_t]; exact fun h => h.2.1 e1)]; rfl
    · rw [if_neg e1, rq_inb (by omega) (by omega)]
      by_cases e2 : nn 122 < b p
      · rw [if_pos e2, b01_f (by rw [isLt_t]; exact fun h => h.2.2 e2)]; rfl
      · rw [if_neg e2, b01_t (isLt_t.2 ⟨e, e1, e2⟩)]; rfl
  · rw [ifle_t (by omega) (by omega), b01_f (by rw [isLt_t]; omega)]; rfl
theorem xm_isDigit (hT : T ≤ 400) (hb : bR T b tx) {p : Nat} (hp : p < 100000) : m_isDigit (nn p) tx (nn T) = some (b01 (isDg b T p = true)) := by
  unfold m_isDigit
  by_cases e : p < T
  · rw [ifle_f (by omega) (by omega), rq_inb (by omega) (by omega), nn_tn (by omega), hb p e, li48, show (57 : Int32) = nn 57 from id rfl]
    by_cases e1 : b p < nn 48
    · rw [if_pos e1, b01_f (by rw [isDg_t]; exact fun h => h.2.1 e1)]; rfl
    · rw [if_neg e1, rq_inb (by omega) (by omega)]
      by_cases e2 : nn 57 < b p
      · rw [if_pos e2, b01_f (by rw [isDg_t]; exact fun h => h.2.2 e2)]; rfl
      · rw [if_neg e2, b01_t (isDg_t.2 ⟨e, e1, e2⟩)]; rfl
  · rw [ifle_t (by omega) (by omega), b01_f (by rw [isDg_t]; omega)]; rfl
theorem xc_see_l0 (hT : T ≤ 400) (hb : bR T b tx) : ∀ (k p f : Nat), T - p = k → p ≤ T → k < f → mCursor_peek_l0 tx (nn T) f (nn p) = some (seB b T (skF b T k p), nn (skF b T k p)) := by
  intro k
  induction k with
  | zero =>
    intro p f h1 h2 h3
    match f, h3 with
    | f + 1, _ =>
    unfold mCursor_peek_l0
    rw [ifle_t (by omega) (by omega), ifle_t (by omega) (by omega)]
    unfold skF seB
    rw [if_neg (by omega)]
    rfl
  | succ k ih =>
    intro p f h1 h2 h3
    match f, h3 with
    | f + 1, h3 =>
    unfold mCursor_peek_l0
    rw [ifle_f (by omega) (by omega), rq_inb (by omega) (by omega), nn_tn (by omega), hb p (by omega), li32]
    unfold skF
    by_cases e : b p = nn 32
    · rw [if_pos e, if_pos (isB_t.2 ⟨by omega, e⟩), ltp, li1, nn_add]
      exact ih (p + 1) f (by omega) (by omega) (by omega)
    · rw [if_neg e, ifle_f (by omega) (by omega), rq_inb (by omega) (by omega), if_neg (show ¬ isB b T p = true by rw [isB_t]; exact fun h => e h.2)]
      unfold seB
      rw [if_pos (by omega)]
      rfl
theorem xc_see (hT : T ≤ 400) (hb : bR T b tx) {p : Nat} (hp : p ≤ T) : mCursor_peek tx (nn T) (nn p) = some (seB b T (skp b T p), nn (skp b T p)) := by
  unfold mCursor_peek
  exact xc_see_l0 hT hb (T - p) p FU rfl hp (by unfold FU; omega)
theorem xc_isLetter (hT : T ≤ 400) (hb : bR T b tx) {p : Nat} (hp : p < 100000) : mCursor_isLetter (nn p) tx (nn T) = some (b01 (isLt b T p = true)) := by
  unfold mCursor_isLetter
  by_cases e : p < T
  · rw [ifle_f (by omega) (by omega), rq_inb (by omega) (by omega), nn_tn (by omega), hb p e, li97, show (122 : Int32) = nn 122 from id rfl]
    by_cases e1 : b p < nn 97
    · rw [if_pos e1, b01_f (by rw [isLt_t]; exact fun h => h.2.1 e1)]; rfl
    · rw [if_neg e1, rq_inb (by omega) (by omega)]
      by_cases e2 : nn 122 < b p
      · rw [if_pos e2, b01_f (by rw [isLt_t]; exact fun h => h.2.2 e2)]; rfl
      · rw [if_neg e2, b01_t (isLt_t.2 ⟨e, e1, e2⟩)]; rfl
  · rw [ifle_t (by omega) (by omega), b01_f (by rw [isLt_t]; omega)]; rfl
theorem xc_isDigit (hT : T ≤ 400) (hb : bR T b tx) {p : Nat} (hp : p < 100000) : mCursor_isDigit (nn p) tx (nn T) = some (b01 (isDg b T p = true)) := by
  unfold mCursor_isDigit
  by_cases e : p < T
  · rw [ifle_f (by omega) (by omega), rq_inb (by omega) (by omega), nn_tn (by omega), hb p e, li48, show (57 : Int32) = nn 57 from id rfl]
    by_cases e1 : b p < nn 48
    · rw [if_pos e1, b01_f (by rw [isDg_t]; exact fun h => h.2.1 e1)]; rfl
    · rw [if_neg e1, rq_inb (by omega) (by omega)]
      by_cases e2 : nn 57 < b p
      · rw [if_pos e2, b01_f (by rw [isDg_t]; exact fun h => h.2.2 e2)]; rfl
      · rw [if_neg e2, b01_t (isDg_t.2 ⟨e, e1, e2⟩)]; rfl
  · rw [ifle_t (by omega) (by omega), b01_f (by rw [isDg_t]; omega)]; rfl
/-- a byte that is a letter, as a number -/
theorem lt_val {p : Nat} (h : isLt b T p = true) : ∃ c, b p = nn c ∧ 97 ≤ c ∧ c ≤ 122 ∧ (b p).toNatClampNeg = c := by
  obtain ⟨_, h1, h2⟩ := isLt_t.1 h
  rw [Int32.lt_iff_toInt_lt, nn_toInt (by omega)] at h1 h2
  refine ⟨(b p).toNatClampNeg, ?_, ?_, ?_, rfl⟩
  · apply i_eq
    have : ((b p).toNatClampNeg : Int) = (b p).toInt := by unfold Int32.toNatClampNeg; omega
    rw [nn_toInt (by omega), this]
  · unfold Int32.toNatClampNeg; omega
  · unfold Int32.toNatClampNeg; omega
theorem dg_val {p : Nat} (h : isDg b T p = true) : ∃ c, b p = nn (48 + c) ∧ c ≤ 9 ∧ (b p).toNatClampNeg = 48 + c := by
  obtain ⟨_, h1, h2⟩ := isDg_t.1 h
  rw [Int32.lt_iff_toInt_lt, nn_toInt (by omega)] at h1 h2
  have h3 : ((b p).toNatClampNeg : Int) = (b p).toInt := by unfold Int32.toNatClampNeg; omega
  refine ⟨(b p).toNatClampNeg - 48, ?_, ?_, ?_⟩
  · apply i_eq
    rw [nn_toInt (by omega)]
    omega
  · omega
  · omega
/-- the letters from there on -/
def rnL (b : Nat → Int32) (T : Nat) : Nat → Nat → List Nat
  | 0, _ => []
  | k + 1, p => if isLt b T p = true then (b p).toNatClampNeg :: rnL b T k (p + 1) else []
def run (b : Nat → Int32) (T p : Nat) : List Nat := rnL b T (T - p) p
theorem run_no {p : Nat} (h : isLt b T p = false) : run b T p = [] := by
  unfold run
  cases T - p with
  | zero => rfl
  | succ k => unfold rnL; rw [if_neg (by rw [h]; decide)]
theorem run_lt {p : Nat} (h : isLt b T p = true) : run b T p = (b p).toNatClampNeg :: run b T (p + 1) := by
  have hp := (isLt_t.1 h).1
  unfold run
  rw [show T - p = (T - (p + 1)) + 1 by omega]
  conv => lhs; unfold rnL
  rw [if_pos h]
theorem run_len : ∀ (k p : Nat), T - p = k → p ≤ T → p + (run b T p).length ≤ T := by
  intro k
  induction k with
  | zero =>
    intro p h1 h2
    rw [run_no (by rw [← Bool.not_eq_true, isLt_t]; omega)]; exact h2
  | succ k ih =>
    intro p h1 h2
    by_cases e : isLt b T p = true
    · rw [run_lt e]
      have := ih (p + 1) (by omega) (by omega)
      rw [List.length_cons]; omega
    · rw [run_no (by rw [← Bool.not_eq_true]; exact e)]; exact h2
theorem run_le {p : Nat} (h : p ≤ T) : p + (run b T p).length ≤ T := run_len _ p rfl h
theorem m_passWord_ev (hT : T ≤ 400) (hb : bR T b tx) : ∀ (k p f : Nat), T - p = k → p ≤ T → k < f → m_passWord_l0 tx (nn T) f (nn p) = some (nn (p + (run b T p).length)) := by
  intro k
  induction k with
  | zero =>
    intro p f h1 h2 h3
    match f, h3 with
    | f + 1, _ =>
    have e : isLt b T p = false := by rw [← Bool.not_eq_true, isLt_t]; omega
    unfold m_passWord_l0
    rw [xm_isLetter hT hb (by omega), bs, ifb_f (by rw [e]; decide), run_no e]
    rfl
  | succ k ih =>
    intro p f h1 h2 h3
    match f, h3 with
    | f + 1, h3 =>
    unfold m_passWord_l0
    rw [xm_isLetter hT hb (by omega), bs]
    by_cases e : isLt b T p = true
    · rw [ifb_t e, ltp, li1, nn_add, ih (p + 1) f (by omega) (by omega) (by omega), run_lt e, List.length_cons, show p + 1 + (run b T (p + 1)).length = p + ((run b T (p + 1)).length + 1) by omega]
    · rw [ifb_f e, run_no (by rw [← Bool.not_eq_true]; exact e)]
      rfl
end lex
