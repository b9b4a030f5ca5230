/-! asks: rests -/
theorem li25' : (25 : Int32) = nn 25 := id rfl
def rsD (d : Nat → Int32) (a b c : Nat) : Nat → Int32 := upd (upd d (11 + 4 * a + 1) (nn (2 + 2 * (c / 5)))) (11 + 4 * b + 1) (nn (2 + 2 * (c % 5)))
def rsH (ru : Option RU) (N B : Nat) (rg pl : Nat → Nat) (d : Nat → Int32) (M a b x c : Nat) : Int32 := (minsS ru N rg pl acA B M (rsD d a b c) (nn 0)).1 (11 + 4 * x + 3)
def rsL (H1 H2 : Nat → Int32) (a b : Nat) : Nat → Nat → Bool
  | 0, _ => true
  | n + 1, k => if H1 (5 * a + b) < H1 (5 * k + b) then false else if H2 (5 * a + b) < H2 (5 * a + k) then false else rsL H1 H2 a b n (k + 1)
def rsP (H1 H2 : Nat → Int32) (c : Nat) : Bool := rsL H1 H2 (c / 5) (c % 5) 5 0
def cntS (p : Nat → Bool) : Nat → Nat → Nat
  | 0, _ => 0
  | k + 1, c => (if p c = true then 1 else 0) + cntS p k (c + 1)
def frsS (p : Nat → Bool) : Nat → Nat → Option Nat
  | 0, _ => none
  | k + 1, c => if p c = true then some c else frsS p k (c + 1)
theorem cntS_le {p : Nat → Bool} : ∀ k c, cntS p k c ≤ k
  | 0, _ => Nat.le_refl _
  | k + 1, c => by unfold cntS; have := cntS_le (p := p) k (c + 1); split <;> omega
theorem frsS_lt {p : Nat → Bool} : ∀ k c x, frsS p k c = some x → c ≤ x ∧ x < c + k
  | 0, _, _, h => by cases h
  | k + 1, c, x, h => by
    unfold frsS at h
    split at h
    · cases h; omega
    · have := frsS_lt k (c + 1) x h; omega
def rsA (w : Int32) (m : Nat) (f : Option Nat) : Int32 := if w = nn 0 then nn m else match f with | none => -nn 2 | some c => if w = nn 1 then nn (2 + 2 * (c / 5)) else nn (2 + 2 * (c % 5))
def ixS (k : Nat) : Int32 := match k with | 0 => -nn 1 | k + 1 => nn k
theorem ixS_pred (k : Nat) (h : k < 1000) : nn k + -nn 1 = ixS k := by
  match k with
  | 0 => decide
  | k + 1 => exact (nn_m1 (by omega) (by omega)).trans (by rw [Nat.add_sub_cancel]; rfl)
section mrest
variable {sign clause clauses : Nat → Int32} {force : Int32} {ru : Option RU} {d kp : Nat → Int32} {N B L : Nat} {rg pl : Nat → Nat} {M a b : Nat}
theorem isRest_ev {H1 H2 hb : Nat → Int32} {x y : Nat} (hh : ∀ c, c < 25 → hb (2 * c) = H1 c ∧ hb (2 * c + 1) = H2 c) (hx : x < 5) (hy : y < 5) : m_isRest (nn x) (nn y) hb = some (b01 (rsL H1 H2 x y 5 0 = true)) := by
  have loop : ∀ (k i n : Nat), i + k = 5 → k < n → m_isRest_l2 hb (nn x) (nn y) n (nn i) = some (b01 (rsL H1 H2 x y k i = true)) := by
    intro k
    induction k with
    | zero =>
      intro i n h1 h2
      match n, h2 with
      | n + 1, _ =>
      unfold m_isRest_l2
      rw [li5, ifle_t (by omega) (by omega), li1, b01_t (show rsL H1 H2 x y 0 i = true from rfl)]
    | succ k ih =>
      intro i n h1 h2
      match n, h2 with
      | n + 1, h2 =>
      unfold m_isRest_l2
      simp only [li5, li2, li1, li0, nn_mul, nn_add]
      rw [ifle_f (by omega) (by omega), rq_inb (by omega) (by omega), rq_inb (by omega) (by omega), rq_inb (by omega) (by omega), rq_inb (by omega) (by omega), nn_tn (by omega), nn_tn (by omega), nn_tn (by omega), nn_tn (by omega), (hh (5 * x + y) (by omega)).1, (hh (5 * x + y) (by omega)).2, (hh (5 * i + y) (by omega)).1, (hh (5 * x + i) (by omega)).2]
      unfold rsL
      by_cases e1 : H1 (5 * x + y) < H1 (5 * i + y)
      · rw [if_pos e1, b01_f (by rw [if_pos e1]; decide)]
      · rw [if_neg e1]
        by_cases e2 : H2 (5 * x + y) < H2 (5 * x + i)
        · rw [if_neg (by rw [Int32.le_iff_toInt_le]; rw [Int32.lt_iff_toInt_lt] at e2; omega), b01_f (by rw [if_neg e1, if_pos e2]; decide)]
        · rw [if_pos (by rw [Int32.le_iff_toInt_le]; rw [Int32.lt_iff_toInt_lt] at e2; omega), ih (i + 1) n (by omega) (by omega)]
          congr 1
          simp only [if_neg e1, if_neg e2]
  exact loop 5 0 FU (by omega) (by unfold FU; omega)
theorem rests_l148_ev {H1 H2 hb said : Nat → Int32} {z : Nat → Int64} {tp rain : Int32} {wd : Nat → Int64} (hh : ∀ c, c < 25 → hb (2 * c) = H1 c ∧ hb (2 * c + 1) = H2 c) (w : Int32) :
    ∀ (k n : Nat), k ≤ 25 → k < n → m_rests_l148 sign clause clauses z tp wd said force (-nn 1) rain kp hb w n (nn (cntS (rsP H1 H2) (25 - k) k)) (oi (frsS (rsP H1 H2) (25 - k) k)) (ixS k) = some (rsA w (cntS (rsP H1 H2) 25 0) (frsS (rsP H1 H2) 25 0), z, tp, wd, said, rain, kp, hb) := by
  intro k
  induction k with
  | zero =>
    intro n h1 h2
    match n, h2 with
    | n + 1, _ =>
    unfold m_rests_l148
    simp only [li0, li1, li2, li5]
    rw [show ixS 0 = -nn 1 from rfl, if_pos neg1_lt]
    unfold rsA
    by_cases e : w = nn 0
    · rw [if_pos e, if_pos e]
    · rw [if_neg e, if_neg e]
      generalize hf : frsS (rsP H1 H2) (25 - 0) 0 = f
      have hf' : frsS (rsP H1 H2) 25 0 = f := hf
      match f, hf' with
      | none, _ => rw [oi_none, if_neg neg1_le]
      | some c, hf' =>
        have hc := frsS_lt 25 0 c hf'
        rw [oi_some, ifle_t (by omega) (by omega), nn_div (by omega) (by omega) (by omega), nn_mul, nn_add]
        by_cases e2 : w = nn 1
        · rw [if_pos e2]; show _ = some (if w = nn 1 then _ else _, _); rw [if_pos e2]
        · rw [if_neg e2]; show _ = some (if w = nn 1 then _ else _, _); rw [if_neg e2, nn_mul, nn_sub (by omega) (by omega), nn_mul, nn_add]
          have : c - c / 5 * 5 = c % 5 := by omega
          rw [this]
  | succ k ih =>
    intro n h1 h2
    match n, h2 with
    | n + 1, h2 =>
    have e5 : nn k - nn k / nn 5 * nn 5 = nn (k % 5) := nn_mod (by omega) (by omega) (by omega)
    have ec := cntS_le (p := rsP H1 H2) (25 - (k + 1)) (k + 1)
    unfold m_rests_l148
    simp only [li0, li1, li2, li5]
    rw [show ixS (k + 1) = nn k from rfl, iflt_f (by omega) (by omega), e5, nn_div (by omega) (by omega) (by omega), isRest_ev hh (by omega) (by omega), bs, nn_add, ixS_pred k (by omega)]
    have e6 : 25 - k = (25 - (k + 1)) + 1 := by omega
    have h3 := ih n (by omega) (by omega)
    rw [e6] at h3
    unfold cntS frsS at h3
    by_cases e : rsP H1 H2 k = true
    · rw [if_neg (by rw [b01_0]; exact fun h => h e)]
      rw [if_pos e, if_pos e, oi_some, Nat.add_comm 1] at h3
      exact h3
    · rw [if_pos (by rw [b01_0]; exact e)]
      rw [if_neg e, if_neg e, Nat.zero_add] at h3
      exact h3
theorem fx_rs {c : Nat} (hf : fxR N B L rg d) (ha : a < N) (hb : b < N) : fxR N B L rg (rsD d a b c) := by
  have := hf.1
  exact fx_upd (fx_upd hf (by omega)) (by omega)
theorem rests_l43_ev (hfr : frR sign clause clauses force ru) (hr : rOK N rg pl) (hf : fxR N B L rg d) (hM : M < 4000) (hk : ∀ k, k < 79 → kp k = d (10 + k)) (ha : a < N) (hb : b < N) (w : Int32) :
    ∀ (k i n : Nat) (hs : Nat → Int32) (z : Nat → Int64) (tp : Int32) (wd : Nat → Int64), i + k = 25 → k < n → (∀ c, c < i → hs (2 * c) = rsH ru N B rg pl d M a b a c ∧ hs (2 * c + 1) = rsH ru N B rg pl d M a b b c) →
      ∃ z' tp' wd' hs', m_rests_l43 sign clause clauses force (-nn 1) kp (nn a) (nn b) (nn M) w n (nn i) z tp wd d (nn 0) hs = some (rsA w (cntS (rsP (rsH ru N B rg pl d M a b a) (rsH ru N B rg pl d M a b b)) 25 0) (frsS (rsP (rsH ru N B rg pl d M a b a) (rsH ru N B rg pl d M a b b)) 25 0), z', tp', wd', d, nn 0, kp, hs') := by
  have hN := hf.1
  intro k
  induction k with
  | zero =>
    intro i n hs z tp wd h1 h2 h3
    match n, h2 with
    | n + 1, _ =>
    have hi : i = 25 := by omega
    subst hi
    refine ⟨z, tp, wd, hs, ?_⟩
    unfold m_rests_l43
    rw [li25', ifle_t (by omega) (by omega)]
    exact rests_l148_ev h3 w 25 FU (by omega) (by unfold FU; omega)
  | succ k ih =>
    intro i n hs z tp wd h1 h2 h3
    match n, h2 with
    | n + 1, h2 =>
    have e5 : nn i - nn i / nn 5 * nn 5 = nn (i % 5) := nn_mod (by omega) (by omega) (by omega)
    obtain ⟨z', tp', wd', hz⟩ := passesAll_ev hfr acR_all hr hM (fx_rs (c := i) hf ha hb) z tp wd
    have ho : oEq d (rsD d a b i) := (oEq_upd (by omega) (by omega)).trans (oEq_upd (by omega) (by omega))
    have hl := laysBack_ev (d := d) (d' := (minsS ru N rg pl acA B M (rsD d a b i) (nn 0)).1) (ho.trans (oEq_mins hN hf.2.1 hr)) hk
    unfold rsD at hl
    unfold m_rests_l43
    simp only [lt, li25', li11, li4, li1, li2, li5]
    rw [ifle_f (by omega) (by omega), e5, nn_div (by omega) (by omega) (by omega)]
    simp only [nn_mul, nn_add]
    rw [rq_inb (by omega) (by omega), rq_inb (by omega) (by omega), nn_tn (by omega), nn_tn (by omega)]
    unfold rsD at hz
    rw [hz, bs]
    dsimp only
    rw [wealthOf_ev (by omega), bs, rq_inb (by omega) (by omega), nn_tn (by omega), wealthOf_ev (by omega), bs, rq_inb (by omega) (by omega), nn_tn (by omega), hl, bs]
    refine ih (i + 1) n _ z' tp' wd' (by omega) (by omega) (fun c hc => ?_)
    by_cases e : c = i
    · subst e
      refine ⟨?_, ?_⟩
      · rw [upd_o (by omega), upd_s]; rfl
      · rw [upd_s]; rfl
    · have := h3 c (by omega)
      refine ⟨?_, ?_⟩
      · rw [upd_o (by omega), upd_o (by omega)]; exact this.1
      · rw [upd_o (by omega), upd_o (by omega)]; exact this.2
end mrest
section crest
variable {d : Nat → Int32} {N B L : Nat} {rg pl : Nat → Nat} {M a b : Nat} {g4 : tyFair}
theorem crest_ev {H1 H2 : Nat → Int32} {x y : Nat} {t : tyTrials} (h1 : ∀ c, c < 25 → t.2.2.1 c = H1 c) (h2 : ∀ c, c < 25 → t.2.2.2.1 c = H2 c) (hx : x < 5) (hy : y < 5) : mTrials_rest (nn x) (nn y) t = some (b01 (rsP H1 H2 (5 * x + y) = true)) := by
  have loop : ∀ (k i n : Nat), i + k = 5 → k < n → mTrials_rest_l9 t (nn x) (nn y) (nn (x * 5 + y)) n (nn i) = some (b01 (rsL H1 H2 x y k i = true)) := by
    intro k
    induction k with
    | zero =>
      intro i n h1 h2
      match n, h2 with
      | n + 1, _ =>
      unfold mTrials_rest_l9
      rw [li5, ifle_t (by omega) (by omega), li1, b01_t (show rsL H1 H2 x y 0 i = true from rfl)]
    | succ k ih =>
      intro i n h3 h4
      match n, h4 with
      | n + 1, h4 =>
      unfold mTrials_rest_l9
      simp only [li5, li1, li0, nn_mul, nn_add]
      rw [ifle_f (by omega) (by omega), rq_inb (by omega) (by omega), rq_inb (by omega) (by omega), rq_inb (by omega) (by omega), rq_inb (by omega) (by omega), nn_tn (by omega), nn_tn (by omega), nn_tn (by omega), h1 (x * 5 + y) (by omega), h2 (x * 5 + y) (by omega), h1 (i * 5 + y) (by omega), h2 (x * 5 + i) (by omega)]
      rw [Nat.mul_comm x 5, Nat.mul_comm i 5]
      rw [Nat.mul_comm x 5] at ih
      unfold rsL
      by_cases e1 : H1 (5 * x + y) < H1 (5 * i + y)
      · rw [if_pos e1, b01_f (by rw [if_pos e1]; decide)]
      · rw [if_neg e1]
        by_cases e2 : H2 (5 * x + y) < H2 (5 * x + i)
        · rw [if_neg (by rw [Int32.le_iff_toInt_le]; rw [Int32.lt_iff_toInt_lt] at e2; omega), b01_f (by rw [if_neg e1, if_pos e2]; decide)]
        · rw [if_pos (by rw [Int32.le_iff_toInt_le]; rw [Int32.lt_iff_toInt_lt] at e2; omega), ih (i + 1) n (by omega) (by omega)]
          congr 1
          simp only [if_neg e1, if_neg e2]
  unfold mTrials_rest rsP
  rw [li5, nn_mul, nn_add, show (5 * x + y) / 5 = x by omega, show (5 * x + y) % 5 = y by omega, lt, li0]
  exact loop 5 0 FU (by omega) (by unfold FU; omega)
/-- as the class counts -/
def rsS (p : Nat → Bool) : Nat → Nat → Int32 × Int32 × Int32 → Int32 × Int32 × Int32
  | 0, _, s => s
  | k + 1, c, s => if p c = true then (if s.1 = nn 0 then rsS p k (c + 1) (nn 0 + nn 1, nn (2 + 2 * (c / 5)), nn (2 + 2 * (c % 5))) else rsS p k (c + 1) (s.1 + nn 1, s.2)) else rsS p k (c + 1) s
theorem rsS_val {p : Nat → Bool} : ∀ (k c m : Nat) (s : Int32 × Int32), m + k < 1000 → rsS p k c (nn m, s) = (nn (m + cntS p k c), if m = 0 then (match frsS p k c with | none => s | some x => (nn (2 + 2 * (x / 5)), nn (2 + 2 * (x % 5)))) else s)
  | 0, c, m, s, _ => by unfold rsS cntS frsS; simp
  | k + 1, c, m, s, h => by
    unfold rsS cntS frsS
    by_cases e : p c = true
    · simp only [if_pos e]
      by_cases e2 : m = 0
      · subst e2
        simp only [if_true]
        rw [nn_add, rsS_val k (c + 1) (0 + 1) _ (by omega), if_neg (by omega)]
        simp only [Nat.zero_add]
      · have e3 : ¬ nn m = nn 0 := by rw [nn_inj (by omega) (by omega)]; exact e2
        simp only [if_neg e3, if_neg e2]
        rw [nn_add, rsS_val k (c + 1) (m + 1) _ (by omega), if_neg (by omega), Nat.add_assoc]
    · simp only [if_neg e]
      rw [rsS_val k (c + 1) m s (by omega), Nat.zero_add]
theorem rsS_app {p : Nat → Bool} : ∀ (k j c : Nat) (s : Int32 × Int32 × Int32), rsS p (k + j) c s = rsS p j (c + k) (rsS p k c s)
  | 0, j, c, s => by rw [Nat.zero_add]; rfl
  | k + 1, j, c, s => by
    have eq : ∀ k c s, rsS p (k + 1) c s = if p c = true then (if s.1 = nn 0 then rsS p k (c + 1) (nn 0 + nn 1, nn (2 + 2 * (c / 5)), nn (2 + 2 * (c % 5))) else rsS p k (c + 1) (s.1 + nn 1, s.2)) else rsS p k (c + 1) s := fun _ _ _ => rfl
    rw [show k + 1 + j = (k + j) + 1 by omega, eq, eq, show c + (k + 1) = c + 1 + k by omega]
    by_cases e : p c = true
    · simp only [if_pos e]
      by_cases e2 : s.1 = nn 0
      · simp only [if_pos e2]; exact rsS_app k j (c + 1) _
      · simp only [if_neg e2]; exact rsS_app k j (c + 1) _
    · simp only [if_neg e]; exact rsS_app k j (c + 1) _
theorem fR_rs {g : tyFair} {c : Nat} (hr : rOK N rg pl) (hF : fR N B L rg pl d g) (ha : a < N) (hb : b < N) (hc : c < 25) : fR N B L rg pl (rsD d a b c) (g.1, g.2.1, g.2.2.1, g.2.2.2.1, g.2.2.2.2.1, g.2.2.2.2.2.1, upd (upd g.2.2.2.2.2.2.1 a (nn (2 + 2 * (c / 5)))) b (nn (2 + 2 * (c % 5))), g.2.2.2.2.2.2.2.1, g.2.2.2.2.2.2.2.2.1, g.2.2.2.2.2.2.2.2.2.1, g.2.2.2.2.2.2.2.2.2.2.1, g.2.2.2.2.2.2.2.2.2.2.2.1, g.2.2.2.2.2.2.2.2.2.2.2.2.1, g.2.2.2.2.2.2.2.2.2.2.2.2.2.1, g.2.2.2.2.2.2.2.2.2.2.2.2.2.2.1, g.2.2.2.2.2.2.2.2.2.2.2.2.2.2.2.1, g.2.2.2.2.2.2.2.2.2.2.2.2.2.2.2.2.1, g.2.2.2.2.2.2.2.2.2.2.2.2.2.2.2.2.2.1, g.2.2.2.2.2.2.2.2.2.2.2.2.2.2.2.2.2.2) :=
  fR_price (st := b) (p := 2 + 2 * (c % 5)) hr (fR_price (st := a) (p := 2 + 2 * (c / 5)) hr hF ha (by omega) (by omega)) hb (by omega) (by omega)
theorem c_rsIr {H1 H2 : Nat → Int32} {g1 : tyFair} {q : tyRule}  {x : Nat} (hx : x < 5) {K} :
    ∀ (k y n : Nat) (t : tyTrials), y + k = 5 → k < n → (∀ c, c < 25 → t.2.2.1 c = H1 c) → (∀ c, c < 25 → t.2.2.2.1 c = H2 c) →
      ∃ t', mTrials_findRestsrr_l116 g1 g4 q (nn x) K n (nn y) t = K (nn (x + 1)) t' ∧ (t'.1 0, t'.1 1, t'.1 2) = rsS (rsP H1 H2) k (5 * x + y) (t.1 0, t.1 1, t.1 2) ∧ (∀ c, c < 25 → t'.2.2.1 c = H1 c) ∧ (∀ c, c < 25 → t'.2.2.2.1 c = H2 c) := by
  intro k
  induction k with
  | zero =>
    intro y n t h1 h2 h3 h4
    match n, h2 with
    | n + 1, _ =>
    unfold mTrials_findRestsrr_l116
    rw [li5, ifle_t (by omega) (by omega), li1, nn_add]
    exact ⟨t, rfl, rfl, h3, h4⟩
  | succ k ih =>
    intro y n t h1 h2 h3 h4
    match n, h2 with
    | n + 1, h2 =>
    unfold mTrials_findRestsrr_l116
    simp only [lt, li5, li0, li1, nn_add]
    rw [ifle_f (by omega) (by omega), crest_ev h3 h4 hx (by omega), bs]
    unfold rsS
    by_cases e : rsP H1 H2 (5 * x + y) = true
    · rw [if_neg (by rw [b01_0]; exact fun h => h e), if_pos e, rq_inb (by omega) (by omega)]
      by_cases e3 : t.1 0 = nn 0
      · rw [if_pos (show t.1 (nn 0).toNatClampNeg = nn 0 from e3), if_pos e3]
        unfold mTrials_priceOfRests
        rw [bs, bs, find_ev, bs, rq_inb (by omega) (by omega), rq_inb (by omega) (by omega), li2, nn_mul, nn_mul, nn_add, nn_add, show (5 * x + y) / 5 = x by omega, show (5 * x + y) % 5 = y by omega]
        exact ih (y + 1) n (upd (upd (upd (upd t.1 0 (nn 0)) 1 (nn (2 + 2 * x))) 2 (nn (2 + 2 * y))) 0 (nn 0 + nn 1), t.2) (by omega) (by omega) h3 h4
      · rw [if_neg (show ¬ t.1 (nn 0).toNatClampNeg = nn 0 from e3), if_neg e3, rq_inb (by omega) (by omega), rq_inb (by omega) (by omega)]
        exact ih (y + 1) n (upd t.1 0 (t.1 0 + nn 1), t.2) (by omega) (by omega) h3 h4
    · rw [if_pos (by rw [b01_0]; exact e), if_neg e]
      exact ih (y + 1) n t (by omega) (by omega) h3 h4
theorem c_rsOr {H1 H2 : Nat → Int32} {g1 : tyFair} {q : tyRule}  :
    ∀ (k x n : Nat) (t : tyTrials), x + k = 5 → k < n → (∀ c, c < 25 → t.2.2.1 c = H1 c) → (∀ c, c < 25 → t.2.2.2.1 c = H2 c) →
      ∃ t', mTrials_findRestsrr_l107 g1 g4 q n (nn x) t = some (t', g1, q) ∧ (t'.1 0, t'.1 1, t'.1 2) = rsS (rsP H1 H2) (5 * k) (5 * x) (t.1 0, t.1 1, t.1 2) := by
  intro k
  induction k with
  | zero =>
    intro x n t h1 h2 h3 h4
    match n, h2 with
    | n + 1, _ =>
    unfold mTrials_findRestsrr_l107
    rw [li5, ifle_t (by omega) (by omega)]
    exact ⟨t, rfl, rfl⟩
  | succ k ih =>
    intro x n t h1 h2 h3 h4
    match n, h2 with
    | n + 1, h2 =>
    unfold mTrials_findRestsrr_l107
    rw [li5, ifle_f (by omega) (by omega), li0]
    obtain ⟨t1, hz, ht, h5, h6⟩ := c_rsIr (H1 := H1) (H2 := H2) (g4 := g4) (g1 := g1) (q := q) (K := mTrials_findRestsrr_l107 g1 g4 q n) (show x < 5 by omega) 5 0 FU t (by omega) (by unfold FU; omega) h3 h4
    rw [hz, show 5 * (k + 1) = 5 + 5 * k by omega, rsS_app, show 5 * x + 5 = 5 * (x + 1) by omega]
    rw [Nat.add_zero] at ht
    rw [← ht]
    exact ih (x + 1) n t1 (by omega) (by omega) h5 h6
theorem c_rsr {r : RU} {len : Nat} {q0 : tyRule} (hR : rcR q0.1 q0.2.1 q0.2.2.1 q0.2.2.2.1 q0.2.2.2.2.1 q0.2.2.2.2.2.1 q0.2.2.2.2.2.2.2.1 r len) (hr : rOK N rg pl) (hF : fR N B L rg pl d g4) (hM : M < 4000) (ha : a < N) (hb : b < N) :
    ∀ (k i n : Nat) (t : tyTrials) (g1 : tyFair) (q : tyRule), i + k = 25 → k < n → (∀ c, c < i → t.2.2.1 c = rsH (some r) N B rg pl d M a b a c) → (∀ c, c < i → t.2.2.2.1 c = rsH (some r) N B rg pl d M a b b c) → rqE q0 q →
      ∃ t' g1' q', mTrials_findRestsrr_l3 g4 (nn a) (nn b) (nn M) n (nn i) t g1 q = some (t', g1', q') ∧ (t'.1 0, t'.1 1, t'.1 2) = rsS (rsP (rsH (some r) N B rg pl d M a b a) (rsH (some r) N B rg pl d M a b b)) 25 0 (nn 0, -nn 2, -nn 2) ∧ rqE q0 q' := by
  have hN := hF.1.2.2.2.2.1.1
  intro k
  induction k with
  | zero =>
    intro i n t g1 q h1 h2 h3 h4 hq
    match n, h2 with
    | n + 1, _ =>
    have hi : i = 25 := by omega
    subst hi
    unfold mTrials_findRestsrr_l3
    rw [li25', ifle_t (by omega) (by omega), find_ev, bs, li0, show (-2 : Int32) = -nn 2 from id rfl]
    obtain ⟨t', h5, h6⟩ := c_rsOr (g4 := g4) (g1 := g1) (q := q) 5 0 FU (upd (upd (upd t.1 0 (nn 0)) 1 (-nn 2)) 2 (-nn 2), t.2) (by omega) (by unfold FU; omega) h3 h4
    exact ⟨t', g1, q, h5, h6, hq⟩
  | succ k ih =>
    intro i n t g1 q h1 h2 h3 h4 hq
    match n, h2 with
    | n + 1, h2 =>
    have e5 : nn i - nn i / nn 5 * nn 5 = nn (i % 5) := nn_mod (by omega) (by omega) (by omega)
    obtain ⟨g3, hg3, eg3⟩ := from_ev g1 g4
    have hF3 := fR_gEq hF eg3
    have hF4 := fR_rs (c := i) hr hF3 ha hb (by omega)
    obtain ⟨m, go, ti, we, so, pu, hh, wd', z', hgo, hF5⟩ := gor_g (rcR_E hR hq) acR_all hr hM hF4 q.2.2.2.2.2.2.2.2.1 q.2.2.2.2.2.2.2.2.2
    have hwa : we a = _ := hF5.1.2.2.1 a ha
    have hwb : we b = _ := hF5.1.2.2.1 b hb
    dsimp only at hgo
    unfold mTrials_findRestsrr_l3 mTrials_priceOfRests
    rw [li25', ifle_f (by omega) (by omega), hg3, bs, bs]
    simp only [lt, bs, li5, li2, li1]
    rw [e5, nn_div (by omega) (by omega) (by omega), nn_mul, nn_mul, nn_add, nn_add, nn_add, rq_inb (by omega) (by omega), rq_inb (by omega) (by omega), nn_tn (by omega), nn_tn (by omega)]
    rw [hgo, bs]
    dsimp only
    rw [rq_inb (by omega) (by omega), rq_inb (by omega) (by omega), rq_inb (by omega) (by omega), rq_inb (by omega) (by omega), nn_tn (by omega)]
    refine ih (i + 1) n _ _ (qUp q wd' z') (by omega) (by omega) (fun c hc => ?_) (fun c hc => ?_) hq.up
    · by_cases e : c = i
      · subst e; exact (upd_s _ _ _).trans hwa
      · exact (upd_o e).trans (h3 c (by omega))
    · by_cases e : c = i
      · subst e; exact (upd_s _ _ _).trans hwb
      · exact (upd_o e).trans (h4 c (by omega))
theorem c_rsIn {H1 H2 : Nat → Int32} {g1 : tyFair}  {x : Nat} (hx : x < 5) {K} :
    ∀ (k y n : Nat) (t : tyTrials), y + k = 5 → k < n → (∀ c, c < 25 → t.2.2.1 c = H1 c) → (∀ c, c < 25 → t.2.2.2.1 c = H2 c) →
      ∃ t', mTrials_findRestsrn_l116 g1 g4  (nn x) K n (nn y) t = K (nn (x + 1)) t' ∧ (t'.1 0, t'.1 1, t'.1 2) = rsS (rsP H1 H2) k (5 * x + y) (t.1 0, t.1 1, t.1 2) ∧ (∀ c, c < 25 → t'.2.2.1 c = H1 c) ∧ (∀ c, c < 25 → t'.2.2.2.1 c = H2 c) := by
  intro k
  induction k with
  | zero =>
    intro y n t h1 h2 h3 h4
    match n, h2 with
    | n + 1, _ =>
    unfold mTrials_findRestsrn_l116
    rw [li5, ifle_t (by omega) (by omega), li1, nn_add]
    exact ⟨t, rfl, rfl, h3, h4⟩
  | succ k ih =>
    intro y n t h1 h2 h3 h4
    match n, h2 with
    | n + 1, h2 =>
    unfold mTrials_findRestsrn_l116
    simp only [lt, li5, li0, li1, nn_add]
    rw [ifle_f (by omega) (by omega), crest_ev h3 h4 hx (by omega), bs]
    unfold rsS
    by_cases e : rsP H1 H2 (5 * x + y) = true
    · rw [if_neg (by rw [b01_0]; exact fun h => h e), if_pos e, rq_inb (by omega) (by omega)]
      by_cases e3 : t.1 0 = nn 0
      · rw [if_pos (show t.1 (nn 0).toNatClampNeg = nn 0 from e3), if_pos e3]
        unfold mTrials_priceOfRests
        rw [bs, bs, find_ev, bs, rq_inb (by omega) (by omega), rq_inb (by omega) (by omega), li2, nn_mul, nn_mul, nn_add, nn_add, show (5 * x + y) / 5 = x by omega, show (5 * x + y) % 5 = y by omega]
        exact ih (y + 1) n (upd (upd (upd (upd t.1 0 (nn 0)) 1 (nn (2 + 2 * x))) 2 (nn (2 + 2 * y))) 0 (nn 0 + nn 1), t.2) (by omega) (by omega) h3 h4
      · rw [if_neg (show ¬ t.1 (nn 0).toNatClampNeg = nn 0 from e3), if_neg e3, rq_inb (by omega) (by omega), rq_inb (by omega) (by omega)]
        exact ih (y + 1) n (upd t.1 0 (t.1 0 + nn 1), t.2) (by omega) (by omega) h3 h4
    · rw [if_pos (by rw [b01_0]; exact e), if_neg e]
      exact ih (y + 1) n t (by omega) (by omega) h3 h4
theorem c_rsOn {H1 H2 : Nat → Int32} {g1 : tyFair}  :
    ∀ (k x n : Nat) (t : tyTrials), x + k = 5 → k < n → (∀ c, c < 25 → t.2.2.1 c = H1 c) → (∀ c, c < 25 → t.2.2.2.1 c = H2 c) →
      ∃ t', mTrials_findRestsrn_l107 g1 g4  n (nn x) t = some (t', g1) ∧ (t'.1 0, t'.1 1, t'.1 2) = rsS (rsP H1 H2) (5 * k) (5 * x) (t.1 0, t.1 1, t.1 2) := by
  intro k
  induction k with
  | zero =>
    intro x n t h1 h2 h3 h4
    match n, h2 with
    | n + 1, _ =>
    unfold mTrials_findRestsrn_l107
    rw [li5, ifle_t (by omega) (by omega)]
    exact ⟨t, rfl, rfl⟩
  | succ k ih =>
    intro x n t h1 h2 h3 h4
    match n, h2 with
    | n + 1, h2 =>
    unfold mTrials_findRestsrn_l107
    rw [li5, ifle_f (by omega) (by omega), li0]
    obtain ⟨t1, hz, ht, h5, h6⟩ := c_rsIn (H1 := H1) (H2 := H2) (g4 := g4) (g1 := g1)  (K := mTrials_findRestsrn_l107 g1 g4  n) (show x < 5 by omega) 5 0 FU t (by omega) (by unfold FU; omega) h3 h4
    rw [hz, show 5 * (k + 1) = 5 + 5 * k by omega, rsS_app, show 5 * x + 5 = 5 * (x + 1) by omega]
    rw [Nat.add_zero] at ht
    rw [← ht]
    exact ih (x + 1) n t1 (by omega) (by omega) h5 h6
theorem c_rsn  (hr : rOK N rg pl) (hF : fR N B L rg pl d g4) (hM : M < 4000) (ha : a < N) (hb : b < N) :
    ∀ (k i n : Nat) (t : tyTrials) (g1 : tyFair) , i + k = 25 → k < n → (∀ c, c < i → t.2.2.1 c = rsH none N B rg pl d M a b a c) → (∀ c, c < i → t.2.2.2.1 c = rsH none N B rg pl d M a b b c) → 
      ∃ t' g1' , mTrials_findRestsrn_l3 g4 (nn a) (nn b) (nn M) n (nn i) t g1  = some (t', g1') ∧ (t'.1 0, t'.1 1, t'.1 2) = rsS (rsP (rsH none N B rg pl d M a b a) (rsH none N B rg pl d M a b b)) 25 0 (nn 0, -nn 2, -nn 2)  := by
  have hN := hF.1.2.2.2.2.1.1
  intro k
  induction k with
  | zero =>
    intro i n t g1  h1 h2 h3 h4 
    match n, h2 with
    | n + 1, _ =>
    have hi : i = 25 := by omega
    subst hi
    unfold mTrials_findRestsrn_l3
    rw [li25', ifle_t (by omega) (by omega), find_ev, bs, li0, show (-2 : Int32) = -nn 2 from id rfl]
    obtain ⟨t', h5, h6⟩ := c_rsOn (g4 := g4) (g1 := g1)  5 0 FU (upd (upd (upd t.1 0 (nn 0)) 1 (-nn 2)) 2 (-nn 2), t.2) (by omega) (by unfold FU; omega) h3 h4
    exact ⟨t', g1,  h5, h6⟩
  | succ k ih =>
    intro i n t g1  h1 h2 h3 h4 
    match n, h2 with
    | n + 1, h2 =>
    have e5 : nn i - nn i / nn 5 * nn 5 = nn (i % 5) := nn_mod (by omega) (by omega) (by omega)
    obtain ⟨g3, hg3, eg3⟩ := from_ev g1 g4
    have hF3 := fR_gEq hF eg3
    have hF4 := fR_rs (c := i) hr hF3 ha hb (by omega)
    obtain ⟨m, go, ti, we, so, pu, hh,  hgo, hF5⟩ := gon_g  acR_all hr hM hF4 
    have hwa : we a = _ := hF5.1.2.2.1 a ha
    have hwb : we b = _ := hF5.1.2.2.1 b hb
    dsimp only at hgo
    unfold mTrials_findRestsrn_l3 mTrials_priceOfRests
    rw [li25', ifle_f (by omega) (by omega), hg3, bs, bs]
    simp only [lt, bs, li5, li2, li1]
    rw [e5, nn_div (by omega) (by omega) (by omega), nn_mul, nn_mul, nn_add, nn_add, nn_add, rq_inb (by omega) (by omega), rq_inb (by omega) (by omega), nn_tn (by omega), nn_tn (by omega)]
    rw [hgo, bs]
    dsimp only
    rw [rq_inb (by omega) (by omega), rq_inb (by omega) (by omega), rq_inb (by omega) (by omega), rq_inb (by omega) (by omega), nn_tn (by omega)]
    refine ih (i + 1) n _ _  (by omega) (by omega) (fun c hc => ?_) (fun c hc => ?_) 
    · by_cases e : c = i
      · subst e; exact (upd_s _ _ _).trans hwa
      · exact (upd_o e).trans (h3 c (by omega))
    · by_cases e : c = i
      · subst e; exact (upd_s _ _ _).trans hwb
      · exact (upd_o e).trans (h4 c (by omega))
end crest
