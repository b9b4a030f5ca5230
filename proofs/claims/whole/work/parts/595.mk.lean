/-! asks: who stays away, who makes up, who swaps -/
/-- all but one may buy -/
def acX (b : Nat) : Nat → Bool := fun c => decide (¬ c = b)
theorem acR_x {b : Nat} (hb : b < 6) : acR (nn b) (nn 0) (acX b) := fun c hc => by
  unfold acX
  rw [decide_eq_true_eq]
  constructor
  · intro h; exact ⟨fun e => h ((nn_inj (a := c) (b := b) (by omega) (by omega)).mp e), rfl⟩
  · intro h e; exact h.1 (by rw [e])
def awF (ru : Option RU) (N B : Nat) (rg pl : Nat → Nat) (d : Nat → Int32) (M b : Nat) : Int32 := (minsS ru N rg pl (acX b) B M d (nn 0)).2
/-- a grudge is none -/
def unD (d : Nat → Int32) (a b : Nat) : Nat → Int32 := upd d (41 + a) (d (41 + a) ^^^ bt b)
def mkF (ru : Option RU) (N B : Nat) (rg pl : Nat → Nat) (d : Nat → Int32) (M a b : Nat) : Int32 := (minsS ru N rg pl acA B M (unD d a b) (nn 0)).2
def mkI (F : Nat → Nat → Int32) (d : Nat → Int32) (a : Nat) : Nat → Nat → Int32 × Int32 × Int32 → Int32 × Int32 × Int32
  | 0, _, s => s
  | k + 1, b, s => if gB (d (41 + a)) b = true then (if s.1 < F a b then mkI F d a k (b + 1) (F a b, nn a, nn b) else mkI F d a k (b + 1) s) else mkI F d a k (b + 1) s
def mkO2 (F : Nat → Nat → Int32) (d : Nat → Int32) (N : Nat) : Nat → Nat → Int32 × Int32 × Int32 → Int32 × Int32 × Int32
  | 0, _, s => s
  | k + 1, a, s => mkO2 F d N k (a + 1) (mkI F d a N 0 s)
/-- one of three -/
def of3 (w : Int32) (s : Int32 × Int32 × Int32) : Int32 := if w = nn 0 then s.1 else if w = nn 1 then s.2.1 else s.2.2
/-- two that swap -/
def swB (ru : Option RU) (N B : Nat) (rg pl : Nat → Nat) (d : Nat → Int32) (M a b : Nat) : Bool :=
  decide ((minsS ru N rg pl acA B M d (nn 0)).1 (11 + 4 * a + 3) < (minsS ru N (mvR rg pl a b) (mvP pl a b) acA B M (mvD pl d a b) (nn 0)).1 (11 + 4 * a + 3)) &&
  decide ((minsS ru N rg pl acA B M d (nn 0)).1 (11 + 4 * b + 3) < (minsS ru N (mvR rg pl a b) (mvP pl a b) acA B M (mvD pl d a b) (nn 0)).1 (11 + 4 * b + 3))
def swI (p : Nat → Nat → Bool) (a : Nat) : Nat → Nat → Int32 × Int32 × Int32 → Int32 × Int32 × Int32
  | 0, _, s => s
  | k + 1, b, s => if p a b = true then (if s.1 = nn 0 then swI p a k (b + 1) (s.1 + nn 1, nn a, nn b) else swI p a k (b + 1) (s.1 + nn 1, s.2)) else swI p a k (b + 1) s
def swO (p : Nat → Nat → Bool) (N : Nat) : Nat → Nat → Int32 × Int32 × Int32 → Int32 × Int32 × Int32
  | 0, _, s => s
  | k + 1, a, s => swO p N k (a + 1) (swI p a (N - (a + 1)) (a + 1) s)
section mmk
variable {sign clause clauses : Nat → Int32} {force : Int32} {ru : Option RU} {d kp : Nat → Int32} {N B L : Nat} {rg pl : Nat → Nat} {M : Nat}
theorem away_l48_ev (hfr : frR sign clause clauses force ru) (hr : rOK N rg pl) (hf : fxR N B L rg d) (hM : M < 4000) (hk : ∀ k, k < 79 → kp k = d (10 + k)) (w : Int32) :
    ∀ (k i n : Nat) (b m ab : Int32) (z : Nat → Int64) (tp : Int32) (wd : Nat → Int64), i + k = B → k < n →
      ∃ z' tp' wd', m_away_l48 sign clause clauses force kp (nn M) w n b m (nn i) z tp wd d ab (nn 0) = some (if w = nn 0 then (bstS (awF ru N B rg pl d M) k i b m).1 else (bstS (awF ru N B rg pl d M) k i b m).2, z', tp', wd', d, -nn 1, nn 0, kp) := by
  have hB := hf.2.1
  have h4 := hf.2.2.2.2.2.1
  intro k
  induction k with
  | zero =>
    intro i n b m ab z tp wd h1 h2
    match n, h2 with
    | n + 1, _ =>
    refine ⟨z, tp, wd, ?_⟩
    unfold m_away_l48
    rw [li4, rq_inb (by omega) (by omega), nn_tn (by omega), h4, ifle_t (by omega) (by omega), li0, show (-1 : Int32) = -nn 1 from id rfl]
    unfold bstS
    by_cases e : w = nn 0
    · rw [if_pos e, if_pos e]
    · rw [if_neg e, if_neg e]
  | succ k ih =>
    intro i n b m ab z tp wd h1 h2
    match n, h2 with
    | n + 1, h2 =>
    unfold m_away_l48
    rw [li4, rq_inb (by omega) (by omega), nn_tn (by omega), h4, ifle_f (by omega) (by omega)]
    obtain ⟨z', tp', wd', hz⟩ := takenIn_ev (d := d) (d0 := d) hfr (acR_x (show i < 6 by omega)) hr hf hM (fun _ _ => rfl) hk z tp wd
    rw [hz, bs, li1, nn_add]
    unfold bstS
    show ∃ z' tp' wd', (if m < awF ru N B rg pl d M i then _ else _) = _
    by_cases e : m < awF ru N B rg pl d M i
    · rw [if_pos e, if_pos e]
      exact ih (i + 1) n _ _ _ z' tp' wd' (by omega) (by omega)
    · rw [if_neg e, if_neg e]
      exact ih (i + 1) n _ _ _ z' tp' wd' (by omega) (by omega)
theorem makeUp_l68_ev (hfr : frR sign clause clauses force ru) (hr : rOK N rg pl) (hf : fxR N B L rg d) (hM : M < 4000) (hk : ∀ k, k < 79 → kp k = d (10 + k)) (w : Int32) {a : Nat} (ha : a < N) {K} :
    ∀ (k b n : Nat) (s : Int32 × Int32 × Int32) (z : Nat → Int64) (tp : Int32) (wd : Nat → Int64), b + k = N → k < n →
      ∃ z' tp' wd', m_makeUp_l68 sign clause clauses force (-nn 1) kp (nn M) w (nn a) K n s.2.1 s.2.2 s.1 (nn b) z tp wd d (nn 0) = K (mkI (mkF ru N B rg pl d M) d a k b s).2.1 (mkI (mkF ru N B rg pl d M) d a k b s).2.2 (mkI (mkF ru N B rg pl d M) d a k b s).1 (nn (a + 1)) z' tp' wd' d (nn 0) := by
  have hN := hf.1
  have h3 := hf.2.2.2.2.1
  intro k
  induction k with
  | zero =>
    intro b n s z tp wd h1 h2
    match n, h2 with
    | n + 1, _ =>
    refine ⟨z, tp, wd, ?_⟩
    unfold m_makeUp_l68
    rw [li3, rq_inb (by omega) (by omega), nn_tn (by omega), h3, ifle_t (by omega) (by omega), li1, nn_add]
    rfl
  | succ k ih =>
    intro b n s z tp wd h1 h2
    match n, h2 with
    | n + 1, h2 =>
    unfold m_makeUp_l68
    rw [li3, rq_inb (by omega) (by omega), nn_tn (by omega), h3, ifle_f (by omega) (by omega), bears_ev (by omega), bs]
    simp only [lt, li41, li1, li0, show (31 : Int32) = nn 31 from id rfl, nn_add]
    unfold mkI
    by_cases e : gB (d (41 + a)) b = true
    · rw [if_neg (by rw [b01_0]; exact fun h => h e), if_pos e, rq_inb (by omega) (by omega), rq_inb (by omega) (by omega), nn_tn (by omega)]
      have eb : d (41 + a) &&& (nn 1 <<< (nn b &&& nn 31) ^^^ -nn 1) = d (41 + a) ^^^ bt b := bit_off (by omega) e
      rw [eb]
      obtain ⟨z', tp', wd', hz⟩ := takenIn_ev (d := unD d a b) (d0 := d) hfr acR_all hr (fx_upd hf (by omega)) hM (oEq_upd (by omega) (by omega)) hk z tp wd
      unfold unD at hz
      rw [hz, bs]
      show ∃ z' tp' wd', (if s.1 < mkF ru N B rg pl d M a b then _ else _) = _
      by_cases e2 : s.1 < mkF ru N B rg pl d M a b
      · rw [if_pos e2, if_pos e2]
        exact ih (b + 1) n (mkF ru N B rg pl d M a b, nn a, nn b) z' tp' wd' (by omega) (by omega)
      · rw [if_neg e2, if_neg e2]
        exact ih (b + 1) n s z' tp' wd' (by omega) (by omega)
    · rw [if_pos (by rw [b01_0]; exact e), if_neg e]
      exact ih (b + 1) n s z tp wd (by omega) (by omega)
theorem makeUp_l54_ev (hfr : frR sign clause clauses force ru) (hr : rOK N rg pl) (hf : fxR N B L rg d) (hM : M < 4000) (hk : ∀ k, k < 79 → kp k = d (10 + k)) (w : Int32) :
    ∀ (k a n : Nat) (s : Int32 × Int32 × Int32) (z : Nat → Int64) (tp : Int32) (wd : Nat → Int64), a + k = N → k < n →
      ∃ z' tp' wd', m_makeUp_l54 sign clause clauses force (-nn 1) kp (nn M) w n s.2.1 s.2.2 s.1 (nn a) z tp wd d (nn 0) = some (of3 w (mkO2 (mkF ru N B rg pl d M) d N k a s), z', tp', wd', d, nn 0, kp) := by
  have hN := hf.1
  have h3 := hf.2.2.2.2.1
  intro k
  induction k with
  | zero =>
    intro a n s z tp wd h1 h2
    match n, h2 with
    | n + 1, _ =>
    refine ⟨z, tp, wd, ?_⟩
    unfold m_makeUp_l54
    rw [li3, rq_inb (by omega) (by omega), nn_tn (by omega), h3, ifle_t (by omega) (by omega), li1, li0]
    unfold of3 mkO2
    by_cases e : w = nn 0
    · rw [if_pos e, if_pos e]
    · rw [if_neg e, if_neg e]
      by_cases e2 : w = nn 1
      · rw [if_pos e2, if_pos e2]
      · rw [if_neg e2, if_neg e2]
  | succ k ih =>
    intro a n s z tp wd h1 h2
    match n, h2 with
    | n + 1, h2 =>
    unfold m_makeUp_l54
    rw [li3, rq_inb (by omega) (by omega), nn_tn (by omega), h3, ifle_f (by omega) (by omega), li0]
    obtain ⟨z', tp', wd', hz⟩ := makeUp_l68_ev (K := m_makeUp_l54 sign clause clauses force (-nn 1) kp (nn M) w n) hfr hr hf hM hk w (show a < N by omega) N 0 FU s z tp wd (by omega) (by unfold FU; omega)
    rw [hz]
    unfold mkO2
    exact ih (a + 1) n (mkI (mkF ru N B rg pl d M) d a N 0 s) z' tp' wd' (by omega) (by omega)
theorem isSwap_ev {wt : Nat → Int32} {a b : Nat} (hfr : frR sign clause clauses force ru) (hr : rOK N rg pl) (hf : fxR N B L rg d) (hM : M < 4000) (hk : ∀ k, k < 79 → kp k = d (10 + k)) (ha : a < N) (hb : b < N) (hab : ¬ a = b) (hw : ∀ s, s < N → wt s = (minsS ru N rg pl acA B M d (nn 0)).1 (11 + 4 * s + 3)) (z : Nat → Int64) (tp : Int32) (wd : Nat → Int64) :
    ∃ z' tp' wd', m_isSwap (nn a) (nn b) (nn M) sign clause clauses z tp wd d force (-nn 1) (nn 0) kp wt = some (b01 (swB ru N B rg pl d M a b = true), z', tp', wd', d, nn 0) := by
  have hN := hf.1
  have hok := mv_ok hr ha hb hab
  have hf' := fx_mv hr hf ha hb
  obtain ⟨z', tp', wd', hz⟩ := passesAll_ev hfr acR_all hok hM hf' z tp wd
  have ho : oEq d (mvD pl d a b) := fun k hk => mv_o hN hr ha hb (by omega)
  refine ⟨z', tp', wd', ?_⟩
  unfold m_isSwap
  rw [moves_ev hN hr hf.2.2.2.2.2.2.2 ha hb, bs, hz, bs]
  dsimp only
  rw [wealthOf_ev (by omega), bs, wealthOf_ev (by omega), bs, laysBack_ev (ho.trans (oEq_mins hN hf.2.1 hok)) hk, bs, bs, rq_inb (by omega) (by omega), rq_inb (by omega) (by omega), nn_tn (by omega), nn_tn (by omega), hw a ha, hw b hb, li0, li1]
  unfold swB
  by_cases e1 : (minsS ru N rg pl acA B M d (nn 0)).1 (11 + 4 * a + 3) < (minsS ru N (mvR rg pl a b) (mvP pl a b) acA B M (mvD pl d a b) (nn 0)).1 (11 + 4 * a + 3)
  · rw [if_neg (by rw [Int32.le_iff_toInt_le]; rw [Int32.lt_iff_toInt_lt] at e1; omega)]
    by_cases e2 : (minsS ru N rg pl acA B M d (nn 0)).1 (11 + 4 * b + 3) < (minsS ru N (mvR rg pl a b) (mvP pl a b) acA B M (mvD pl d a b) (nn 0)).1 (11 + 4 * b + 3)
    · rw [if_neg (by rw [Int32.le_iff_toInt_le]; rw [Int32.lt_iff_toInt_lt] at e2; omega), b01_t (by rw [decide_eq_true e1, decide_eq_true e2]; rfl)]
    · rw [if_pos (by rw [Int32.le_iff_toInt_le]; rw [Int32.lt_iff_toInt_lt] at e2; omega), b01_f (by rw [decide_eq_false e2, Bool.and_false]; decide)]
  · rw [if_pos (by rw [Int32.le_iff_toInt_le]; rw [Int32.lt_iff_toInt_lt] at e1; omega), b01_f (by rw [decide_eq_false e1, Bool.false_and]; decide)]
theorem swaps_l110_ev {wt : Nat → Int32} (hfr : frR sign clause clauses force ru) (hr : rOK N rg pl) (hf : fxR N B L rg d) (hM : M < 4000) (hk : ∀ k, k < 79 → kp k = d (10 + k)) (hw : ∀ s, s < N → wt s = (minsS ru N rg pl acA B M d (nn 0)).1 (11 + 4 * s + 3)) (w : Int32) {a : Nat} (ha : a < N) {K} :
    ∀ (k b n : Nat) (s : Int32 × Int32 × Int32) (z : Nat → Int64) (tp : Int32) (wd : Nat → Int64), b + k = N → a < b → k < n →
      ∃ z' tp' wd', m_swaps_l110 sign clause clauses force (-nn 1) kp wt (nn M) w (nn a) K n s.1 s.2.1 s.2.2 (nn b) z tp wd d (nn 0) = K (swI (swB ru N B rg pl d M) a k b s).1 (swI (swB ru N B rg pl d M) a k b s).2.1 (swI (swB ru N B rg pl d M) a k b s).2.2 (nn (a + 1)) z' tp' wd' d (nn 0) := by
  have hN := hf.1
  have h3 := hf.2.2.2.2.1
  intro k
  induction k with
  | zero =>
    intro b n s z tp wd h1 hab h2
    match n, h2 with
    | n + 1, _ =>
    refine ⟨z, tp, wd, ?_⟩
    unfold m_swaps_l110
    rw [li3, rq_inb (by omega) (by omega), nn_tn (by omega), h3, ifle_t (by omega) (by omega), li1, nn_add]
    rfl
  | succ k ih =>
    intro b n s z tp wd h1 hab h2
    match n, h2 with
    | n + 1, h2 =>
    obtain ⟨z', tp', wd', hz⟩ := isSwap_ev hfr hr hf hM hk ha (show b < N by omega) (show ¬ a = b by omega) hw z tp wd
    unfold m_swaps_l110
    rw [li3, rq_inb (by omega) (by omega), nn_tn (by omega), h3, ifle_f (by omega) (by omega), hz, bs, li0, li1, nn_add]
    dsimp only
    unfold swI
    by_cases e : swB ru N B rg pl d M a b = true
    · rw [if_neg (by rw [b01_0]; exact fun h => h e), if_pos e]
      by_cases e2 : s.1 = nn 0
      · rw [if_pos e2, if_pos e2]
        exact ih (b + 1) n (s.1 + nn 1, nn a, nn b) z' tp' wd' (by omega) (by omega) (by omega)
      · rw [if_neg e2, if_neg e2]
        exact ih (b + 1) n (s.1 + nn 1, s.2) z' tp' wd' (by omega) (by omega) (by omega)
    · rw [if_pos (by rw [b01_0]; exact e), if_neg e]
      exact ih (b + 1) n s z' tp' wd' (by omega) (by omega) (by omega)
theorem swaps_l93_ev {wt : Nat → Int32} (hfr : frR sign clause clauses force ru) (hr : rOK N rg pl) (hf : fxR N B L rg d) (hM : M < 4000) (hk : ∀ k, k < 79 → kp k = d (10 + k)) (hw : ∀ s, s < N → wt s = (minsS ru N rg pl acA B M d (nn 0)).1 (11 + 4 * s + 3)) (w : Int32) :
    ∀ (k a n : Nat) (s : Int32 × Int32 × Int32) (z : Nat → Int64) (tp : Int32) (wd : Nat → Int64), a + k = N → k < n →
      ∃ z' tp' wd', m_swaps_l93 sign clause clauses force (-nn 1) kp wt (nn M) w n s.1 s.2.1 s.2.2 (nn a) z tp wd d (nn 0) = some (of3 w (swO (swB ru N B rg pl d M) N k a s), z', tp', wd', d, nn 0, kp, wt) := by
  have hN := hf.1
  have h3 := hf.2.2.2.2.1
  intro k
  induction k with
  | zero =>
    intro a n s z tp wd h1 h2
    match n, h2 with
    | n + 1, _ =>
    refine ⟨z, tp, wd, ?_⟩
    unfold m_swaps_l93
    rw [li3, rq_inb (by omega) (by omega), nn_tn (by omega), h3, ifle_t (by omega) (by omega), li1, li0]
    unfold of3 swO
    by_cases e : w = nn 0
    · rw [if_pos e, if_pos e]
    · rw [if_neg e, if_neg e]
      by_cases e2 : w = nn 1
      · rw [if_pos e2, if_pos e2]
      · rw [if_neg e2, if_neg e2]
  | succ k ih =>
    intro a n s z tp wd h1 h2
    match n, h2 with
    | n + 1, h2 =>
    unfold m_swaps_l93
    simp only [lt]
    rw [li3, rq_inb (by omega) (by omega), nn_tn (by omega), h3, ifle_f (by omega) (by omega), li1, nn_add]
    obtain ⟨z', tp', wd', hz⟩ := swaps_l110_ev (K := m_swaps_l93 sign clause clauses force (-nn 1) kp wt (nn M) w n) hfr hr hf hM hk hw w (show a < N by omega) (N - (a + 1)) (a + 1) FU s z tp wd (by omega) (by omega) (by unfold FU; omega)
    rw [hz]
    unfold swO
    exact ih (a + 1) n (swI (swB ru N B rg pl d M) a (N - (a + 1)) (a + 1) s) z' tp' wd' (by omega) (by omega)
end mmk
