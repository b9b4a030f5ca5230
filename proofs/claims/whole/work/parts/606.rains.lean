/-! asks: fairs of drawn rain -/
theorem ll_toInt2 {k : Nat} (h : k < 9223372036854775808) : (ll k).toInt = (k : Int) := Int64.toInt_ofNat_of_lt h
theorem ll_div2 {a b : Nat} (ha : a < 9223372036854775808) (hb : b < 9223372036854775808) : ll a / ll b = ll (a / b) := by
  apply l_eq
  have hab : a / b ≤ a := Nat.div_le_self a b
  rw [Int64.toInt_div_of_ne_right, ll_toInt2 ha, ll_toInt2 hb, ll_toInt2 (by omega)]
  · rfl
  · intro h
    have := congrArg Int64.toInt h
    rw [ll_toInt2 hb] at this
    have e : (-1 : Int64).toInt = -1 := rfl
    omega
theorem ll_mod2 {a b : Nat} (ha : a < 9223372036854775808) (hb : b < 9223372036854775808) : ll a - ll a / ll b * ll b = ll (a % b) := by
  have h1 : a / b * b ≤ a := Nat.div_mul_le_self a b
  have h2 := Nat.div_add_mod a b
  rw [Nat.mul_comm] at h2
  rw [ll_div2 ha hb, ll_mul]
  apply l_eq
  rw [l_sub (by rw [ll_toInt2 ha, ll_toInt2 (by omega)]; omega) (by rw [ll_toInt2 ha, ll_toInt2 (by omega)]; omega), ll_toInt2 ha, ll_toInt2 (by omega), ll_toInt2 (by omega)]
  omega
def nxX (X : Nat) : Nat := (X * 1103515245 + 12345) % 2147483648
def dvX (X : Nat) : Nat := nxX X / 65536 % 100
theorem nxX_lt (X : Nat) : nxX X < 2147483648 := Nat.mod_lt _ (by omega)
theorem draw_x {X : Nat} (h : X < 2147483648) : ((ll X * (1103515245 : Int64)) + (12345 : Int64)) - ((ll X * (1103515245 : Int64)) + (12345 : Int64)) / (2147483648 : Int64) * (2147483648 : Int64) = ll (nxX X) := by
  have e1 : (1103515245 : Int64) = ll 1103515245 := id rfl
  have e2 : (12345 : Int64) = ll 12345 := id rfl
  have e3 : (2147483648 : Int64) = ll 2147483648 := id rfl
  rw [e1, e2, e3, ll_mul, ll_add, ll_mod2 (by omega) (by omega)]
  rfl
theorem draw_v {X : Nat} : (ll (nxX X) / (65536 : Int64)) - (ll (nxX X) / (65536 : Int64)) / ll 100 * ll 100 = ll (dvX X) := by
  have h := nxX_lt X
  have e1 : (65536 : Int64) = ll 65536 := id rfl
  rw [e1, ll_div2 (by omega) (by omega), ll_mod2 (by omega) (by omega)]
  rfl
theorem dvX_lt (X : Nat) : dvX X < 100 := Nat.mod_lt _ (by omega)
theorem draw_ev {X : Nat} (h : X < 2147483648) : m_draw (nn 100) (ll X) = some (nn (dvX X), ll (nxX X)) := by
  have h1 := dvX_lt X
  have e100 : ¬ ll 100 = 0 := by decide
  unfold m_draw
  simp only [lt]
  rw [draw_x h, nn_ll (by omega), rq_dec e100, draw_v, ll_i32 (by omega)]
def acN : Nat → Bool := fun _ => false
theorem acR_none : acR (-nn 1) (nn 1) acN := fun b hb => ⟨fun h => (by cases h), fun h => absurd h.2 (by decide)⟩
theorem min_none {ru : Option RU} {N B : Nat} {rg pl : Nat → Nat} {d : Nat → Int32} : minS ru N rg pl acN B d = (clsD N rg pl d, nn 0) := by
  unfold minS
  rw [trS_quiet B 0 (nn 0) (fun b' _ _ h => by cases h)]
def raS (ru : Option RU) (N B : Nat) (rg pl : Nat → Nat) (P : Nat) : Nat → Nat → (Nat → Int32) → Int32 → Nat × (Nat → Int32) × Int32
  | 0, X, d, p => (X, d, p)
  | k + 1, X, d, p => if dvX X < P then raS ru N B rg pl P k (nxX X) (clsD N rg pl d) p else raS ru N B rg pl P k (nxX X) (minS ru N rg pl acA B d).1 (p + (minS ru N rg pl acA B d).2)
def raO (ru : Option RU) (N B : Nat) (rg pl : Nat → Nat) (P M : Nat) (d : Nat → Int32) : Nat → Nat → Int32 × Int32 → Int32 × Int32
  | 0, _, s => s
  | k + 1, X, s => raO ru N B rg pl P M d k (raS ru N B rg pl P M X d s.1).1 ((raS ru N B rg pl P M X d s.1).2.2, s.2 + sI (fun q => (raS ru N B rg pl P M X d s.1).2.1 (11 + 4 * q)) N 0 (nn 0))
section mrains
variable {sign clause clauses : Nat → Int32} {force z_x : Int32} {ru : Option RU} {d kp : Nat → Int32} {N B L : Nat} {rg pl : Nat → Nat} {M P m : Nat}
theorem rains_l87_ev (hfr : frR sign clause clauses force ru) (hr : rOK N rg pl) (hf : fxR N B L rg d) (hM : M < 1000) (hP : P < 1000) (hk : ∀ k, k < 79 → kp k = d (10 + k)) (w lf : Int32) {y : Nat} {K} :
    ∀ (k i f X : Nat) (p : Int32) (z : Nat → Int64) (tp : Int32) (wd : Nat → Int64) (said : Nat → Int32), i + k = M → k < f → X < 2147483648 → fxR N B L rg said → oEq d said →
      ∃ z' tp' wd', m_rains_l87 sign clause clauses force z_x (-nn 1) kp (nn m) (nn M) (nn P) w lf (nn y) K f p (nn i) z tp wd said (nn 0) (ll X) = K (raS ru N B rg pl P k X said p).2.2 (lf + sI (fun q => (raS ru N B rg pl P k X said p).2.1 (11 + 4 * q)) N 0 (nn 0)) (nn (y + 1)) z' tp' wd' d (nn 0) (ll (raS ru N B rg pl P k X said p).1) := by
  have hN := hf.1
  intro k
  induction k with
  | zero =>
    intro i f X p z tp wd said h1 h2 hX hfs ho
    match f, h2 with
    | f + 1, _ =>
    unfold m_rains_l87
    simp only [lt, li0, li1, nn_add]
    rw [ifle_t (by omega) (by omega), sumAll_ev hN (by omega) hfs.2.2.2.2.1, bs, laysBack_ev ho hk, bs]
    exact ⟨z, tp, wd, rfl⟩
  | succ k ih =>
    intro i f X p z tp wd said h1 h2 hX hfs ho
    match f, h2 with
    | f + 1, h2 =>
    have hd := dvX_lt X
    have hnx := nxX_lt X
    unfold m_rains_l87
    rw [ifle_f (by omega) (by omega), li100, draw_ev hX, bs]
    simp only [lt, li0, li1, nn_add]
    unfold raS
    by_cases e : dvX X < P
    · rw [ifle_f e (by omega), if_pos e]
      obtain ⟨z', tp', wd', hz⟩ := passes_ev hfr acR_none hr hfs z tp wd
      rw [min_none] at hz
      rw [hz, bs]
      show ∃ z' tp' wd', m_rains_l87 sign clause clauses force z_x (-nn 1) kp (nn m) (nn M) (nn P) w lf (nn y) K f (p + nn 0) _ _ _ _ (clsD N rg pl said) _ _ = _
      rw [show p + nn 0 = p from Int32.add_zero p]
      exact ih (i + 1) f (nxX X) p z' tp' wd' _ (by omega) (by omega) hnx (fx_cls hfs) (ho.trans (fun k hk => clsD_o hN (by omega)))
    · rw [ifle_t (by omega) (by omega), if_neg e]
      obtain ⟨z', tp', wd', hz⟩ := passes_ev hfr acR_all hr hfs z tp wd
      rw [hz, bs]
      exact ih (i + 1) f (nxX X) _ z' tp' wd' _ (by omega) (by omega) hnx (fx_min hr hfs) (ho.trans (oEq_min hN hf.2.1 hr))
theorem raS_lt {ru : Option RU} {N B : Nat} {rg pl : Nat → Nat} {P : Nat} : ∀ (k X : Nat) (d : Nat → Int32) (p : Int32), X < 2147483648 → (raS ru N B rg pl P k X d p).1 < 2147483648
  | 0, _, _, _, h => h
  | k + 1, X, d, p, h => by
    unfold raS
    split
    · exact raS_lt k _ _ _ (nxX_lt X)
    · exact raS_lt k _ _ _ (nxX_lt X)
theorem rains_l78_ev (hfr : frR sign clause clauses force ru) (hr : rOK N rg pl) (hf : fxR N B L rg d) (hM : M < 1000) (hP : P < 1000) (hm : m < 1000) (hk : ∀ k, k < 79 → kp k = d (10 + k)) (w : Int32) :
    ∀ (k y f X : Nat) (s : Int32 × Int32) (z : Nat → Int64) (tp : Int32) (wd : Nat → Int64), y + k = m → k < f → X < 2147483648 →
      ∃ z' tp' wd' X', m_rains_l78 sign clause clauses force z_x (-nn 1) kp (nn m) (nn M) (nn P) w f s.1 s.2 (nn y) z tp wd d (nn 0) (ll X) = some (if w = nn 0 then (raO ru N B rg pl P M d k X s).1 else (raO ru N B rg pl P M d k X s).2, z', tp', wd', d, nn 0, kp, X') := by
  intro k
  induction k with
  | zero =>
    intro y f X s z tp wd h1 h2 hX
    match f, h2 with
    | f + 1, _ =>
    refine ⟨z, tp, wd, ll X, ?_⟩
    unfold m_rains_l78
    rw [ifle_t (by omega) (by omega), li0]
    unfold raO
    by_cases e : w = nn 0
    · rw [if_pos e, if_pos e]
    · rw [if_neg e, if_neg e]
  | succ k ih =>
    intro y f X s z tp wd h1 h2 hX
    match f, h2 with
    | f + 1, h2 =>
    unfold m_rains_l78
    rw [ifle_f (by omega) (by omega), li0]
    obtain ⟨z', tp', wd', hz⟩ := rains_l87_ev (z_x := z_x) (m := m) (y := y) (P := P) (K := m_rains_l78 sign clause clauses force z_x (-nn 1) kp (nn m) (nn M) (nn P) w f) hfr hr hf hM hP hk w s.2 M 0 FU X s.1 z tp wd d (by omega) (by unfold FU; omega) hX hf (fun _ _ => rfl)
    rw [hz]
    unfold raO
    exact ih (y + 1) f _ (_, _) z' tp' wd' (by omega) (by omega) (raS_lt M X d s.1 hX)
end mrains
theorem ltp {α β : Type} (x : α) (f : α → β) : lt x f = f x := id rfl
section crains
variable {d : Nat → Int32} {N B L : Nat} {rg pl : Nat → Nat} {M P m : Nat} {g6 : tyFair} {g4 : tyWorld}
theorem fR_cls {g : tyFair} {ti we : Nat → Int32} (hr : rOK N rg pl) (hF : fR N B L rg pl d g) (hD : dyR N B (clsD N rg pl d) g.2.2.2.2.2.1 ti g.2.2.2.2.2.2.2.2.2.2.1 g.2.2.2.2.2.2.2.2.2.2.2.2.2.1 g.2.2.2.2.2.2.2.2.2.2.2.2.2.2.2.1) (hW : weR N (clsD N rg pl d) we) (hS : stR N B rg pl (clsD N rg pl d) g.1 g.2.2.1 g.2.2.2.1 (clsD N rg pl d 10) g.2.2.2.2.2.2.1 g.2.2.2.2.2.2.2.2.2.2.2.2.2.2.1 g.2.2.2.2.2.2.2.2.2.2.2.2.2.2.2.2.1 g.2.2.2.2.2.2.2.2.2.2.2.2.2.2.2.2.2.1 g.2.2.2.2.2.2.2.2.2.2.2.2.2.2.2.2.2.2) :
    fR N B L rg pl (clsD N rg pl d) (g.1, g.2.1, g.2.2.1, g.2.2.2.1, clsD N rg pl d 10, g.2.2.2.2.2.1, g.2.2.2.2.2.2.1, g.2.2.2.2.2.2.2.1, ti, we, g.2.2.2.2.2.2.2.2.2.2.1, g.2.2.2.2.2.2.2.2.2.2.2.1, g.2.2.2.2.2.2.2.2.2.2.2.2.1, g.2.2.2.2.2.2.2.2.2.2.2.2.2.1, g.2.2.2.2.2.2.2.2.2.2.2.2.2.2.1, g.2.2.2.2.2.2.2.2.2.2.2.2.2.2.2.1, g.2.2.2.2.2.2.2.2.2.2.2.2.2.2.2.2.1, g.2.2.2.2.2.2.2.2.2.2.2.2.2.2.2.2.2.1, g.2.2.2.2.2.2.2.2.2.2.2.2.2.2.2.2.2.2) := by
  obtain ⟨⟨_, _, _, hK, hf, ht, hp⟩, h1, h2, h3⟩ := hF
  have hN := hf.1
  have hq := tEq_cls (rg := rg) (pl := pl) (d := d) hN
  exact ⟨⟨hS, hD, hW, hK.trans (hq 2 (by omega) (by omega)).symm, fx_cls hf, tg_tEq hq hN ht, pr_tEq2 hq hN hp⟩, fun s hs => (h1 s hs).trans (hq _ (by omega) (by omega)).symm, fun s hs => (h2 s hs).trans (hq _ (by omega) (by omega)).symm, fun s hs => (h3 s hs).trans (hq _ (by omega) (by omega)).symm⟩
theorem trader_g {g : tyFair} {r : RU} {len : Nat} {q : tyRule} (hR : rcR q.1 q.2.1 q.2.2.1 q.2.2.2.1 q.2.2.2.2.1 q.2.2.2.2.2.1 q.2.2.2.2.2.2.2.1 r len) (hr : rOK N rg pl) (hF : fR N B L rg pl d g) (wd z : Nat → Int64) :
    ∃ go ti so pu ha wd' z', mFair_trader (-nn 1) g.1 g.2.2.1 g.2.2.2.1 g.2.2.2.2.1 g.2.2.2.2.2.1 g.2.2.2.2.2.2.1 g.2.2.2.2.2.2.2.2.1 g.2.2.2.2.2.2.2.2.2.2.1 g.2.2.2.2.2.2.2.2.2.2.2.2.2.1 g.2.2.2.2.2.2.2.2.2.2.2.2.2.2.1 g.2.2.2.2.2.2.2.2.2.2.2.2.2.2.2.1 g.2.2.2.2.2.2.2.2.2.2.2.2.2.2.2.2.1 g.2.2.2.2.2.2.2.2.2.2.2.2.2.2.2.2.2.1 g.2.2.2.2.2.2.2.2.2.2.2.2.2.2.2.2.2.2 q.1 q.2.1 q.2.2.1 q.2.2.2.1 q.2.2.2.2.1 q.2.2.2.2.2.1 wd z = some ((trS (some r) N rg pl acA B 0 d (nn 0)).2, go, ti, so, pu, ha, wd', z') ∧
      fR N B L rg pl (trS (some r) N rg pl acA B 0 d (nn 0)).1 (g.1, g.2.1, g.2.2.1, g.2.2.2.1, g.2.2.2.2.1, go, g.2.2.2.2.2.2.1, g.2.2.2.2.2.2.2.1, ti, g.2.2.2.2.2.2.2.2.2.1, so, g.2.2.2.2.2.2.2.2.2.2.2.1, g.2.2.2.2.2.2.2.2.2.2.2.2.1, pu, g.2.2.2.2.2.2.2.2.2.2.2.2.2.2.1, ha, g.2.2.2.2.2.2.2.2.2.2.2.2.2.2.2.2.1, g.2.2.2.2.2.2.2.2.2.2.2.2.2.2.2.2.2.1, g.2.2.2.2.2.2.2.2.2.2.2.2.2.2.2.2.2.2) := by
  obtain ⟨⟨hS, hD, hW, hK, hf, ht, hp⟩, h1, h2, h3⟩ := hF
  have hN := hf.1
  have hB := hf.2.1
  obtain ⟨go, ti, so, pu, ha, wd', z', hz, hD'⟩ := trader_l5_ev hR acR_all hr B 0 FU d (nn 0) _ _ _ _ _ wd z hS hD hf ht (by omega) (by unfold FU; omega)
  obtain ⟨a1, a2, a3, a4, a5, a6⟩ := stR_tr (ru := (some r)) (ac := acA) (d := d) hr hN hB B 0 d (nn 0) (by omega) hS hW hK hf ht hp
  refine ⟨go, ti, so, pu, ha, wd', z', by unfold mFair_trader; rw [li0]; exact hz, ⟨⟨a1, hD', a2, a3, a4, a5, a6⟩, fun s hs => by rw [trS_o hN hr (by omega) _ _ _ _ (by omega)]; exact h1 s hs, fun s hs => by rw [trS_o hN hr (by omega) _ _ _ _ (by omega)]; exact h2 s hs, fun s hs => by rw [trS_o hN hr (by omega) _ _ _ _ (by omega)]; exact h3 s hs⟩⟩
theorem c_raIr {r : RU} {len : Nat} {q0 : tyRule} (hR : rcR q0.1 q0.2.1 q0.2.2.1 q0.2.2.2.1 q0.2.2.2.2.1 q0.2.2.2.2.2.1 q0.2.2.2.2.2.2.2.1 r len) (hr : rOK N rg pl) (hN : N ≤ 6) (hB : B ≤ 6) (hM : M < 1000) (hP : P < 1000) {y : Nat} {K} :
    ∀ (k i f X : Nat) (dd : Nat → Int32) (t : tyTrials) (g1 : tyFair) (q : tyRule), i + k = M → k < f → X < 2147483648 → fR N B L rg pl dd g1 → rqE q0 q →
      ∃ t' g1' q', mTrials_findRainsrr_l35 g4 g6 (nn m) (nn M) (nn P) (nn y) K f (ll X) (nn i) t g1 q = K (ll (raS (some r) N B rg pl P k X dd (t.1 0)).1) (nn (y + 1)) t' g1' q' ∧ t'.1 0 = (raS (some r) N B rg pl P k X dd (t.1 0)).2.2 ∧ t'.1 1 = t.1 1 + sI (fun q => (raS (some r) N B rg pl P k X dd (t.1 0)).2.1 (11 + 4 * q)) N 0 (nn 0) ∧ rqE q0 q' := by
  intro k
  induction k with
  | zero =>
    intro i f X dd t g1 q h1 h2 hX hF hq
    match f, h2 with
    | f + 1, _ =>
    have hst : g1.2.2.1 = nn N := by rw [hF.1.1.2.1, hF.1.2.2.2.2.1.2.2.2.2.1]
    have hgo : sI g1.2.2.2.2.2.1 N 0 (nn 0) = sI (fun q => dd (11 + 4 * q)) N 0 (nn 0) := sI_congr N 0 _ (fun j _ hj => hF.1.2.1.1 j (by omega))
    rw [show raS (some r) N B rg pl P 0 X dd (t.1 0) = (X, dd, t.1 0) from rfl]
    dsimp only
    unfold mTrials_findRainsrr_l35
    rw [ifle_t (by omega) (by omega), li1, rq_inb (by omega) (by omega), sum_g hN hst, bs, rq_inb (by omega) (by omega), hgo, nn_tn (show 1 < 2147483648 by omega), ltp, nn_add]
    exact ⟨(upd t.1 1 (t.1 1 + sI (fun q => dd (11 + 4 * q)) N 0 (nn 0)), t.2.1, t.2.2.1, t.2.2.2.1, t.2.2.2.2), g1, q, rfl, upd_o (f := t.1) (k := 1) (j := 0) (x := t.1 1 + sI (fun q => dd (11 + 4 * q)) N 0 (nn 0)) (by omega), upd_s t.1 1 (t.1 1 + sI (fun q => dd (11 + 4 * q)) N 0 (nn 0)), hq⟩
  | succ k ih =>
    intro i f X dd t g1 q h1 h2 hX hF hq
    match f, h2 with
    | f + 1, h2 =>
    have hd := dvX_lt X
    have hnx := nxX_lt X
    unfold mTrials_findRainsrr_l35
    rw [ifle_f (by omega) (by omega), ltp, draw_x hX, show (100 : Int64) = ll 100 from id rfl, draw_v, nn_ll (by omega)]
    unfold raS
    by_cases e : dvX X < P
    · obtain ⟨ti, we, hc, hD', hW', hS'⟩ := closeMinute_ev hF.1.1 hF.1.2.1 hF.1.2.2.1 hF.1.2.2.2.1 hF.1.2.2.2.2.1 hr
      have hF' := fR_cls hr hF hD' hW' hS'
      rw [li0, if_pos (by rw [lgc_lt, ll_lt (by omega) (by omega)]; exact e), if_pos e, hc, bs, li1, nn_add]
      exact ih (i + 1) f (nxX X) _ t _ q (by omega) (by omega) hnx hF' hq
    · obtain ⟨go, ti, so, pu, ha, wd', z', htr, hFt⟩ := trader_g (rcR_E hR hq) hr hF q.2.2.2.2.2.2.2.2.1 q.2.2.2.2.2.2.2.2.2
      obtain ⟨ti2, we2, hc, hD', hW', hS'⟩ := closeMinute_ev hFt.1.1 hFt.1.2.1 hFt.1.2.2.1 hFt.1.2.2.2.1 hFt.1.2.2.2.2.1 hr
      have hF' := fR_cls hr hFt hD' hW' hS'
      dsimp only at hc hF'
      rw [li0, if_neg (by rw [lgc_lt, ll_lt (by omega) (by omega)]; exact e), if_neg e, rq_inb (by omega) (by omega), show (-1 : Int32) = -nn 1 from id rfl, htr, bs, rq_inb (by omega) (by omega), ltp]
      dsimp only
      rw [hc, bs, li1, nn_add, nn_tn (show 0 < 2147483648 by omega)]
      have h := ih (i + 1) f (nxX X) (clsD N rg pl (trS (some r) N rg pl acA B 0 dd (nn 0)).1) (upd t.1 0 (t.1 0 + (trS (some r) N rg pl acA B 0 dd (nn 0)).2), t.2.1, t.2.2.1, t.2.2.2.1, t.2.2.2.2) _ (qUp q wd' z') (by omega) (by omega) hnx hF' hq.up
      dsimp only at h
      rw [upd_s, upd_o (show ¬ 1 = 0 by omega)] at h
      rw [show minS (some r) N rg pl acA B dd = (clsD N rg pl (trS (some r) N rg pl acA B 0 dd (nn 0)).1, (trS (some r) N rg pl acA B 0 dd (nn 0)).2) from rfl]
      exact h
theorem c_raOr {r : RU} {len : Nat} {q0 : tyRule} (hR : rcR q0.1 q0.2.1 q0.2.2.1 q0.2.2.2.1 q0.2.2.2.2.1 q0.2.2.2.2.2.1 q0.2.2.2.2.2.2.2.1 r len) (hr : rOK N rg pl) (hF : fR N B L rg pl d g6) (hM : M < 1000) (hP : P < 1000) (hm : m < 1000) :
    ∀ (k y f X : Nat) (t : tyTrials) (g1 : tyFair) (q : tyRule), y + k = m → k < f → X < 2147483648 → rqE q0 q →
      ∃ t' g1' q', mTrials_findRainsrr_l17 g4 g6 (nn m) (nn M) (nn P) f (ll X) (nn y) t g1 q = some (t', g1', q') ∧ (t'.1 0, t'.1 1) = raO (some r) N B rg pl P M d k X (t.1 0, t.1 1) ∧ rqE q0 q' := by
  have hN := hF.1.2.2.2.2.1.1
  have hB := hF.1.2.2.2.2.1.2.1
  intro k
  induction k with
  | zero =>
    intro y f X t g1 q h1 h2 hX hq
    match f, h2 with
    | f + 1, _ =>
    unfold mTrials_findRainsrr_l17
    rw [ifle_t (by omega) (by omega)]
    exact ⟨t, g1, q, rfl, rfl, hq⟩
  | succ k ih =>
    intro y f X t g1 q h1 h2 hX hq
    match f, h2 with
    | f + 1, h2 =>
    obtain ⟨gf, hgf, egf⟩ := from_ev g1 g6
    unfold mTrials_findRainsrr_l17
    rw [ifle_f (by omega) (by omega), hgf, bs, li0]
    obtain ⟨t1, g11, q1, hz, ht0, ht1, hq1⟩ := c_raIr (g4 := g4) (g6 := g6) (m := m) (M := M) (P := P) (y := y) (K := mTrials_findRainsrr_l17 g4 g6 (nn m) (nn M) (nn P) f) hR hr hN hB hM hP M 0 FU X d t gf q (by omega) (by unfold FU; omega) hX (fR_gEq hF egf) hq
    rw [hz]
    unfold raO
    dsimp only
    rw [← ht0, ← ht1]
    exact ih (y + 1) f _ t1 g11 q1 (by omega) (by omega) (raS_lt M X d _ hX) hq1
theorem traden_g {g : tyFair}  (hr : rOK N rg pl) (hF : fR N B L rg pl d g)  :
    ∃ go ti so pu ha , mFair_traden (-nn 1)  g.2.2.1 g.2.2.2.1  g.2.2.2.2.2.1 g.2.2.2.2.2.2.1 g.2.2.2.2.2.2.2.2.1 g.2.2.2.2.2.2.2.2.2.2.1 g.2.2.2.2.2.2.2.2.2.2.2.2.2.1 g.2.2.2.2.2.2.2.2.2.2.2.2.2.2.1 g.2.2.2.2.2.2.2.2.2.2.2.2.2.2.2.1 g.2.2.2.2.2.2.2.2.2.2.2.2.2.2.2.2.1 g.2.2.2.2.2.2.2.2.2.2.2.2.2.2.2.2.2.1  = some ((trS none N rg pl acA B 0 d (nn 0)).2, go, ti, so, pu, ha) ∧
      fR N B L rg pl (trS none N rg pl acA B 0 d (nn 0)).1 (g.1, g.2.1, g.2.2.1, g.2.2.2.1, g.2.2.2.2.1, go, g.2.2.2.2.2.2.1, g.2.2.2.2.2.2.2.1, ti, g.2.2.2.2.2.2.2.2.2.1, so, g.2.2.2.2.2.2.2.2.2.2.2.1, g.2.2.2.2.2.2.2.2.2.2.2.2.1, pu, g.2.2.2.2.2.2.2.2.2.2.2.2.2.2.1, ha, g.2.2.2.2.2.2.2.2.2.2.2.2.2.2.2.2.1, g.2.2.2.2.2.2.2.2.2.2.2.2.2.2.2.2.2.1, g.2.2.2.2.2.2.2.2.2.2.2.2.2.2.2.2.2.2) := by
  obtain ⟨⟨hS, hD, hW, hK, hf, ht, hp⟩, h1, h2, h3⟩ := hF
  have hN := hf.1
  have hB := hf.2.1
  obtain ⟨go, ti, so, pu, ha,  hz, hD'⟩ := traden_l5_ev  acR_all hr B 0 FU d (nn 0) _ _ _ _ _  hS hD hf ht (by omega) (by unfold FU; omega)
  obtain ⟨a1, a2, a3, a4, a5, a6⟩ := stR_tr (ru := none) (ac := acA) (d := d) hr hN hB B 0 d (nn 0) (by omega) hS hW hK hf ht hp
  refine ⟨go, ti, so, pu, ha,  by unfold mFair_traden; rw [li0]; exact hz, ⟨⟨a1, hD', a2, a3, a4, a5, a6⟩, fun s hs => by rw [trS_o hN hr (by omega) _ _ _ _ (by omega)]; exact h1 s hs, fun s hs => by rw [trS_o hN hr (by omega) _ _ _ _ (by omega)]; exact h2 s hs, fun s hs => by rw [trS_o hN hr (by omega) _ _ _ _ (by omega)]; exact h3 s hs⟩⟩
theorem c_raIn  (hr : rOK N rg pl) (hN : N ≤ 6) (hB : B ≤ 6) (hM : M < 1000) (hP : P < 1000) {y : Nat} {K} :
    ∀ (k i f X : Nat) (dd : Nat → Int32) (t : tyTrials) (g1 : tyFair) , i + k = M → k < f → X < 2147483648 → fR N B L rg pl dd g1 → 
      ∃ t' g1' , mTrials_findRainsrn_l35 g4 g6 (nn m) (nn M) (nn P) (nn y) K f (ll X) (nn i) t g1  = K (ll (raS none N B rg pl P k X dd (t.1 0)).1) (nn (y + 1)) t' g1'  ∧ t'.1 0 = (raS none N B rg pl P k X dd (t.1 0)).2.2 ∧ t'.1 1 = t.1 1 + sI (fun q => (raS none N B rg pl P k X dd (t.1 0)).2.1 (11 + 4 * q)) N 0 (nn 0)  := by
  intro k
  induction k with
  | zero =>
    intro i f X dd t g1  h1 h2 hX hF 
    match f, h2 with
    | f + 1, _ =>
    have hst : g1.2.2.1 = nn N := by rw [hF.1.1.2.1, hF.1.2.2.2.2.1.2.2.2.2.1]
    have hgo : sI g1.2.2.2.2.2.1 N 0 (nn 0) = sI (fun q => dd (11 + 4 * q)) N 0 (nn 0) := sI_congr N 0 _ (fun j _ hj => hF.1.2.1.1 j (by omega))
    rw [show raS none N B rg pl P 0 X dd (t.1 0) = (X, dd, t.1 0) from rfl]
    dsimp only
    unfold mTrials_findRainsrn_l35
    rw [ifle_t (by omega) (by omega), li1, rq_inb (by omega) (by omega), sum_g hN hst, bs, rq_inb (by omega) (by omega), hgo, nn_tn (show 1 < 2147483648 by omega), ltp, nn_add]
    exact ⟨(upd t.1 1 (t.1 1 + sI (fun q => dd (11 + 4 * q)) N 0 (nn 0)), t.2.1, t.2.2.1, t.2.2.2.1, t.2.2.2.2), g1,  rfl, upd_o (f := t.1) (k := 1) (j := 0) (x := t.1 1 + sI (fun q => dd (11 + 4 * q)) N 0 (nn 0)) (by omega), upd_s t.1 1 (t.1 1 + sI (fun q => dd (11 + 4 * q)) N 0 (nn 0))⟩
  | succ k ih =>
    intro i f X dd t g1  h1 h2 hX hF 
    match f, h2 with
    | f + 1, h2 =>
    have hd := dvX_lt X
    have hnx := nxX_lt X
    unfold mTrials_findRainsrn_l35
    rw [ifle_f (by omega) (by omega), ltp, draw_x hX, show (100 : Int64) = ll 100 from id rfl, draw_v, nn_ll (by omega)]
    unfold raS
    by_cases e : dvX X < P
    · obtain ⟨ti, we, hc, hD', hW', hS'⟩ := closeMinute_ev hF.1.1 hF.1.2.1 hF.1.2.2.1 hF.1.2.2.2.1 hF.1.2.2.2.2.1 hr
      have hF' := fR_cls hr hF hD' hW' hS'
      rw [li0, if_pos (by rw [lgc_lt, ll_lt (by omega) (by omega)]; exact e), if_pos e, hc, bs, li1, nn_add]
      exact ih (i + 1) f (nxX X) _ t _  (by omega) (by omega) hnx hF' 
    · obtain ⟨go, ti, so, pu, ha,  htr, hFt⟩ := traden_g  hr hF 
      obtain ⟨ti2, we2, hc, hD', hW', hS'⟩ := closeMinute_ev hFt.1.1 hFt.1.2.1 hFt.1.2.2.1 hFt.1.2.2.2.1 hFt.1.2.2.2.2.1 hr
      have hF' := fR_cls hr hFt hD' hW' hS'
      dsimp only at hc hF'
      rw [li0, if_neg (by rw [lgc_lt, ll_lt (by omega) (by omega)]; exact e), if_neg e, rq_inb (by omega) (by omega), show (-1 : Int32) = -nn 1 from id rfl, htr, bs, rq_inb (by omega) (by omega), ltp]
      dsimp only
      rw [hc, bs, li1, nn_add, nn_tn (show 0 < 2147483648 by omega)]
      have h := ih (i + 1) f (nxX X) (clsD N rg pl (trS none N rg pl acA B 0 dd (nn 0)).1) (upd t.1 0 (t.1 0 + (trS none N rg pl acA B 0 dd (nn 0)).2), t.2.1, t.2.2.1, t.2.2.2.1, t.2.2.2.2) _  (by omega) (by omega) hnx hF' 
      dsimp only at h
      rw [upd_s, upd_o (show ¬ 1 = 0 by omega)] at h
      rw [show minS none N rg pl acA B dd = (clsD N rg pl (trS none N rg pl acA B 0 dd (nn 0)).1, (trS none N rg pl acA B 0 dd (nn 0)).2) from rfl]
      exact h
theorem c_raOn  (hr : rOK N rg pl) (hF : fR N B L rg pl d g6) (hM : M < 1000) (hP : P < 1000) (hm : m < 1000) :
    ∀ (k y f X : Nat) (t : tyTrials) (g1 : tyFair) , y + k = m → k < f → X < 2147483648 → 
      ∃ t' g1' , mTrials_findRainsrn_l17 g4 g6 (nn m) (nn M) (nn P) f (ll X) (nn y) t g1  = some (t', g1') ∧ (t'.1 0, t'.1 1) = raO none N B rg pl P M d k X (t.1 0, t.1 1)  := by
  have hN := hF.1.2.2.2.2.1.1
  have hB := hF.1.2.2.2.2.1.2.1
  intro k
  induction k with
  | zero =>
    intro y f X t g1  h1 h2 hX 
    match f, h2 with
    | f + 1, _ =>
    unfold mTrials_findRainsrn_l17
    rw [ifle_t (by omega) (by omega)]
    exact ⟨t, g1,  rfl, rfl⟩
  | succ k ih =>
    intro y f X t g1  h1 h2 hX 
    match f, h2 with
    | f + 1, h2 =>
    obtain ⟨gf, hgf, egf⟩ := from_ev g1 g6
    unfold mTrials_findRainsrn_l17
    rw [ifle_f (by omega) (by omega), hgf, bs, li0]
    obtain ⟨t1, g11,  hz, ht0, ht1⟩ := c_raIn (g4 := g4) (g6 := g6) (m := m) (M := M) (P := P) (y := y) (K := mTrials_findRainsrn_l17 g4 g6 (nn m) (nn M) (nn P) f)  hr hN hB hM hP M 0 FU X d t gf  (by omega) (by unfold FU; omega) hX (fR_gEq hF egf) 
    rw [hz]
    unfold raO
    dsimp only
    rw [← ht0, ← ht1]
    exact ih (y + 1) f _ t1 g11  (by omega) (by omega) (raS_lt M X d _ hX) 
end crains
