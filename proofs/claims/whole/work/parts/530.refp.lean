/-! the reference: minutes -/
section mins
variable {sign clause clauses : Nat → Int32} {force absent rain : Int32} {ru : Option RU} {d : Nat → Int32} {N B L : Nat} {rg pl : Nat → Nat} {ac : Nat → Bool}
/-- what stays over minutes: how many stalls and buyers, the day's length, the ring -/
def fxR (N B L : Nat) (rg : Nat → Nat) (d : Nat → Int32) : Prop := N ≤ 6 ∧ B ≤ 6 ∧ 0 < L ∧ L ≤ 20 ∧ d 3 = nn N ∧ d 4 = nn B ∧ d 1 = nn L ∧ rSt N rg d
theorem chS_lt {can : Nat → Bool} {w : Nat → Int64} : ∀ (k s : Nat) (o : Option Nat) (m : Int64) (N : Nat), s + k = N → (∀ x, o = some x → x < N) → ∀ x, chS can w k s o m = some x → x < N
  | 0, _, o, _, N, _, h, x, hx => h x hx
  | k + 1, s, o, m, N, hN, h, x, hx => by
    unfold chS at hx
    split at hx
    · split at hx
      · exact chS_lt k (s + 1) (some s) _ N (by omega) (fun y hy => by cases hy; omega) x hx
      · exact chS_lt k (s + 1) o m N (by omega) h x hx
    · exact chS_lt k (s + 1) o m N (by omega) h x hx
theorem pick_lt {b s : Nat} (h : pick ru N rg pl d b = some s) : s < N := chS_lt N 0 none 0 N (by omega) (fun x hx => by cases hx) s h
theorem buyD_o {b s k : Nat} (hN : N ≤ 6) (hr : rOK N rg pl) (hs : s < N) (hb : b < 6) (h : k < 11 ∨ (35 ≤ k ∧ k < 47) ∨ 89 ≤ k) : buyD N rg pl d b s k = d k := by
  have := slr_lt hr hs
  unfold buyD
  rw [upd_o (by omega), upd_o (by omega), upd_o (by omega), upd_o (by omega)]
theorem fx_buy {b s : Nat} (hr : rOK N rg pl) (hf : fxR N B L rg d) (hs : s < N) (hb : b < 6) : fxR N B L rg (buyD N rg pl d b s) := by
  obtain ⟨h1, h2, h3, h4, h5, h6, h7, h8⟩ := hf
  refine ⟨h1, h2, h3, h4, ?_, ?_, ?_, fun j hj => ?_⟩
  · rw [buyD_o h1 hr hs hb (by omega), h5]
  · rw [buyD_o h1 hr hs hb (by omega), h6]
  · rw [buyD_o h1 hr hs hb (by omega), h7]
  · rw [buyD_o h1 hr hs hb (by omega)]; exact h8 j hj
theorem fx_trS (hr : rOK N rg pl) : ∀ (k b : Nat) (d : Nat → Int32) (p : Int32), fxR N B L rg d → b + k ≤ 6 → fxR N B L rg (trS ru N rg pl ac k b d p).1
  | 0, _, _, _, h, _ => h
  | k + 1, b, d, p, h, hb => by
    unfold trS
    split
    · exact fx_trS hr k (b + 1) d p h (by omega)
    · rename_i s hs
      have hs' : s < N := by
        split at hs
        · exact pick_lt hs
        · cases hs
      exact fx_trS hr k (b + 1) _ _ (fx_buy hr h hs' (by omega)) (by omega)
theorem dskD_o {k : Nat} (h : k < 11 ∨ 11 + 4 * N ≤ k) : dskD N rg pl d k = d k := by unfold dskD; rw [if_neg (by omega)]
theorem fx_dsk (hf : fxR N B L rg d) : fxR N B L rg (dskD N rg pl d) := by
  obtain ⟨h1, h2, h3, h4, h5, h6, h7, h8⟩ := hf
  refine ⟨h1, h2, h3, h4, ?_, ?_, ?_, fun j hj => ?_⟩
  · rw [dskD_o (by omega), h5]
  · rw [dskD_o (by omega), h6]
  · rw [dskD_o (by omega), h7]
  · rw [dskD_o (by omega)]; exact h8 j hj
theorem fx_10 {v : Int32} (hf : fxR N B L rg d) : fxR N B L rg (upd d 10 v) := by
  obtain ⟨h1, h2, h3, h4, h5, h6, h7, h8⟩ := hf
  refine ⟨h1, h2, h3, h4, ?_, ?_, ?_, rSt_upd h8 h1 (by omega)⟩
  · rw [upd_o (by omega), h5]
  · rw [upd_o (by omega), h6]
  · rw [upd_o (by omega), h7]
theorem fx_cls (hf : fxR N B L rg d) : fxR N B L rg (clsD N rg pl d) := by
  unfold clsD
  split
  · exact fx_10 (fx_dsk hf)
  · exact fx_10 hf
theorem fx_min (hr : rOK N rg pl) (hf : fxR N B L rg d) : fxR N B L rg (minS ru N rg pl ac B d).1 := fx_cls (fx_trS hr B 0 d (nn 0) hf (by have := hf.2.1; omega))
theorem fx_mins (hr : rOK N rg pl) : ∀ (k : Nat) (d : Nat → Int32) (p : Int32), fxR N B L rg d → fxR N B L rg (minsS ru N rg pl ac B k d p).1
  | 0, _, _, h => h
  | k + 1, d, p, h => fx_mins hr k _ _ (fx_min hr h)
theorem passes_l4_ev (hfr : frR sign clause clauses force ru) (hac : acR absent rain ac) (hr : rOK N rg pl) :
    ∀ (k b n : Nat) (d : Nat → Int32) (p : Int32) (z : Nat → Int64) (tp : Int32) (wd : Nat → Int64), fxR N B L rg d → b + k = B → k < n →
      ∃ z' tp' wd', m_passes_l4 sign clause clauses force absent rain n p (nn b) z tp wd d = some ((trS ru N rg pl ac k b d p).2, z', tp', wd', clsD N rg pl (trS ru N rg pl ac k b d p).1, nn 0) := by
  intro k
  induction k with
  | zero =>
    intro b n d p z tp wd hf h1 h2
    match n, h2 with
    | n + 1, _ =>
    obtain ⟨hN, hB, hL, hL2, h3, h4, h5, h8⟩ := hf
    refine ⟨z, tp, wd, ?_⟩
    have hL0 : ¬ nn L = nn 0 := by rw [nn_inj (by omega) (by omega)]; omega
    unfold m_passes_l4
    rw [li4, rq_inb (by omega) (by omega), nn_tn (by omega), h4, ifle_t (by omega) (by omega), li10, rq_inb (by omega) (by omega), li1, rq_inb (by omega) (by omega), nn_tn (by omega), nn_tn (by omega), h5, li0, rq_dec hL0, rq_inb (by omega) (by omega)]
    show _ = some (p, z, tp, wd, clsD N rg pl d, nn 0)
    unfold clsD
    rw [h5]
    by_cases e : d 10 - d 10 / nn L * nn L = nn L - nn 1
    · rw [if_pos e, if_pos e, handsOn_ev hN hr h8 h3, bs, rq_inb (by omega) (by omega), rq_inb (by omega) (by omega), dskD_o (by omega)]
      rfl
    · rw [if_neg e, if_neg e, rq_inb (by omega) (by omega), rq_inb (by omega) (by omega)]
      rfl
  | succ k ih =>
    intro b n d p z tp wd hf h1 h2
    match n, h2 with
    | n + 1, h2 =>
    have hf' := hf
    obtain ⟨hN, hB, hL, hL2, h3, h4, h5, h8⟩ := hf'
    unfold m_passes_l4
    rw [li4, rq_inb (by omega) (by omega), nn_tn (by omega), h4, ifle_f (by omega) (by omega)]
    obtain ⟨z', tp', wd', hz⟩ := choice_ev hfr hac hN hr h8 h3 h5 hL hL2 (show b < 6 by omega) z tp wd
    rw [hz, bs]
    unfold trS
    generalize hc : (if ac b = true then pick ru N rg pl d b else none) = c
    match c, hc with
    | none, hc =>
      rw [buys_none, bs, li1, nn_add]
      show ∃ z' tp' wd', m_passes_l4 sign clause clauses force absent rain n (p + nn 0) (nn (b + 1)) _ _ _ d = _
      rw [show p + nn 0 = p from Int32.add_zero p]
      exact ih (b + 1) n d p z' tp' wd' hf (by omega) (by omega)
    | some s, hc =>
      have hs' : s < N := by
        split at hc
        · exact pick_lt hc
        · cases hc
      rw [oi_some, buys_ev hN hr h8 h3 hs' (by omega), bs, li1, nn_add]
      exact ih (b + 1) n _ _ z' tp' wd' (fx_buy hr hf hs' (by omega)) (by omega) (by omega)
theorem passes_ev (hfr : frR sign clause clauses force ru) (hac : acR absent rain ac) (hr : rOK N rg pl) (hf : fxR N B L rg d) (z : Nat → Int64) (tp : Int32) (wd : Nat → Int64) :
    ∃ z' tp' wd', m_passes sign clause clauses z tp wd d force absent rain = some ((minS ru N rg pl ac B d).2, z', tp', wd', (minS ru N rg pl ac B d).1, nn 0) :=
  passes_l4_ev hfr hac hr B 0 FU d (nn 0) z tp wd hf (by omega) (by have := hf.2.1; unfold FU; omega)
theorem passesAll_l4_ev (hfr : frR sign clause clauses force ru) (hac : acR absent (nn 0) ac) (hr : rOK N rg pl) (M : Nat) (hM : M < 4000) :
    ∀ (k i n : Nat) (d : Nat → Int32) (p : Int32) (z : Nat → Int64) (tp : Int32) (wd : Nat → Int64), fxR N B L rg d → i + k = M → k < n →
      ∃ z' tp' wd', m_passesAll_l4 sign clause clauses force absent (nn M) n p (nn i) z tp wd d (nn 0) = some ((minsS ru N rg pl ac B k d p).2, z', tp', wd', (minsS ru N rg pl ac B k d p).1, nn 0) := by
  intro k
  induction k with
  | zero =>
    intro i n d p z tp wd hf h1 h2
    match n, h2 with
    | n + 1, _ =>
    refine ⟨z, tp, wd, ?_⟩
    unfold m_passesAll_l4
    rw [ifle_t (by omega) (by omega)]
    rfl
  | succ k ih =>
    intro i n d p z tp wd hf h1 h2
    match n, h2 with
    | n + 1, h2 =>
    unfold m_passesAll_l4
    rw [ifle_f (by omega) (by omega)]
    obtain ⟨z', tp', wd', hz⟩ := passes_ev hfr hac hr hf z tp wd
    rw [hz, bs, li1, nn_add]
    exact ih (i + 1) n _ _ z' tp' wd' (fx_min hr hf) (by omega) (by omega)
theorem passesAll_ev (hfr : frR sign clause clauses force ru) (hac : acR absent (nn 0) ac) (hr : rOK N rg pl) {M : Nat} (hM : M < 4000) (hf : fxR N B L rg d) (z : Nat → Int64) (tp : Int32) (wd : Nat → Int64) :
    ∃ z' tp' wd', m_passesAll (nn M) sign clause clauses z tp wd d force absent (nn 0) = some ((minsS ru N rg pl ac B M d (nn 0)).2, z', tp', wd', (minsS ru N rg pl ac B M d (nn 0)).1, nn 0) :=
  passesAll_l4_ev hfr hac hr M hM M 0 FU d (nn 0) z tp wd hf (by omega) (by unfold FU; omega)
/-! what minutes leave as it is -/
theorem trS_o (hN : N ≤ 6) (hr : rOK N rg pl) {j : Nat} (hj : j < 11 ∨ (35 ≤ j ∧ j < 47) ∨ 89 ≤ j) : ∀ (k b : Nat) (d : Nat → Int32) (p : Int32), b + k ≤ 6 → (trS ru N rg pl ac k b d p).1 j = d j
  | 0, _, _, _, _ => rfl
  | k + 1, b, d, p, hb => by
    unfold trS
    split
    · exact trS_o hN hr hj k (b + 1) d p (by omega)
    · rename_i s hs
      have hs' : s < N := by
        split at hs
        · exact pick_lt hs
        · cases hs
      rw [trS_o hN hr hj k (b + 1) _ _ (by omega), buyD_o hN hr hs' (by omega) hj]
theorem clsD_o (hN : N ≤ 6) {j : Nat} (hj : j < 10 ∨ 35 ≤ j) : clsD N rg pl d j = d j := by
  unfold clsD
  split
  · rw [upd_o (by omega), dskD_o (by omega)]
  · rw [upd_o (by omega)]
theorem minS_o (hN : N ≤ 6) (hB : B ≤ 6) (hr : rOK N rg pl) {j : Nat} (hj : j < 10 ∨ (35 ≤ j ∧ j < 47) ∨ 89 ≤ j) : (minS ru N rg pl ac B d).1 j = d j := by
  show clsD N rg pl (trS ru N rg pl ac B 0 d (nn 0)).1 j = d j
  rw [clsD_o hN (by omega), trS_o hN hr (by omega) _ _ _ _ (by omega)]
theorem minsS_o (hN : N ≤ 6) (hB : B ≤ 6) (hr : rOK N rg pl) {j : Nat} (hj : j < 10 ∨ (35 ≤ j ∧ j < 47) ∨ 89 ≤ j) : ∀ (k : Nat) (d : Nat → Int32) (p : Int32), (minsS ru N rg pl ac B k d p).1 j = d j
  | 0, _, _ => rfl
  | k + 1, d, p => (minsS_o hN hB hr hj k _ _).trans (minS_o hN hB hr hj)
end mins
