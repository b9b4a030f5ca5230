/-! the reference: a minute -/
theorem oi_some (s : Nat) : oi (some s) = nn s := rfl
theorem oi_none : oi none = -nn 1 := rfl
section ch
variable {sign clause clauses : Nat → Int32} {force absent rain : Int32} {ru : Option RU} {d : Nat → Int32} {N B L : Nat} {rg pl : Nat → Nat} {s b : Nat}
theorem choice_l7_ev (hf : frR sign clause clauses force ru) (hN : N ≤ 6) (hr : rOK N rg pl) (hd : rSt N rg d) (h3 : d 3 = nn N) (h1 : d 1 = nn L) (hL : 0 < L) (hL2 : L ≤ 20) (hb : b < 6) (hab : ¬ nn b = absent) :
    ∀ (k s n : Nat) (o : Option Nat) (m : Int64) (z : Nat → Int64) (tp : Int32) (wd : Nat → Int64), s + k = N → k < n →
      ∃ z' tp' wd', m_choice_l7 sign clause clauses d force absent (nn 0) (nn b) n (oi o) m (nn s) z tp wd = some (oi (chS (cnS d b) (wS ru N rg pl d b) k s o m), z', tp', wd') := by
  intro k
  induction k with
  | zero =>
    intro s n o m z tp wd h4 h5
    match n, h5 with
    | n + 1, _ =>
    refine ⟨z, tp, wd, ?_⟩
    unfold m_choice_l7
    rw [li3, rq_inb (by omega) (by omega), nn_tn (by omega), h3, ifle_t (by omega) (by omega)]
    rfl
  | succ k ih =>
    intro s n o m z tp wd h4 h5
    match n, h5 with
    | n + 1, h5 =>
    unfold m_choice_l7
    rw [li3, rq_inb (by omega) (by omega), nn_tn (by omega), h3, ifle_f (by omega) (by omega), if_neg hab, li0, ifeq_t rfl, canBuy_ev hb (by omega), bs, li1, nn_add]
    unfold chS
    by_cases hc : cnS d b s = true
    · rw [if_neg (by rw [b01_0]; exact fun h => h hc), if_pos hc]
      obtain ⟨z', tp', wd', hz⟩ := sumOf_ev hf hN hr hd h3 h1 hL hL2 (show s < N by omega) hb z tp wd
      rw [hz, bs]
      by_cases hw : m < wS ru N rg pl d b s
      · rw [if_pos (by rw [lgc_gt]; exact hw), if_pos hw]
        exact ih (s + 1) n (some s) _ z' tp' wd' (by omega) (by omega)
      · rw [if_neg (by rw [lgc_gt]; exact hw), if_neg hw]
        exact ih (s + 1) n o m z' tp' wd' (by omega) (by omega)
    · rw [if_pos (by rw [b01_0]; exact hc), if_neg hc]
      exact ih (s + 1) n o m z tp wd (by omega) (by omega)
/-- who may buy -/
def acR (absent rain : Int32) (ac : Nat → Bool) : Prop := ∀ b, b < 6 → (ac b = true ↔ (¬ nn b = absent ∧ rain = nn 0))
theorem choice_ev {ac : Nat → Bool} (hf : frR sign clause clauses force ru) (hac : acR absent rain ac) (hN : N ≤ 6) (hr : rOK N rg pl) (hd : rSt N rg d) (h3 : d 3 = nn N) (h1 : d 1 = nn L) (hL : 0 < L) (hL2 : L ≤ 20) (hb : b < 6) (z : Nat → Int64) (tp : Int32) (wd : Nat → Int64) :
    ∃ z' tp' wd', m_choice (nn b) sign clause clauses z tp wd d force absent rain = some (oi (if ac b = true then pick ru N rg pl d b else none), z', tp', wd') := by
  unfold m_choice
  by_cases ha : ac b = true
  · obtain ⟨h4, h5⟩ := (hac b hb).1 ha
    rw [if_pos ha, h5]
    exact choice_l7_ev hf hN hr hd h3 h1 hL hL2 hb h4 N 0 FU none 0 z tp wd (by omega) (by unfold FU; omega)
  · rw [if_neg ha]
    refine ⟨z, tp, wd, ?_⟩
    show m_choice_l7 _ _ _ _ _ _ _ _ (4999 + 1) _ _ _ _ _ _ = _
    unfold m_choice_l7
    rw [li3, rq_inb (by omega) (by omega), nn_tn (by omega), h3, li0]
    by_cases h4 : nn N ≤ nn 0
    · rw [if_pos h4]; rfl
    · rw [if_neg h4]
      by_cases h5 : nn b = absent
      · rw [if_pos h5]; rfl
      · rw [if_neg h5, if_neg (fun h6 => ha ((hac b hb).2 ⟨h5, h6⟩))]; rfl
theorem buys_none (x1 : Int32) (d : Nat → Int32) : m_buys x1 (oi none) d = some (nn 0, d) := by
  unfold m_buys
  rw [oi_none, li0, if_neg neg1_le]
theorem buys_ev (hN : N ≤ 6) (hr : rOK N rg pl) (hd : rSt N rg d) (h3 : d 3 = nn N) (hs : s < N) (hb : b < 6) : m_buys (nn b) (nn s) d = some (d (11 + 4 * s + 1), buyD N rg pl d b s) := by
  have hsl := slr_lt hr hs
  unfold m_buys
  rw [li0, ifle_t (by omega) (by omega)]
  simp only [lt, li11, li4, li47, li2, li53, li6, li1]
  simp only [nn_mul, nn_add]
  rw [rq_inb (by omega) (by omega), rq_inb (by omega) (by omega), rq_inb (by omega) (by omega), priceOf_ev (by omega), bs, rq_inb (by omega) (by omega), nn_tn (by omega), nn_tn (by omega),
    sellerOf_ev hN hr (rSt_upd (rSt_upd hd hN (by omega)) hN (by omega)) (by rw [upd_o (by omega), upd_o (by omega), h3]) hs, bs]
  simp only [nn_mul, nn_add]
  rw [rq_inb (by omega) (by omega), priceOf_ev (by omega), bs, rq_inb (by omega) (by omega), nn_tn (by omega), nn_tn (by omega), rq_inb (by omega) (by omega), rq_inb (by omega) (by omega), priceOf_ev (by omega), bs]
  unfold buyD
  simp (disch := omega) only [upd_o]
end ch
/-! dusk -/
section dusk
variable {d : Nat → Int32} {N : Nat} {rg pl : Nat → Nat}
def hoD (N : Nat) (rg pl : Nat → Nat) (d : Nat → Int32) (s : Nat) : Nat → Int32 := fun k =>
  if 11 ≤ k ∧ k < 11 + 4 * N then
    (if (k - 11) % 4 = 2 then (if (k - 11) / 4 < s then nn 0 else d k)
     else if (k - 11) % 4 = 3 then d k + ((if (k - 11) / 4 < s then kpS d ((k - 11) / 4) else nn 0) + (if slr N rg pl ((k - 11) / 4) < s then d (11 + 4 * slr N rg pl ((k - 11) / 4) + 2) - kpS d (slr N rg pl ((k - 11) / 4)) else nn 0)) else d k)
  else d k
theorem hoD_o {s k : Nat} (h : k < 11 ∨ 11 + 4 * N ≤ k) : hoD N rg pl d s k = d k := by unfold hoD; rw [if_neg (by omega)]
theorem hoD_2 {s q : Nat} (h : q < N) : hoD N rg pl d s (11 + 4 * q + 2) = if q < s then nn 0 else d (11 + 4 * q + 2) := by
  have e1 : (11 + 4 * q + 2 - 11) % 4 = 2 := by omega
  have e2 : (11 + 4 * q + 2 - 11) / 4 = q := by omega
  unfold hoD; rw [if_pos (by omega), if_pos e1, e2]
theorem hoD_3 {s q : Nat} (h : q < N) : hoD N rg pl d s (11 + 4 * q + 3) = d (11 + 4 * q + 3) + ((if q < s then kpS d q else nn 0) + (if slr N rg pl q < s then d (11 + 4 * slr N rg pl q + 2) - kpS d (slr N rg pl q) else nn 0)) := by
  have e1 : (11 + 4 * q + 3 - 11) % 4 = 3 := by omega
  have e2 : (11 + 4 * q + 3 - 11) / 4 = q := by omega
  unfold hoD; rw [if_pos (by omega), if_neg (by omega), if_pos e1, e2]
theorem hoD_01 {s q r : Nat} (h : q < N) (hr : r < 2) : hoD N rg pl d s (11 + 4 * q + r) = d (11 + 4 * q + r) := by
  unfold hoD; rw [if_pos (by omega), if_neg (by omega), if_neg (by omega)]
theorem hoD_0 : hoD N rg pl d 0 = d := by
  funext k
  unfold hoD
  simp only [Nat.not_lt_zero, if_false, ite_self]
  have : nn 0 + nn 0 = nn 0 := rfl
  have h2 : ∀ x : Int32, x + nn 0 = x := Int32.add_zero
  rw [this, h2]; simp only [ite_self]
theorem hoD_N (hr : rOK N rg pl) : hoD N rg pl d N = dskD N rg pl d := by
  funext k
  unfold hoD dskD
  by_cases h : 11 ≤ k ∧ k < 11 + 4 * N
  · rw [if_pos h, if_pos h]
    have hq : (k - 11) / 4 < N := by omega
    rw [if_pos hq, if_pos hq, if_pos (slr_lt hr hq)]
  · rw [if_neg h, if_neg h]
theorem handsOn_l2_ev (hN : N ≤ 6) (hr : rOK N rg pl) (hd : rSt N rg d) (h3 : d 3 = nn N) : ∀ (k s n : Nat), s + k = N → k < n → m_handsOn_l2 n (nn s) (hoD N rg pl d s) = some (dskD N rg pl d) := by
  intro k
  induction k with
  | zero =>
    intro s n h1 h2
    match n, h2 with
    | n + 1, _ =>
    unfold m_handsOn_l2
    rw [li3, rq_inb (by omega) (by omega), nn_tn (by omega), hoD_o (by omega), h3, ifle_t (by omega) (by omega)]
    have : s = N := by omega
    rw [this, hoD_N hr]
  | succ k ih =>
    intro s n h1 h2
    match n, h2 with
    | n + 1, h2 =>
    have hs : s < N := by omega
    have hbl := bhd_lt hr hs
    unfold m_handsOn_l2
    rw [li3, rq_inb (by omega) (by omega), nn_tn (by omega), hoD_o (by omega), h3, ifle_f (by omega) (by omega), tillOf_ev (by omega), bs]
    simp only [lt, li11, li4, li2, li10, li0, li1]
    simp only [nn_mul, nn_add]
    have hrS : ∀ v : Int32, rSt N rg (upd (hoD N rg pl d s) (11 + 4 * s + 3) v) := fun v => rSt_upd (fun j hj => (hoD_o (by omega)).trans (hd j hj)) hN (by omega)
    rw [rq_inb (by omega) (by omega), rq_inb (by omega) (by omega), rq_inb (by omega) (by omega), nn_tn (by omega), nn_tn (by omega), hoD_2 hs, if_neg (by omega), hoD_o (k := 2) (by omega),
      besideOf_ev hN hr (hrS _) (by rw [upd_o (by omega), hoD_o (by omega), h3]) hs, bs]
    simp only [nn_mul, nn_add]
    rw [rq_inb (by omega) (by omega), tillOf_ev (by omega), bs, rq_inb (by omega) (by omega), nn_tn (by omega), rq_inb (by omega) (by omega), nn_tn (by omega)]
    have key : upd (upd (upd (hoD N rg pl d s) (11 + 4 * s + 3) (hoD N rg pl d s (11 + 4 * s + 3) + d (11 + 4 * s + 2) * d 2 / nn 10)) (11 + 4 * bhd N rg pl s + 3) (upd (hoD N rg pl d s) (11 + 4 * s + 3) (hoD N rg pl d s (11 + 4 * s + 3) + d (11 + 4 * s + 2) * d 2 / nn 10) (11 + 4 * bhd N rg pl s + 3) + (upd (hoD N rg pl d s) (11 + 4 * s + 3) (hoD N rg pl d s (11 + 4 * s + 3) + d (11 + 4 * s + 2) * d 2 / nn 10) (11 + 4 * s + 2) - d (11 + 4 * s + 2) * d 2 / nn 10))) (11 + 4 * s + 2) (nn 0) = hoD N rg pl d (s + 1) := by
      have ekp : d (11 + 4 * s + 2) * d 2 / nn 10 = kpS d s := rfl
      rw [ekp, upd_o (j := 11 + 4 * s + 2) (by omega), hoD_2 hs, if_neg (by omega)]
      have hS := slr_bhd hr hs
      have z0 : ∀ x : Int32, nn 0 + x = x := Int32.zero_add
      have z1 : ∀ x : Int32, x + nn 0 = x := Int32.add_zero
      funext j
      by_cases hj : 11 ≤ j ∧ j < 11 + 4 * N
      · obtain ⟨q, r, hq, hr4, ej⟩ : ∃ q r, q < N ∧ r < 4 ∧ j = 11 + 4 * q + r := ⟨(j - 11) / 4, (j - 11) % 4, by omega, by omega, by omega⟩
        subst ej
        have hb2 : slr N rg pl q = s ↔ q = bhd N rg pl s := ⟨fun h => by rw [← h, bhd_slr hr hq], fun h => by rw [h, hS]⟩
        have : r = 0 ∨ r = 1 ∨ r = 2 ∨ r = 3 := by omega
        rcases this with h | h | h | h <;> subst h
        · rw [upd_o (by omega), upd_o (by omega), upd_o (by omega), hoD_01 hq (by omega), hoD_01 hq (by omega)]
        · rw [upd_o (by omega), upd_o (by omega), upd_o (by omega), hoD_01 hq (by omega), hoD_01 hq (by omega)]
        · by_cases e : q = s
          · subst e; rw [upd_s, hoD_2 hq, if_pos (by omega)]
          · rw [upd_o (by omega), upd_o (by omega), upd_o (by omega), hoD_2 hq, hoD_2 hq]
            by_cases e2 : q < s
            · rw [if_pos e2, if_pos (by omega)]
            · rw [if_neg e2, if_neg (by omega)]
        · rw [upd_o (by omega), hoD_3 (s := s + 1) hq]
          by_cases e : q = bhd N rg pl s
          · have e1 := hb2.2 e
            rw [← e, upd_s, e1, if_pos (show s < s + 1 by omega)]
            by_cases e2 : q = s
            · subst e2
              rw [upd_s, hoD_3 hq, e1]
              simp only [if_neg (show ¬ q < q by omega), if_pos (show q < q + 1 by omega), z0, z1, Int32.add_assoc]
            · rw [upd_o (by omega), hoD_3 hq, e1, if_neg (show ¬ s < s by omega), z1]
              by_cases e3 : q < s
              · rw [if_pos e3, if_pos (by omega), Int32.add_assoc]
              · rw [if_neg e3, if_neg (by omega), z1, z0]
          · have e1 : ¬ slr N rg pl q = s := fun h => e (hb2.1 h)
            have e4 : (slr N rg pl q < s) = (slr N rg pl q < s + 1) := by apply propext; omega
            rw [upd_o (by omega)]
            by_cases e2 : q = s
            · subst e2
              rw [upd_s, hoD_3 hq, if_neg (show ¬ q < q by omega), z0, if_pos (show q < q + 1 by omega)]
              simp only [e4]
              rw [Int32.add_assoc, Int32.add_comm _ (kpS d q)]
            · have e5 : (q < s) = (q < s + 1) := by apply propext; omega
              rw [upd_o (by omega), hoD_3 hq]
              simp only [e4, e5]
      · rw [upd_o (by omega), upd_o (by omega), upd_o (by omega), hoD_o (by omega), hoD_o (by omega)]
    rw [key]
    exact ih (s + 1) n (by omega) (by omega)
theorem handsOn_ev (hN : N ≤ 6) (hr : rOK N rg pl) (hd : rSt N rg d) (h3 : d 3 = nn N) : m_handsOn d = some (dskD N rg pl d) := by
  have := handsOn_l2_ev hN hr hd h3 N 0 FU (by omega) (by unfold FU; omega)
  rw [hoD_0] at this
  exact this
end dusk
