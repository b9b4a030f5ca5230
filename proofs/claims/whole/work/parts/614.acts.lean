/-! acts: how it was is kept, and gone back to -/
section past
variable {said was : Nat → Int32} {undone : Int32} {g5 : tyFair} {g7 : tyPast} {pf : Nat → tyFair}
theorem l52_ev {u : Nat} (hu : u < 20) : ∀ (k i f : Nat) (w : Nat → Int32), i + k = 79 → k < f → ∃ w', m_keepsAct_l52 said (nn u) f (nn i) w = some (w', nn (u + 1)) ∧ (∀ j, ¬ (79 * u + i ≤ j ∧ j < 79 * u + 79) → w' j = w j) ∧ (∀ r, i ≤ r → r < 79 → w' (79 * u + r) = said (10 + r)) := by
  intro k
  induction k with
  | zero =>
    intro i f w h1 h2
    match f, h2 with
    | f + 1, _ =>
    unfold m_keepsAct_l52
    rw [li79, ifle_t (by omega) (by omega), ltp, li1, nn_add]
    exact ⟨w, rfl, fun _ _ => rfl, fun r h3 h4 => by omega⟩
  | succ k ih =>
    intro i f w h1 h2
    match f, h2 with
    | f + 1, h2 =>
    unfold m_keepsAct_l52
    rw [li79, ifle_f (by omega) (by omega), li10, li1, nn_add, nn_mul, nn_add, nn_add, rq_inb (by omega) (by omega), rq_inb (by omega) (by omega), ltp, nn_tn (by omega), nn_tn (by omega)]
    obtain ⟨w', a1, a2, a3⟩ := ih (i + 1) f (upd w (79 * u + i) (said (10 + i))) (by omega) (by omega)
    refine ⟨w', a1, fun j hj => ?_, fun r h3 h4 => ?_⟩
    · rw [a2 j (by omega), upd_o (by omega)]
    · by_cases e : r = i
      · rw [e, a2 _ (by omega), upd_s]
      · exact a3 r (by omega) h4
theorem l12_ev : ∀ (k i f : Nat) (w : Nat → Int32), i + k = 1580 → 79 ≤ i → k < f → (∀ j, j < i - 79 → w j = was (j + 79)) → (∀ j, i - 79 ≤ j → w j = was j) → ∃ w1, m_keepsAct_l12 said (nn 20) f (nn i) w = m_keepsAct_l52 said (nn 19) FU (nn 0) w1 ∧ ∀ j, j < 1501 → w1 j = was (j + 79) := by
  intro k
  induction k with
  | zero =>
    intro i f w h1 h0 h2 h3 h4
    match f, h2 with
    | f + 1, _ =>
    unfold m_keepsAct_l12
    rw [li1580, ifle_t (by omega) (by omega), ltp, li1, nn_sub (by omega) (by omega), li0]
    exact ⟨w, rfl, fun j hj => h3 j (by omega)⟩
  | succ k ih =>
    intro i f w h1 h0 h2 h3 h4
    match f, h2 with
    | f + 1, h2 =>
    unfold m_keepsAct_l12
    rw [li1580, ifle_f (by omega) (by omega), li79, li1, nn_add, nn_sub (by omega) (by omega), rq_inb (by omega) (by omega), rq_inb (by omega) (by omega), ltp, nn_tn (by omega), nn_tn (by omega)]
    refine ih (i + 1) f _ (by omega) (by omega) (by omega) (fun j hj => ?_) (fun j hj => ?_)
    · by_cases e : j = i - 79
      · rw [e, upd_s, h4 i (by omega)]; congr 1; omega
      · rw [upd_o e]; exact h3 j (by omega)
    · rw [upd_o (by omega)]; exact h4 j (by omega)
theorem ud_self {w : Nat → Int32} {u : Nat} (h : ∀ r, r < 79 → w (79 * u + r) = said (10 + r)) : udD said w u = said := by
  funext k
  unfold udD
  by_cases e : 10 ≤ k ∧ k < 89
  · rw [if_pos e, h (k - 10) (by omega), show 10 + (k - 10) = k by omega]
  · rw [if_neg e]
theorem ud_congr {said' w w' : Nat → Int32} {i j : Nat} (h : ∀ r, r < 79 → w' (79 * j + r) = w (79 * i + r)) (ho : oEq said said') : udD said' w' j = udD said w i := by
  funext k
  unfold udD
  by_cases e : 10 ≤ k ∧ k < 89
  · rw [if_pos e, if_pos e, h (k - 10) (by omega)]
  · rw [if_neg e, if_neg e, ho k (by omega)]
theorem paS_g {d : Nat → Int32} {g g' : tyFair} (h : paS d g) (e : gEq g g') : paS d g' := by
  obtain ⟨N, B, L, rg, pl, h1, h2, h3⟩ := h
  exact ⟨N, B, L, rg, pl, h1, fR_gEq h2 e, h3⟩
theorem paR_o {said' : Nat → Int32} (h : paR said was undone g7 pf) (ho : oEq said said') : paR said' was undone g7 pf := by
  obtain ⟨u, nx, u1, u2, u3, u4, u5, u6⟩ := h
  refine ⟨u, nx, u1, u2, u3, u4, u5, fun i hi => ?_⟩
  rw [ud_congr (w := was) (i := i) (fun _ _ => rfl) ho]
  exact u6 i hi
theorem keep_ev (h : paR said was undone g7 pf) (hs : paS said g5) : ∃ was' undone' g7' pf', m_keepsAct said was undone = some (was', undone') ∧ mPast_keep g7 g5 pf = some (g7', pf') ∧ paR said was' undone' g7' pf' := by
  obtain ⟨u, nx, u1, u2, u3, u4, u5, u6⟩ := h
  obtain ⟨q, hq, eq⟩ := copyFrom_ev (pf nx) g5
  have hk : mPast_keep g7 g5 pf = some ((nn ((nx + 1) % 20), nn (if u < 20 then u + 1 else 20)), va_up pf nx q) := by
    unfold mPast_keep
    rw [u5, u4, rq_inb (by omega) (by omega), ltp, nn_tn (by omega), hq, bs, ltp, ltp, li1, li20, nn_add, nn_add, nn_mod (by omega) (by omega) (by omega)]
    by_cases e : u + 1 < 20
    · rw [iflt_t e (by omega), if_pos (by omega)]
    · rw [iflt_f (by omega) (by omega)]
      by_cases e2 : u < 20
      · rw [if_pos e2]
        have : u + 1 = 20 := by omega
        rw [this]
      · rw [if_neg e2]
  have hnew : paS said q := paS_g hs eq
  by_cases e : u = 20
  · subst e
    obtain ⟨w1, a1, a2⟩ := l12_ev (said := said) (was := was) 1501 79 FU was (by omega) (by omega) (by unfold FU; omega) (fun j hj => by omega) (fun j _ => rfl)
    obtain ⟨w2, b1, b2, b3⟩ := l52_ev (said := said) (u := 19) (by omega) 79 0 FU w1 (by omega) (by unfold FU; omega)
    refine ⟨w2, nn 20, _, _, ?_, hk, 20, (nx + 1) % 20, by omega, by omega, rfl, rfl, rfl, fun i hi => ?_⟩
    · unfold m_keepsAct
      rw [u3, li20, ifeq_t rfl, li79, a1, b1]
    · by_cases ei : i = 19
      · subst ei
        rw [ud_self (fun r hr => b3 r (by omega) hr), show ((nx + 1) % 20 + 20 - 20 + 19) % 20 = nx by omega, va_up_self]
        exact hnew
      · rw [ud_congr (w := was) (i := i + 1) (fun r hr => by rw [b2 _ (by omega), a2 _ (by omega), show 79 * i + r + 79 = 79 * (i + 1) + r by omega]) (fun _ _ => rfl), va_up_ne _ _ (by omega), show ((nx + 1) % 20 + 20 - 20 + i) % 20 = (nx + 20 - 20 + (i + 1)) % 20 by omega]
        exact u6 (i + 1) (by omega)
  · have hu : u < 20 := by omega
    obtain ⟨w2, b1, b2, b3⟩ := l52_ev (said := said) (u := u) hu 79 0 FU was (by omega) (by unfold FU; omega)
    rw [if_pos hu] at hk
    refine ⟨w2, nn (u + 1), _, _, ?_, hk, u + 1, (nx + 1) % 20, by omega, by omega, rfl, rfl, rfl, fun i hi => ?_⟩
    · unfold m_keepsAct
      rw [u3, li20, ifeq_f e (by omega) (by omega), li0, b1]
    · by_cases ei : i = u
      · subst ei
        rw [ud_self (fun r hr => b3 r (by omega) hr), show ((nx + 1) % 20 + 20 - (i + 1) + i) % 20 = nx by omega, va_up_self]
        exact hnew
      · rw [ud_congr (w := was) (i := i) (fun r hr => by rw [b2 _ (by omega)]) (fun _ _ => rfl), va_up_ne _ _ (by omega), show ((nx + 1) % 20 + 20 - (u + 1) + i) % 20 = (nx + 20 - u + i) % 20 by omega]
        exact u6 i (by omega)
theorem undo_l21_ev {u : Nat} (hu : u < 20) : ∀ (k i f : Nat) (w : Nat → Int32), i + k = 79 → k < f → (∀ j, j < 10 + i ∨ 89 ≤ j → w j = udD said was u j) → m_undo_l21 was (nn u) f (nn i) w = some (nn u, udD said was u, nn u) := by
  intro k
  induction k with
  | zero =>
    intro i f w h1 h2 h3
    match f, h2 with
    | f + 1, _ =>
    unfold m_undo_l21
    rw [li79, ifle_t (by omega) (by omega)]
    have : w = udD said was u := by funext j; exact h3 j (by omega)
    rw [this]
  | succ k ih =>
    intro i f w h1 h2 h3
    match f, h2 with
    | f + 1, h2 =>
    unfold m_undo_l21
    rw [li79, ifle_f (by omega) (by omega), li10, li1, nn_add, nn_mul, nn_add, nn_add, rq_inb (by omega) (by omega), rq_inb (by omega) (by omega), ltp, nn_tn (by omega), nn_tn (by omega)]
    refine ih (i + 1) f _ (by omega) (by omega) (fun j hj => ?_)
    by_cases e : j = 10 + i
    · rw [e, upd_s]; unfold udD; rw [if_pos (by omega)]; congr 1; omega
    · rw [upd_o e]; exact h3 j (by omega)
end past
