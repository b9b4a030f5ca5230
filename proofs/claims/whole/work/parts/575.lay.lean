/-! the reference keeps and lays back; ranges -/
section lay
variable {d kept : Nat → Int32}
theorem keeps_ev (d kept : Nat → Int32) : ∃ kp, m_keeps d kept = some kp ∧ ∀ k, k < 79 → kp k = d (10 + k) := by
  have loop : ∀ (k i n : Nat) (kept : Nat → Int32), i + k = 79 → k < n → (∀ j, j < i → kept j = d (10 + j)) → ∃ kp, m_keeps_l2 d n (nn i) kept = some kp ∧ ∀ k, k < 79 → kp k = d (10 + k) := by
    intro k
    induction k with
    | zero =>
      intro i n kept h1 h2 h3
      match n, h2 with
      | n + 1, _ =>
      unfold m_keeps_l2
      rw [li79, ifle_t (by omega) (by omega)]
      exact ⟨kept, rfl, fun j hj => h3 j (by omega)⟩
    | succ k ih =>
      intro i n kept h1 h2 h3
      match n, h2 with
      | n + 1, h2 =>
      unfold m_keeps_l2
      rw [li79, ifle_f (by omega) (by omega), li10, li1, nn_add, nn_add, rq_inb (by omega) (by omega), rq_inb (by omega) (by omega), nn_tn (by omega), nn_tn (by omega)]
      refine ih (i + 1) n _ (by omega) (by omega) (fun j hj => ?_)
      by_cases e : j = i
      · rw [e, upd_s]
      · rw [upd_o e]; exact h3 j (by omega)
  exact loop 79 0 FU kept (by omega) (by unfold FU; omega) (fun j h => by omega)
/-- outside of the state nothing differs -/
def oEq (d d' : Nat → Int32) : Prop := ∀ k, k < 10 ∨ 89 ≤ k → d' k = d k
theorem laysBack_ev {d d' kp : Nat → Int32} (ho : oEq d d') (hk : ∀ k, k < 79 → kp k = d (10 + k)) : m_laysBack d' kp = some d := by
  have loop : ∀ (k i n : Nat) (u : Nat → Int32), i + k = 79 → k < n → (∀ j, j < 10 + i ∨ 89 ≤ j → u j = d j) → m_laysBack_l2 kp n (nn i) u = some d := by
    intro k
    induction k with
    | zero =>
      intro i n u h1 h2 h3
      match n, h2 with
      | n + 1, _ =>
      unfold m_laysBack_l2
      rw [li79, ifle_t (by omega) (by omega)]
      congr 1
      funext j
      exact h3 j (by omega)
    | succ k ih =>
      intro i n u h1 h2 h3
      match n, h2 with
      | n + 1, h2 =>
      unfold m_laysBack_l2
      rw [li79, ifle_f (by omega) (by omega), li10, li1, nn_add, nn_add, rq_inb (by omega) (by omega), rq_inb (by omega) (by omega), nn_tn (by omega), nn_tn (by omega)]
      refine ih (i + 1) n _ (by omega) (by omega) (fun j hj => ?_)
      by_cases e : j = 10 + i
      · rw [e, upd_s, hk i (by omega)]
      · rw [upd_o e]; exact h3 j (by omega)
  exact loop 79 0 FU d' (by omega) (by unfold FU; omega) (fun j h => ho j (by omega))
theorem oEq.trans {d d' d'' : Nat → Int32} (h : oEq d d') (h' : oEq d' d'') : oEq d d'' := fun k hk => (h' k hk).trans (h k hk)
theorem oEq_upd {k : Nat} {v : Int32} (h : 10 ≤ k) (h2 : k < 89) : oEq d (upd d k v) := fun j hj => upd_o (by omega)
theorem oEq_mins {ru : Option RU} {N B : Nat} {rg pl : Nat → Nat} {ac : Nat → Bool} {M : Nat} {p : Int32} (hN : N ≤ 6) (hB : B ≤ 6) (hr : rOK N rg pl) : oEq d (minsS ru N rg pl ac B M d p).1 := fun j hj => minsS_o hN hB hr (by omega) M d p
theorem oEq_min {ru : Option RU} {N B : Nat} {rg pl : Nat → Nat} {ac : Nat → Bool} (hN : N ≤ 6) (hB : B ≤ 6) (hr : rOK N rg pl) : oEq d (minS ru N rg pl ac B d).1 := fun j hj => minS_o hN hB hr (by omega)
end lay
/-- a number within bounds -/
def wi (x : Int32) (a b : Int) : Bool := decide (a ≤ x.toInt) && decide (x.toInt ≤ b)
theorem wi_iff {x : Int32} {a b : Int} : wi x a b = true ↔ a ≤ x.toInt ∧ x.toInt ≤ b := by unfold wi; simp
theorem wi_nn {x : Int32} {a b : Nat} (h : wi x a b = true) : ∃ k, a ≤ k ∧ k ≤ b ∧ x = nn k := by
  rw [wi_iff] at h
  have hk : (x.toInt.toNat : Int) = x.toInt := Int.toNat_of_nonneg (by omega)
  refine ⟨x.toInt.toNat, by omega, by omega, ?_⟩
  apply i_eq
  have := Int32.toInt_lt x
  rw [nn_toInt (by omega), hk]
theorem within_ev (x y z : Int32) : mNextStall_within x y z = some (b01 (wi x y.toInt z.toInt = true)) := by
  unfold mNextStall_within
  simp only [li0, li1]
  by_cases h1 : x < y
  · rw [if_pos h1, b01_f]
    rw [wi_iff]; rw [Int32.lt_iff_toInt_lt] at h1; omega
  · rw [if_neg h1]
    rw [Int32.lt_iff_toInt_lt] at h1
    by_cases h2 : z < x
    · rw [if_pos h2, b01_f]
      rw [wi_iff]; rw [Int32.lt_iff_toInt_lt] at h2; omega
    · rw [if_neg h2, b01_t]
      rw [wi_iff]; rw [Int32.lt_iff_toInt_lt] at h2; omega
theorem in_ev (x : Int32) (y z : Int64) : m_in x.toInt64 y z = some (b01 (wi x y.toInt z.toInt = true)) := by
  unfold m_in
  simp only [li0, li1]
  have e : x.toInt64.toInt = x.toInt := Int32.toInt_toInt64 x
  by_cases h1 : x.toInt64 < y
  · rw [if_pos (by rw [lgc_lt]; exact h1), b01_f]
    rw [wi_iff]; rw [L_lt] at h1; omega
  · rw [if_neg (by rw [lgc_lt]; exact h1)]
    rw [L_lt] at h1
    by_cases h2 : z < x.toInt64
    · rw [if_pos (by rw [lgc_gt]; exact h2), b01_f]
      rw [wi_iff]; rw [L_lt] at h2; omega
    · rw [if_neg (by rw [lgc_gt]; exact h2), b01_t]
      rw [wi_iff]; rw [L_lt] at h2; omega
theorem nn_pred {N : Nat} (h : N < 2147483648) : (nn N - nn 1).toInt = (N : Int) - 1 := by
  have h1 : (nn N).toInt = N := nn_toInt h
  have h2 : (nn 1).toInt = 1 := rfl
  rw [i_sub (by rw [h1, h2]; omega) (by rw [h1, h2]; omega), h1, h2]
theorem cisStall_ev {N : Nat} {g : tyFair} {x : Int32} (hN : N < 2147483648) (h : g.2.2.1 = nn N) : mNextStall_isStall x g = some (b01 (wi x 0 ((N : Int) - 1) = true)) := by
  unfold mNextStall_isStall
  rw [within_ev, bs, rq_bob, h, li1, nn_pred hN]
  rfl
theorem cisBuyer_ev {N : Nat} {g : tyFair} {x : Int32} (hN : N < 2147483648) (h : g.2.2.2.1 = nn N) : mNextStall_isBuyer x g = some (b01 (wi x 0 ((N : Int) - 1) = true)) := by
  unfold mNextStall_isBuyer
  rw [within_ev, bs, rq_bob, h, li1, nn_pred hN]
  rfl
theorem misStall_ev {N : Nat} {d : Nat → Int32} {x : Int32} (hN : N < 2147483648) (h : d 3 = nn N) : m_isStall x d = some (b01 (wi x 0 ((N : Int) - 1) = true)) := by
  unfold m_isStall
  rw [li3, nn_tn (by omega), h, rq_inb (by omega) (by omega)]
  simp only [li0, li1]
  have h0 : (nn 0).toInt = 0 := rfl
  by_cases h1 : x < nn 0
  · rw [if_pos h1, b01_f]
    rw [wi_iff]; rw [Int32.lt_iff_toInt_lt, h0] at h1; omega
  · rw [if_neg h1]
    rw [Int32.lt_iff_toInt_lt, h0] at h1
    by_cases h2 : nn N ≤ x
    · rw [if_pos h2, b01_f]
      rw [wi_iff]; rw [Int32.le_iff_toInt_le, nn_toInt hN] at h2; omega
    · rw [if_neg h2, b01_t]
      rw [wi_iff]; rw [Int32.le_iff_toInt_le, nn_toInt hN] at h2; omega
theorem misBuyer_ev {N : Nat} {d : Nat → Int32} {x : Int32} (hN : N < 2147483648) (h : d 4 = nn N) : m_isBuyer x d = some (b01 (wi x 0 ((N : Int) - 1) = true)) := by
  unfold m_isBuyer
  rw [li4, nn_tn (by omega), h, rq_inb (by omega) (by omega)]
  simp only [li0, li1]
  have h0 : (nn 0).toInt = 0 := rfl
  by_cases h1 : x < nn 0
  · rw [if_pos h1, b01_f]
    rw [wi_iff]; rw [Int32.lt_iff_toInt_lt, h0] at h1; omega
  · rw [if_neg h1]
    rw [Int32.lt_iff_toInt_lt, h0] at h1
    by_cases h2 : nn N ≤ x
    · rw [if_pos h2, b01_f]
      rw [wi_iff]; rw [Int32.le_iff_toInt_le, nn_toInt hN] at h2; omega
    · rw [if_neg h2, b01_t]
      rw [wi_iff]; rw [Int32.le_iff_toInt_le, nn_toInt hN] at h2; omega
theorem wi_st {x : Int32} {N : Nat} (h : wi x 0 ((N : Int) - 1) = true) : ∃ k, k < N ∧ x = nn k := by
  rw [wi_iff] at h
  have hk : (x.toInt.toNat : Int) = x.toInt := Int.toNat_of_nonneg (by omega)
  refine ⟨x.toInt.toNat, by omega, ?_⟩
  apply i_eq
  have := Int32.toInt_lt x
  rw [nn_toInt (by omega), hk]
/-! fairs that are changed -/
section chg
variable {N B L : Nat} {rg pl : Nat → Nat} {d : Nat → Int32} {g : tyFair} {ac : Nat → Bool}
/-- behind minutes -/
abbrev gUp (g : tyFair) (m : Int32) (go ti we so pu ha : Nat → Int32) : tyFair :=
  (g.1, g.2.1, g.2.2.1, g.2.2.2.1, m, go, g.2.2.2.2.2.2.1, g.2.2.2.2.2.2.2.1, ti, we, so, g.2.2.2.2.2.2.2.2.2.2.2.1, g.2.2.2.2.2.2.2.2.2.2.2.2.1, pu, g.2.2.2.2.2.2.2.2.2.2.2.2.2.2.1, ha, g.2.2.2.2.2.2.2.2.2.2.2.2.2.2.2.2.1, g.2.2.2.2.2.2.2.2.2.2.2.2.2.2.2.2.2.1, g.2.2.2.2.2.2.2.2.2.2.2.2.2.2.2.2.2.2)
theorem fR_mins {ru : Option RU} {M : Nat} {p m : Int32} {go ti we so pu ha : Nat → Int32} (hr : rOK N rg pl) (h : fR N B L rg pl d g)
    (h' : goR N B L rg pl (minsS ru N rg pl ac B M d p).1 g.1 g.2.1 g.2.2.1 g.2.2.2.1 m go g.2.2.2.2.2.2.1 ti we so pu g.2.2.2.2.2.2.2.2.2.2.2.2.2.2.1 ha g.2.2.2.2.2.2.2.2.2.2.2.2.2.2.2.2.1 g.2.2.2.2.2.2.2.2.2.2.2.2.2.2.2.2.2.1 g.2.2.2.2.2.2.2.2.2.2.2.2.2.2.2.2.2.2) : fR N B L rg pl (minsS ru N rg pl ac B M d p).1 (gUp g m go ti we so pu ha) := by
  have hN := h.1.2.2.2.2.1.1
  have hB := h.1.2.2.2.2.1.2.1
  refine ⟨h', fun s hs => ?_, fun s hs => ?_, fun s hs => ?_⟩
  · rw [minsS_o hN hB hr (by omega)]; exact h.2.1 s hs
  · rw [minsS_o hN hB hr (by omega)]; exact h.2.2.1 s hs
  · rw [minsS_o hN hB hr (by omega)]; exact h.2.2.2 s hs
theorem gor_g {x3 : Int32} {r : RU} {len : Nat} {q : tyRule} (hR : rcR q.1 q.2.1 q.2.2.1 q.2.2.2.1 q.2.2.2.2.1 q.2.2.2.2.2.1 q.2.2.2.2.2.2.2.1 r len) (hac : acR x3 (nn 0) ac) (hr : rOK N rg pl) {M : Nat} (hM : M < 4000) (h : fR N B L rg pl d g) (wd z : Nat → Int64) :
    ∃ m go ti we so pu ha wd' z', mFair_gor (nn M) x3 g.1 g.2.1 g.2.2.1 g.2.2.2.1 g.2.2.2.2.1 g.2.2.2.2.2.1 g.2.2.2.2.2.2.1 g.2.2.2.2.2.2.2.2.1 g.2.2.2.2.2.2.2.2.2.1 g.2.2.2.2.2.2.2.2.2.2.1 g.2.2.2.2.2.2.2.2.2.2.2.2.2.1 g.2.2.2.2.2.2.2.2.2.2.2.2.2.2.1 g.2.2.2.2.2.2.2.2.2.2.2.2.2.2.2.1 g.2.2.2.2.2.2.2.2.2.2.2.2.2.2.2.2.1 g.2.2.2.2.2.2.2.2.2.2.2.2.2.2.2.2.2.1 g.2.2.2.2.2.2.2.2.2.2.2.2.2.2.2.2.2.2 q.1 q.2.1 q.2.2.1 q.2.2.2.1 q.2.2.2.2.1 q.2.2.2.2.2.1 q.2.2.2.2.2.2.2.1 wd z = some ((minsS (some r) N rg pl ac B M d (nn 0)).2, m, go, ti, we, so, pu, ha, wd', z') ∧ fR N B L rg pl (minsS (some r) N rg pl ac B M d (nn 0)).1 (gUp g m go ti we so pu ha) := by
  obtain ⟨m, go, ti, we, so, pu, ha, wd', z', h1, h2⟩ := gor_ev hR hac hr hM h.1 wd z
  exact ⟨m, go, ti, we, so, pu, ha, wd', z', h1, fR_mins hr h h2⟩
theorem gon_g {x3 : Int32}  (hac : acR x3 (nn 0) ac) (hr : rOK N rg pl) {M : Nat} (hM : M < 4000) (h : fR N B L rg pl d g)  :
    ∃ m go ti we so pu ha , mFair_gon (nn M) x3 g.1 g.2.1 g.2.2.1 g.2.2.2.1 g.2.2.2.2.1 g.2.2.2.2.2.1 g.2.2.2.2.2.2.1 g.2.2.2.2.2.2.2.2.1 g.2.2.2.2.2.2.2.2.2.1 g.2.2.2.2.2.2.2.2.2.2.1 g.2.2.2.2.2.2.2.2.2.2.2.2.2.1 g.2.2.2.2.2.2.2.2.2.2.2.2.2.2.1 g.2.2.2.2.2.2.2.2.2.2.2.2.2.2.2.1 g.2.2.2.2.2.2.2.2.2.2.2.2.2.2.2.2.1 g.2.2.2.2.2.2.2.2.2.2.2.2.2.2.2.2.2.1  = some ((minsS none N rg pl ac B M d (nn 0)).2, m, go, ti, we, so, pu, ha) ∧ fR N B L rg pl (minsS none N rg pl ac B M d (nn 0)).1 (gUp g m go ti we so pu ha) := by
  obtain ⟨m, go, ti, we, so, pu, ha,  h1, h2⟩ := gon_ev  hac hr hM h.1 
  exact ⟨m, go, ti, we, so, pu, ha,  h1, fR_mins hr h h2⟩
theorem fR_price {st p : Nat} (hr : rOK N rg pl) (h : fR N B L rg pl d g) (hs : st < N) (hp : 1 ≤ p) (hp2 : p ≤ 40) : fR N B L rg pl (upd d (11 + 4 * st + 1) (nn p)) (g.1, g.2.1, g.2.2.1, g.2.2.2.1, g.2.2.2.2.1, g.2.2.2.2.2.1, upd g.2.2.2.2.2.2.1 st (nn p), g.2.2.2.2.2.2.2.1, g.2.2.2.2.2.2.2.2.1, g.2.2.2.2.2.2.2.2.2.1, g.2.2.2.2.2.2.2.2.2.2.1, g.2.2.2.2.2.2.2.2.2.2.2.1, g.2.2.2.2.2.2.2.2.2.2.2.2.1, g.2.2.2.2.2.2.2.2.2.2.2.2.2.1, g.2.2.2.2.2.2.2.2.2.2.2.2.2.2.1, g.2.2.2.2.2.2.2.2.2.2.2.2.2.2.2.1, g.2.2.2.2.2.2.2.2.2.2.2.2.2.2.2.2.1, g.2.2.2.2.2.2.2.2.2.2.2.2.2.2.2.2.2.1, g.2.2.2.2.2.2.2.2.2.2.2.2.2.2.2.2.2.2) := by
  obtain ⟨⟨hS, hD, hW, hK, hf, ht, hpr⟩, h1, h2, h3⟩ := h
  obtain ⟨s1, s2, s3, s4, s5, s6, s7, s8, s9⟩ := hS
  obtain ⟨d1, d2, d3, d4, d5⟩ := hD
  obtain ⟨hN, hB, f3, f4, f5, f6, f7, f8⟩ := hf
  refine ⟨⟨⟨?_, ?_, ?_, ?_, fun s hs => ?_, fun s hs => ?_, s7, fun s hs => ?_, fun s hs => ?_⟩, ⟨fun s hs => ?_, fun s hs => ?_, fun s hs => ?_, fun s hs => ?_, fun b s hb hs => ?_⟩, fun s hs => ?_, ?_, ⟨hN, hB, f3, f4, ?_, ?_, ?_, rSt_upd f8 hN (by omega)⟩, fun s hs => ?_, fun s hs => ?_⟩, fun s hs => ?_, fun s hs => ?_, fun s hs => ?_⟩
  · rw [upd_o (by omega)]; exact s1
  · rw [upd_o (by omega)]; exact s2
  · rw [upd_o (by omega)]; exact s3
  · rw [upd_o (by omega)]; exact s4
  · by_cases e : s = st
    · subst e; rw [upd_s]; exact upd_s _ _ _
    · rw [upd_o (by omega)]; exact (upd_o e).trans (s5 s hs)
  · rw [upd_o (by omega)]; exact s6 s hs
  · rw [(prS_congr hr hs (fun k hk => ⟨upd_o (by omega), upd_o (by omega)⟩)).1]; exact s8 s hs
  · rw [(prS_congr hr hs (fun k hk => ⟨upd_o (by omega), upd_o (by omega)⟩)).2]; exact s9 s hs
  · rw [upd_o (by omega)]; exact d1 s hs
  · rw [upd_o (by omega)]; exact d2 s hs
  · rw [upd_o (by omega), upd_o (by omega)]; exact d3 s hs
  · rw [upd_o (by omega)]; exact d4 s hs
  · rw [upd_o (by omega)]; exact d5 b s hb hs
  · rw [upd_o (by omega)]; exact hW s hs
  · rw [upd_o (by omega)]; exact hK
  · rw [upd_o (by omega)]; exact f5
  · rw [upd_o (by omega)]; exact f6
  · rw [upd_o (by omega)]; exact f7
  · rw [upd_o (by omega)]; exact ht s hs
  · by_cases e : s = st
    · subst e; rw [upd_s]; exact ⟨p, hp, hp2, rfl⟩
    · rw [upd_o (by omega)]; exact hpr s hs
  · rw [upd_o (by omega)]; exact h1 s hs
  · rw [upd_o (by omega)]; exact h2 s hs
  · rw [upd_o (by omega)]; exact h3 s hs
theorem fR_keeps {k : Int32} (hr : rOK N rg pl) (h : fR N B L rg pl d g) : fR N B L rg pl (upd d 2 k) (g.1, k, g.2.2.1, g.2.2.2.1, g.2.2.2.2.1, g.2.2.2.2.2.1, g.2.2.2.2.2.2.1, g.2.2.2.2.2.2.2.1, g.2.2.2.2.2.2.2.2.1, g.2.2.2.2.2.2.2.2.2.1, g.2.2.2.2.2.2.2.2.2.2.1, g.2.2.2.2.2.2.2.2.2.2.2.1, g.2.2.2.2.2.2.2.2.2.2.2.2.1, g.2.2.2.2.2.2.2.2.2.2.2.2.2.1, g.2.2.2.2.2.2.2.2.2.2.2.2.2.2.1, g.2.2.2.2.2.2.2.2.2.2.2.2.2.2.2.1, g.2.2.2.2.2.2.2.2.2.2.2.2.2.2.2.2.1, g.2.2.2.2.2.2.2.2.2.2.2.2.2.2.2.2.2.1, g.2.2.2.2.2.2.2.2.2.2.2.2.2.2.2.2.2.2) := by
  obtain ⟨⟨hS, hD, hW, hK, hf, ht, hpr⟩, h1, h2, h3⟩ := h
  obtain ⟨s1, s2, s3, s4, s5, s6, s7, s8, s9⟩ := hS
  obtain ⟨d1, d2, d3, d4, d5⟩ := hD
  obtain ⟨hN, hB, f3, f4, f5, f6, f7, f8⟩ := hf
  refine ⟨⟨⟨?_, ?_, ?_, ?_, fun s hs => ?_, fun s hs => ?_, s7, fun s hs => ?_, fun s hs => ?_⟩, ⟨fun s hs => ?_, fun s hs => ?_, fun s hs => ?_, fun s hs => ?_, fun b s hb hs => ?_⟩, fun s hs => ?_, ?_, ⟨hN, hB, f3, f4, ?_, ?_, ?_, rSt_upd f8 hN (by omega)⟩, fun s hs => ?_, fun s hs => ?_⟩, fun s hs => ?_, fun s hs => ?_, fun s hs => ?_⟩
  · rw [upd_o (by omega)]; exact s1
  · rw [upd_o (by omega)]; exact s2
  · rw [upd_o (by omega)]; exact s3
  · rw [upd_o (by omega)]; exact s4
  · rw [upd_o (by omega)]; exact s5 s hs
  · rw [upd_o (by omega)]; exact s6 s hs
  · rw [(prS_congr hr hs (fun k hk => ⟨upd_o (by omega), upd_o (by omega)⟩)).1]; exact s8 s hs
  · rw [(prS_congr hr hs (fun k hk => ⟨upd_o (by omega), upd_o (by omega)⟩)).2]; exact s9 s hs
  · rw [upd_o (by omega)]; exact d1 s hs
  · rw [upd_o (by omega)]; exact d2 s hs
  · rw [upd_o (by omega), upd_o (by omega)]; exact d3 s hs
  · rw [upd_o (by omega)]; exact d4 s hs
  · rw [upd_o (by omega)]; exact d5 b s hb hs
  · rw [upd_o (by omega)]; exact hW s hs
  · rw [upd_s]
  · rw [upd_o (by omega)]; exact f5
  · rw [upd_o (by omega)]; exact f6
  · rw [upd_o (by omega)]; exact f7
  · rw [upd_o (by omega)]; exact ht s hs
  · rw [upd_o (by omega)]; exact hpr s hs
  · rw [upd_o (by omega)]; exact h1 s hs
  · rw [upd_o (by omega)]; exact h2 s hs
  · rw [upd_o (by omega)]; exact h3 s hs
/-- another ring, other grudges, and what follows from them -/
theorem fR_arr {d' : Nat → Int32} {rg' pl' : Nat → Nat} {ri gr se pr bo : Nat → Int32} (h : fR N B L rg pl d g) (hd : ∀ k, ¬ (35 ≤ k ∧ k < 47) → d' k = d k) (hs' : rSt N rg' d')
    (hri : ∀ k, k < N → ri k = d' (35 + k)) (hgr : ∀ s, s < N → gr s = d' (41 + s)) (hse : ∀ t, t < N → se t = nn (slr N rg' pl' t)) (hpr : ∀ t, t < N → pr t = prS N rg' pl' d' t) (hbo : ∀ t, t < N → bo t = b01 (brS N rg' pl' d' t = true)) :
    fR N B L rg' pl' d' (g.1, g.2.1, g.2.2.1, g.2.2.2.1, g.2.2.2.2.1, g.2.2.2.2.2.1, g.2.2.2.2.2.2.1, g.2.2.2.2.2.2.2.1, g.2.2.2.2.2.2.2.2.1, g.2.2.2.2.2.2.2.2.2.1, g.2.2.2.2.2.2.2.2.2.2.1, ri, gr, g.2.2.2.2.2.2.2.2.2.2.2.2.2.1, g.2.2.2.2.2.2.2.2.2.2.2.2.2.2.1, g.2.2.2.2.2.2.2.2.2.2.2.2.2.2.2.1, se, pr, bo) := by
  obtain ⟨⟨hS, hD, hW, hK, hf, ht, hpp⟩, h1, h2, h3⟩ := h
  obtain ⟨s1, s2, s3, s4, s5, s6, s7, s8, s9⟩ := hS
  obtain ⟨d1, d2, d3, d4, d5⟩ := hD
  obtain ⟨hN, hB, f3, f4, f5, f6, f7, f8⟩ := hf
  refine ⟨⟨⟨?_, ?_, ?_, ?_, fun s hs => ?_, fun s hs => ?_, hse, hpr, hbo⟩, ⟨fun s hs => ?_, fun s hs => ?_, fun s hs => ?_, fun s hs => ?_, fun b s hb hs => ?_⟩, fun s hs => ?_, ?_, ⟨hN, hB, f3, f4, ?_, ?_, ?_, hs'⟩, fun s hs => ?_, fun s hs => ?_⟩, fun s hs => ?_, hri, hgr⟩
  · rw [hd _ (by omega)]; exact s1
  · rw [hd _ (by omega)]; exact s2
  · rw [hd _ (by omega)]; exact s3
  · rw [hd _ (by omega)]; exact s4
  · rw [hd _ (by omega)]; exact s5 s hs
  · rw [hd _ (by omega)]; exact s6 s hs
  · rw [hd _ (by omega)]; exact d1 s hs
  · rw [hd _ (by omega)]; exact d2 s hs
  · rw [hd _ (by omega), hd _ (by omega)]; exact d3 s hs
  · rw [hd _ (by omega)]; exact d4 s hs
  · rw [hd _ (by omega)]; exact d5 b s hb hs
  · rw [hd _ (by omega)]; exact hW s hs
  · rw [hd _ (by omega)]; exact hK
  · rw [hd _ (by omega)]; exact f5
  · rw [hd _ (by omega)]; exact f6
  · rw [hd _ (by omega)]; exact f7
  · rw [hd _ (by omega)]; exact ht s hs
  · rw [hd _ (by omega)]; exact hpp s hs
  · rw [hd _ (by omega)]; exact h1 s hs
end chg
