/-! the class: rules on its stack -/
def ck (s : Nat) : Nat := if s = 0 then 0 else if s = 1 then 1 else if s = 11 then 2 else if s = 12 then 3 else if s = 13 then 4 else if s = 2 then 5 else if s = 3 then 6 else if s = 4 then 7 else if s = 5 then 8 else if s = 14 then 9 else 10
def cb (s : Nat) : Nat := if s = 6 then 1 else if s = 7 then 3 else if s = 8 then 2 else if s = 9 then 6 else 4
def cn (c : Nat × Nat) : Nat := if 6 ≤ c.1 ∧ c.1 ≤ 10 then cb c.1 else c.2
theorem cb_lt (s : Nat) : cb s < 7 := by unfold cb; repeat' split
                                         all_goals omega
theorem ck_lt (s : Nat) : ck s < 11 := by unfold ck; repeat' split
                                          all_goals omega
theorem nnL {k : Nat} (h : k < 2147483648) : (nn k).toInt64 = Int64.ofNat k := by
  apply Int64.toInt_inj.1
  rw [Int32.toInt_toInt64, nn_toInt h, Int64.toInt_ofNat_of_lt (by omega)]
theorem cmp_ev {s : Nat} {x y : Int64} (h : s = 6 ∨ s = 7 ∨ s = 8 ∨ s = 9 ∨ s = 10) : ((nn (cb s) >>> ((nn 1 + lg_cmp x y) &&& nn 31)) &&& nn 1).toInt64 = opS s x y := by
  have lt_n : ∀ {x y : Int64}, x < y → ¬ y < x := by intro x y; rw [L_lt, L_lt]; omega
  have lt_nle : ∀ {x y : Int64}, x < y → ¬ y ≤ x := by intro x y; rw [L_lt, L_le]; omega
  have lt_ne : ∀ {x y : Int64}, x < y → ¬ x = y := by intro x y; rw [L_lt, L_eq]; omega
  have lt_le : ∀ {x y : Int64}, x < y → x ≤ y := by intro x y; rw [L_lt, L_le]; omega
  have irr : ∀ {x : Int64}, ¬ x < x := by intro x; rw [L_lt]; omega
  rcases lgc_val x y with ⟨q, e⟩ | ⟨q, e⟩ | ⟨q, e⟩ <;> rw [e] <;> rcases h with h | h | h | h | h <;> subst h
  · show _ = (if x < y then (1 : Int64) else 0); rw [if_neg (lt_n q)]; decide
  · show _ = (if x ≤ y then (1 : Int64) else 0); rw [if_neg (lt_nle q)]; decide
  · show _ = (if x = y then (1 : Int64) else 0); rw [if_neg (fun h => lt_ne q h.symm)]; decide
  · show _ = (if y ≤ x then (1 : Int64) else 0); rw [if_pos (lt_le q)]; decide
  · show _ = (if y < x then (1 : Int64) else 0); rw [if_pos q]; decide
  · show _ = (if x < y then (1 : Int64) else 0); rw [q, if_neg irr]; decide
  · show _ = (if x ≤ y then (1 : Int64) else 0); rw [q, if_pos (Int64.le_refl _)]; decide
  · show _ = (if x = y then (1 : Int64) else 0); rw [if_pos q]; decide
  · show _ = (if y ≤ x then (1 : Int64) else 0); rw [q, if_pos (Int64.le_refl _)]; decide
  · show _ = (if y < x then (1 : Int64) else 0); rw [q, if_neg irr]; decide
  · show _ = (if x < y then (1 : Int64) else 0); rw [if_pos q]; decide
  · show _ = (if x ≤ y then (1 : Int64) else 0); rw [if_pos (lt_le q)]; decide
  · show _ = (if x = y then (1 : Int64) else 0); rw [if_neg (lt_ne q)]; decide
  · show _ = (if y ≤ x then (1 : Int64) else 0); rw [if_neg (lt_nle q)]; decide
  · show _ = (if y < x then (1 : Int64) else 0); rw [if_neg (lt_n q)]; decide
section work
variable {steps : Nat → Int32} {wd : Nat → Int64} {e len : Nat} {pg : Nat → Nat × Nat}
theorem j117_ev (k5 : Int32 → Int32 → (Nat → Int64) → Option (Int64 × (Nat → Int64))) {x2 : Int32} {p : Nat} {z0 : Int32} {z : Nat → Int64} {c : Nat × Nat} {x y : Int64} {l : List Int64} (hl : l.length + 1 ≤ 60)
    (hx : z l.length = x) (hy : z (l.length + 1) = y) (hc : c.1 = 11 ∨ c.1 = 12 ∨ c.1 = 13 ∨ c.1 = 2 ∨ c.1 = 3 ∨ c.1 = 4 ∨ c.1 = 5 ∨ c.1 = 14 ∨ c.1 = 6 ∨ c.1 = 7 ∨ c.1 = 8 ∨ c.1 = 9 ∨ c.1 = 10) :
    mRule_work_j117 k5 x2 (nn (l.length + 1)) (nn p) (nn (ck c.1)) (nn (cn c)) steps z0 wd z = k5 (nn (l.length + 1)) (nn (p + 1)) (vp_updL z l.length (if c.1 = 11 then 1 - x else opS c.1 x y)) := by
  have hm : nn (l.length + 1) - (1 : Int32) = nn l.length := by rw [li1, nn_sub (by omega) (by omega), Nat.add_sub_cancel]
  have hp : nn p + (1 : Int32) = nn (p + 1) := by rw [li1, nn_add]
  have l61 : (61 : Int32) = nn 61 := id rfl
  unfold mRule_work_j117
  rw [hm, hp, li1, iflt_f (by omega) (by omega), l61, iflt_t (by omega) (by omega), rq_inb (by omega) (by omega), nn_tn (by omega), hx]
  simp only [lt, li2, li3, li4, li5, li6, li7, li8, li9, li0, li31]
  rw [rq_inb (k := l.length + 1) (by omega) (by omega), nn_tn (by omega), hy]
  simp only [rq_inb (show l.length < 61 by omega) (show 61 < 2147483648 by omega)]
  obtain ⟨c1, c2⟩ := c
  simp only at hc
  have F : ∀ {a b : Nat} {α : Type} {u v : α}, ¬ a = b → a < 100 → b < 100 → (if nn a = nn b then u else v) = v := fun h h1 h2 => ifeq_f h (by omega) (by omega)
  have D0 : ∀ {u v : Option (Int64 × (Nat → Int64))}, y = 0 → (if lg_cmp y 0 = nn 0 then u else v) = u := fun h => if_pos (by rw [lgc_eq]; exact h)
  have D1 : ∀ {u v : Option (Int64 × (Nat → Int64))}, ¬ y = 0 → (if lg_cmp y 0 = nn 0 then u else v) = v := fun h => if_neg (by rw [lgc_eq]; exact h)
  rcases hc with h | h | h | h | h | h | h | h | h <;> (try subst h)
  · rw [show ck (11, c2).1 = 2 from rfl, if_pos rfl]; rfl
  · rw [show ck (12, c2).1 = 3 from rfl, F (by omega) (by omega) (by omega), if_pos rfl]; rfl
  · rw [show ck (13, c2).1 = 4 from rfl, F (by omega) (by omega) (by omega), F (by omega) (by omega) (by omega), if_pos rfl]; rfl
  · rw [show ck (2, c2).1 = 5 from rfl, F (by omega) (by omega) (by omega), F (by omega) (by omega) (by omega), F (by omega) (by omega) (by omega), if_pos rfl]; rfl
  · rw [show ck (3, c2).1 = 6 from rfl, F (by omega) (by omega) (by omega), F (by omega) (by omega) (by omega), F (by omega) (by omega) (by omega), F (by omega) (by omega) (by omega), if_pos rfl]; rfl
  · rw [show ck (4, c2).1 = 7 from rfl, F (by omega) (by omega) (by omega), F (by omega) (by omega) (by omega), F (by omega) (by omega) (by omega), F (by omega) (by omega) (by omega), F (by omega) (by omega) (by omega), if_pos rfl]; rfl
  · rw [show ck (5, c2).1 = 8 from rfl, F (by omega) (by omega) (by omega), F (by omega) (by omega) (by omega), F (by omega) (by omega) (by omega), F (by omega) (by omega) (by omega), F (by omega) (by omega) (by omega), F (by omega) (by omega) (by omega), if_pos rfl]
    show _ = k5 _ _ (vp_updL z l.length (if y = 0 then 0 else x / y))
    by_cases h0 : y = 0
    · rw [D0 h0, if_pos h0]
    · rw [D1 h0, if_neg h0, rq_dec h0]
  · rw [show ck (14, c2).1 = 9 from rfl, F (by omega) (by omega) (by omega), F (by omega) (by omega) (by omega), F (by omega) (by omega) (by omega), F (by omega) (by omega) (by omega), F (by omega) (by omega) (by omega), F (by omega) (by omega) (by omega), F (by omega) (by omega) (by omega), if_pos rfl]
    show _ = k5 _ _ (vp_updL z l.length (if y = 0 then 0 else x - x / y * y))
    by_cases h0 : y = 0
    · rw [D0 h0, if_pos h0]
    · rw [D1 h0, if_neg h0, rq_dec h0]
  · have e1 : ck c1 = 10 := by rcases h with h | h | h | h | h <;> subst h <;> rfl
    have e2 : cn (c1, c2) = cb c1 := by unfold cn; rw [if_pos (by omega)]
    rw [e1, e2, F (by omega) (by omega) (by omega), F (by omega) (by omega) (by omega), F (by omega) (by omega) (by omega), F (by omega) (by omega) (by omega), F (by omega) (by omega) (by omega), F (by omega) (by omega) (by omega), F (by omega) (by omega) (by omega), F (by omega) (by omega) (by omega), if_neg (show ¬ c1 = 11 by omega), ← cmp_ev (x := x) (y := y) h]
    rcases lgc_val x y with ⟨_, e⟩ | ⟨_, e⟩ | ⟨_, e⟩
    · rw [e, if_pos (show nn 0 ≤ nn 1 by decide), if_neg (show ¬ nn 1 = nn 0 by decide), show nn 1 + nn 1 = nn 2 by decide]
    · rw [e, if_pos (show nn 0 ≤ nn 0 by decide), if_pos rfl, show nn 1 + nn 0 = nn 1 by decide]
    · rw [e, if_neg (show ¬ nn 0 ≤ -nn 1 by decide), show nn 1 + -nn 1 = nn 0 by decide]
theorem work_l5_ev (he : e ≤ len) (hlen : len ≤ 400) (hp : ∀ i, i < len → (pg i).1 < 16 ∧ (pg i).2 < 100000) (hsg : ∀ i, i < len → steps i = nn (ck (pg i).1 + 16 * cn (pg i))) (ty : Bool) :
    ∀ (k p n : Nat) (ts : List Bool) (l : List Int64) (z : Nat → Int64), p + k = e → k < n → tcs pg k p ts = some [ty] → tyR ts l → l.length ≤ 60 → stkR z l →
      ∃ z', mRule_work_l5 steps (nn len) wd (nn e) n (nn l.length) (nn p) z = some (hd0 (runL pg wd k p l), z') := by
  intro k
  induction k with
  | zero =>
    intro p n ts l z h1 h2 h3 h4 h5 h6
    match n, h2 with
    | n + 1, _ =>
    have e1 : ts = [ty] := Option.some.inj h3
    subst e1
    match l, h4 with
    | [x], h4 =>
      refine ⟨z, ?_⟩
      unfold mRule_work_l5
      rw [ifle_t (by omega) (by omega), li0, show [x].length = 1 from rfl]
      rw [ifle_f (by omega) (by omega), li1, nn_sub (by omega) (by omega), rq_inb (by omega) (by omega), nn_tn (by omega)]
      have hx : z 0 = x := h6.1
      show some (z 0, z) = some (x, z)
      rw [hx]
  | succ k ih =>
    intro p n ts l z h1 h2 h3 h4 h5 h6
    match n, h2 with
    | n + 1, h2 =>
    have hc := hsg p (by omega)
    have hb := hp p (by omega)
    have hck := ck_lt (pg p).1
    have hcn : cn (pg p) < 100000 := by
      unfold cn; split
      · have := cb_lt (pg p).1; omega
      · exact hb.2
    have l61 : (61 : Int32) = nn 61 := id rfl
    unfold mRule_work_l5
    rw [ifle_f (by omega) (by omega), ifle_f (by omega) (by omega), rq_inb (by omega) (by omega)]
    simp only [lt, li15, li4, li0, li1, li2, li31]
    rw [rq_inb (by omega) (by omega), nn_tn (by omega), hc, nn_and15 (by omega), nn_shr4 (by omega)]
    have q1 : (ck (pg p).1 + 16 * cn (pg p)) % 16 = ck (pg p).1 := by omega
    have q2 : (ck (pg p).1 + 16 * cn (pg p)) / 16 = cn (pg p) := by omega
    rw [q1, q2]
    unfold tcs at h3
    obtain ⟨t', ht1, h3'⟩ := Option.bind_eq_some_iff.1 h3
    have hty := ev_ty (wd := wd) ht1 h4
    have hlen2 := tyR_len h4
    show ∃ z', _ = some (hd0 (runL pg wd k (p + 1) (ev1 wd (pg p) l)), z')
    rcases tc1_inv ht1 with ⟨hk, hl60, e1⟩ | ⟨hk, r, e1, e2⟩ | hk
    · rcases hk with hk | ⟨hk, hk2⟩
      · have ek : ck (pg p).1 = 0 := by rw [hk]; rfl
        have ec : cn (pg p) = (pg p).2 := by unfold cn; rw [if_neg (by omega)]
        rw [ek, ec, ifeq_t rfl]
        unfold mRule_work_j54
        rw [l61, ifle_f (by omega) (by omega), li1, ifeq_f (by omega) (by omega) (by omega)]
        unfold mRule_work_j78
        rw [li0, ifeq_t rfl, rq_inb (by omega) (by omega), li1, nn_add, nn_add, nn_tn (by omega)]
        have ee : ev1 wd (pg p) l = (nn (pg p).2).toInt64 :: l := by unfold ev1; rw [if_pos hk]
        rw [ee] at hty ⊢
        exact ih (p + 1) n t' ((nn (pg p).2).toInt64 :: l) _ (by omega) (by omega) h3' hty (by rw [List.length_cons]; omega) (stkR_push h6)
      · have ek : ck (pg p).1 = 1 := by rw [hk]; rfl
        have ec : cn (pg p) = (pg p).2 := by unfold cn; rw [if_neg (by omega)]
        rw [ek, ec, ifeq_f (by omega) (by omega) (by omega), ifeq_t rfl]
        unfold mRule_work_j54
        rw [l61, ifle_f (by omega) (by omega), li1, ifeq_t rfl, li12, iflt_t (by omega) (by omega)]
        unfold mRule_work_j78
        rw [li0, ifeq_f (by omega) (by omega) (by omega), rq_inb (by omega) (by omega), rq_inb (by omega) (by omega), li1, nn_add, nn_add, nn_tn (k := l.length) (by omega), nn_tn (by omega)]
        have ee : ev1 wd (pg p) l = wd (pg p).2 :: l := by unfold ev1; rw [if_neg (by omega), if_pos hk]
        rw [ee] at hty ⊢
        exact ih (p + 1) n t' (wd (pg p).2 :: l) _ (by omega) (by omega) h3' hty (by rw [List.length_cons]; omega) (stkR_push h6)
    · have ek : ck (pg p).1 = 2 := by rw [hk]; rfl
      rw [ifeq_f (by omega) (by omega) (by omega), ifeq_f (by omega) (by omega) (by omega), ifeq_t ek]
      subst e1
      match l, h4 with
      | x :: l, h4 =>
      have ee : ev1 wd (pg p) (x :: l) = (1 - x) :: l := by unfold ev1; rw [if_neg (by omega), if_neg (by omega), if_pos hk]
      rw [ee] at hty ⊢
      rw [List.length_cons] at h5 ⊢
      rw [j117_ev _ (l := l) h5 (show z l.length = x from h6.1) rfl (Or.inl hk), if_pos hk]
      exact ih (p + 1) n t' ((1 - x) :: l) _ (by omega) (by omega) h3' hty (by rw [List.length_cons]; omega) (stkR_push h6.2)
    · have hk' : ((pg p).1 = 12 ∨ (pg p).1 = 13 ∨ (pg p).1 = 2 ∨ (pg p).1 = 3 ∨ (pg p).1 = 4 ∨ (pg p).1 = 5 ∨ (pg p).1 = 14 ∨ (pg p).1 = 6 ∨ (pg p).1 = 7 ∨ (pg p).1 = 8 ∨ (pg p).1 = 9 ∨ (pg p).1 = 10) ∧ ∃ a b r, ts = a :: b :: r := by
        rcases hk with ⟨hk, r, e1, _⟩ | ⟨hk, r, e1, _⟩ | ⟨hk, r, e1, _⟩ <;> exact ⟨by omega, _, _, _, e1⟩
      obtain ⟨hk', a, b, r, e1⟩ := hk'
      subst e1
      have ek : 3 ≤ ck (pg p).1 := by rcases hk' with h | h | h | h | h | h | h | h | h | h | h | h <;> rw [h] <;> decide
      rw [ifeq_f (by omega) (by omega) (by omega), ifeq_f (by omega) (by omega) (by omega), ifeq_f (by omega) (by omega) (by omega)]
      match l, h4 with
      | y :: x :: l, h4 =>
      have ee : ev1 wd (pg p) (y :: x :: l) = opS (pg p).1 x y :: l := by unfold ev1; rw [if_neg (by omega), if_neg (by omega), if_neg (by omega)]
      rw [ee] at hty ⊢
      simp only [List.length_cons] at h5 ⊢
      have hm : nn (l.length + 1 + 1) + -nn 1 = nn (l.length + 1) := by rw [nn_m1 (by omega) (by omega), Nat.add_sub_cancel]
      rw [hm, j117_ev _ (l := l) (by omega) (show z l.length = x from h6.2.1) (show z (l.length + 1) = y from h6.1) (Or.inr hk'), if_neg (by omega)]
      exact ih (p + 1) n t' (opS (pg p).1 x y :: l) _ (by omega) (by omega) h3' hty (by rw [List.length_cons]; omega) (stkR_push h6.2.2)
      | [_], h4 => exact h4.2.elim
theorem work_ev (he : e ≤ len) (hlen : len ≤ 400) (hp : ∀ i, i < len → (pg i).1 < 16 ∧ (pg i).2 < 100000) (hsg : ∀ i, i < len → steps i = nn (ck (pg i).1 + 16 * cn (pg i))) {ty : Bool} {a : Nat} (ha : a ≤ e) (hty : tcs pg (e - a) a [] = some [ty]) (z : Nat → Int64) :
    ∃ z', mRule_work (nn a) (nn e) steps (nn len) wd z = some (runP pg wd a e, z') :=
  work_l5_ev he hlen hp hsg ty (e - a) a FU [] [] z (by omega) (by unfold FU; omega) hty trivial (Nat.zero_le _) trivial
end work
