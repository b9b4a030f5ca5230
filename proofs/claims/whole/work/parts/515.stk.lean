/-! stacks and their types; the reference reckons -/
theorem nn_and15 {k : Nat} (h : k < 2147483648) : nn k &&& nn 15 = nn (k % 16) := by
  apply Int32.toBitVec_inj.1
  show BitVec.ofNat 32 k &&& BitVec.ofNat 32 15 = BitVec.ofNat 32 (k % 16)
  apply BitVec.eq_of_toNat_eq
  rw [BitVec.toNat_and, BitVec.toNat_ofNat, BitVec.toNat_ofNat, BitVec.toNat_ofNat]
  have : (15 % 2 ^ 32) = 2 ^ 4 - 1 := rfl
  rw [this, Nat.and_two_pow_sub_one_eq_mod, Nat.mod_eq_of_lt (show k < 2 ^ 32 by omega), Nat.mod_eq_of_lt (show k % 16 < 2 ^ 32 by omega)]
theorem nn_shr4 {k : Nat} (h : k < 2147483648) : nn k >>> (nn 4 &&& nn 31) = nn (k / 16) := by
  apply i_eq
  show (BitVec.sshiftRight' (nn k).toBitVec ((nn 4 &&& nn 31).toBitVec.smod 32)).toInt = _
  have e : (nn 4 &&& nn 31).toBitVec.smod 32 = 4#32 := by decide
  rw [e, BitVec.toInt_sshiftRight', nn_toInt (by omega)]
  show (nn k).toInt >>> (4 : Nat) = _
  rw [nn_toInt h, Int.shiftRight_eq_div_pow]
  rfl
theorem tyR_len : ∀ {ts : List Bool} {l : List Int64}, tyR ts l → ts.length = l.length
  | [], [], _ => rfl
  | _ :: _, _ :: _, h => congrArg Nat.succ (tyR_len h.2)
theorem stkR_upd {f : Nat → Int64} {k : Nat} {v : Int64} : ∀ {l : List Int64}, stkR f l → l.length ≤ k → stkR (vp_updL f k v) l
  | [], _, _ => trivial
  | _ :: l, h, hk => by
    have hk' : l.length + 1 ≤ k := hk
    exact ⟨(updL_o (by omega)).trans h.1, stkR_upd h.2 (by omega)⟩
theorem stkR_push {f : Nat → Int64} {v : Int64} {l : List Int64} (h : stkR f l) : stkR (vp_updL f l.length v) (v :: l) :=
  ⟨updL_s _ _ _, stkR_upd h (Nat.le_refl _)⟩
theorem tc1_inv {c : Nat × Nat} {ts t' : List Bool} (h : tc1 c ts = some t') :
    ((c.1 = 0 ∨ (c.1 = 1 ∧ c.2 < 12)) ∧ ts.length < 60 ∧ t' = false :: ts) ∨ (c.1 = 11 ∧ ∃ r, ts = true :: r ∧ t' = true :: r) ∨
    ((c.1 = 12 ∨ c.1 = 13) ∧ ∃ r, ts = true :: true :: r ∧ t' = true :: r) ∨ ((c.1 = 6 ∨ c.1 = 7 ∨ c.1 = 8 ∨ c.1 = 9 ∨ c.1 = 10) ∧ ∃ r, ts = false :: false :: r ∧ t' = true :: r) ∨
    ((c.1 = 2 ∨ c.1 = 3 ∨ c.1 = 4 ∨ c.1 = 5 ∨ c.1 = 14) ∧ ∃ r, ts = false :: false :: r ∧ t' = false :: r) := by
  unfold tc1 at h
  split at h
  · rename_i e
    split at h
    · rename_i e2; exact Or.inl ⟨Or.inl e, e2.1, (Option.some.inj h).symm⟩
    · cases h
  split at h
  · rename_i e
    split at h
    · rename_i e2; exact Or.inl ⟨Or.inr ⟨e, e2.2⟩, e2.1, (Option.some.inj h).symm⟩
    · cases h
  split at h
  · rename_i e
    split at h
    · exact Or.inr (Or.inl ⟨e, _, rfl, (Option.some.inj h).symm⟩)
    · cases h
  split at h
  · rename_i e
    split at h
    · exact Or.inr (Or.inr (Or.inl ⟨e, _, rfl, (Option.some.inj h).symm⟩))
    · cases h
  split at h
  · rename_i e
    split at h
    · exact Or.inr (Or.inr (Or.inr (Or.inl ⟨by omega, _, rfl, (Option.some.inj h).symm⟩)))
    · cases h
  split at h
  · rename_i e
    split at h
    · exact Or.inr (Or.inr (Or.inr (Or.inr ⟨e, _, rfl, (Option.some.inj h).symm⟩)))
    · cases h
  · cases h
theorem ite01L {p : Prop} [Decidable p] : (if p then (1 : Int64) else 0) = 0 ∨ (if p then (1 : Int64) else 0) = 1 := by
  by_cases h : p
  · exact Or.inr (if_pos h)
  · exact Or.inl (if_neg h)
theorem op01 {k : Nat} {x y : Int64} (h : k = 6 ∨ k = 7 ∨ k = 8 ∨ k = 9 ∨ k = 10) : opS k x y = 0 ∨ opS k x y = 1 := by
  rcases h with h | h | h | h | h <;> subst h <;> exact ite01L
theorem opAO {k : Nat} {x y : Int64} (h : k = 12 ∨ k = 13) (hx : x = 0 ∨ x = 1) (hy : y = 0 ∨ y = 1) : opS k x y = 0 ∨ opS k x y = 1 := by
  rcases h with h | h <;> subst h <;> rcases hx with hx | hx <;> subst hx <;> rcases hy with hy | hy <;> subst hy <;> decide
theorem ev_ty {wd : Nat → Int64} {c : Nat × Nat} {ts t' : List Bool} {l : List Int64} (h : tc1 c ts = some t') (hl : tyR ts l) : tyR t' (ev1 wd c l) := by
  unfold ev1
  rcases tc1_inv h with ⟨hk, _, e⟩ | ⟨hk, r, e1, e2⟩ | ⟨hk, r, e1, e2⟩ | ⟨hk, r, e1, e2⟩ | ⟨hk, r, e1, e2⟩
  · subst e
    rcases hk with hk | ⟨hk, _⟩
    · rw [if_pos hk]; exact ⟨fun h => (by cases h), hl⟩
    · rw [if_neg (by omega), if_pos hk]; exact ⟨fun h => (by cases h), hl⟩
  · subst e1; subst e2
    rw [if_neg (by omega), if_neg (by omega), if_pos hk]
    match l, hl with
    | x :: l, hl =>
      refine ⟨fun _ => ?_, hl.2⟩
      rcases hl.1 rfl with h | h <;> subst h <;> decide
  · subst e1; subst e2
    rw [if_neg (by omega), if_neg (by omega), if_neg (by omega)]
    match l, hl with
    | y :: x :: l, hl => exact ⟨fun _ => opAO hk (hl.2.1 rfl) (hl.1 rfl), hl.2.2⟩
    | [_], hl => exact hl.2.elim
  · subst e1; subst e2
    rw [if_neg (by omega), if_neg (by omega), if_neg (by omega)]
    match l, hl with
    | y :: x :: l, hl => exact ⟨fun _ => op01 hk, hl.2.2⟩
    | [_], hl => exact hl.2.elim
  · subst e1; subst e2
    rw [if_neg (by omega), if_neg (by omega), if_neg (by omega)]
    match l, hl with
    | y :: x :: l, hl => exact ⟨fun h => (by cases h), hl.2.2⟩
    | [_], hl => exact hl.2.elim
theorem push_ev {z : Nat → Int64} {k : Nat} {v : Int64} (h : k < 64) : m_push v z (nn k) = some (vp_updL z k v, nn (k + 1)) := by
  unfold m_push; simp (disch := omega) only [lt, rq_inb, rq_dec, rq_bo0, rq_bo1, rq_bob, bs, ba, nn_add, nn_mul, nn_tn, nn_le, nn_lt, nn_inj, nn_m1, nn_sub, upd_s, upd_o, updL_s, updL_o, li31, li25, li0, li1, li2, li3, li4, li5, li6, li7, li8, li9, li10, li11, li12, li13, li14, li15, li16, li19, li20, li24, li32, li35, li36, li40, li41, li42, li45, li47, li48, li50, li53, li57, li60, li79, li89, li91, li93, li95, li97, li99, li100, li101, li107, li113, li119, li122, li125, li155, li156, li200, li255, li288, li400, li999, li9999, li1580, li2400, li624]
theorem pop_ev {z : Nat → Int64} {k : Nat} (h : k < 64) : m_pop z (nn (k + 1)) = some (z k, nn k) := by
  unfold m_pop
  rw [lt, li1, nn_sub (by omega) (by omega), Nat.add_sub_cancel, rq_inb (by omega) (by omega), nn_tn (by omega)]
section reck
variable {sign : Nat → Int32} {wd : Nat → Int64} {t e : Nat} {pg : Nat → Nat × Nat}
theorem reckons_l8_ev (ht : t < 6) (he : e ≤ 400) (hp : ∀ i, i < e → (pg i).1 < 16 ∧ (pg i).2 < 100000) (hsg : ∀ i, i < e → sign (400 * t + i) = nn ((pg i).1 + 16 * (pg i).2)) (ty : Bool) :
    ∀ (k p n : Nat) (ts : List Bool) (l : List Int64) (z : Nat → Int64), p + k = e → k < n → tcs pg k p ts = some [ty] → tyR ts l → l.length ≤ 60 → stkR z l →
      ∃ z', m_reckons_l8 sign wd (nn t) (nn e) n (nn p) z (nn l.length) = some (hd0 (runL pg wd k p l), z', nn 0) := by
  intro k
  induction k with
  | zero =>
    intro p n ts l z h1 h2 h3 h4 h5 h6
    match n, h2 with
    | n + 1, _ =>
    have e1 : ts = [ty] := Option.some.inj h3
    subst e1
    match l, h4 with
    | [x], h4 =>
      refine ⟨z, ?_⟩
      unfold m_reckons_l8
      rw [ifle_t (by omega) (by omega)]
      show (m_pop z (nn (0 + 1))).bind _ = _
      rw [pop_ev (by omega), bs]
      show some (z 0, z, nn 0) = some (x, z, nn 0)
      have hx : z 0 = x := h6.1
      rw [hx]
  | succ k ih =>
    intro p n ts l z h1 h2 h3 h4 h5 h6
    match n, h2 with
    | n + 1, h2 =>
    have hc := hsg p (by omega)
    have hb := hp p (by omega)
    unfold m_reckons_l8
    rw [ifle_f (by omega) (by omega)]
    simp only [lt, li15, li4, li0, li1, li11, li31, li400]
    rw [nn_mul, nn_add, rq_inb (by omega) (by omega), rq_inb (by omega) (by omega), nn_tn (by omega), hc]
    rw [nn_and15 (by omega), nn_shr4 (by omega)]
    have q1 : ((pg p).1 + 16 * (pg p).2) % 16 = (pg p).1 := by omega
    have q2 : ((pg p).1 + 16 * (pg p).2) / 16 = (pg p).2 := by omega
    rw [q1, q2, nn_add]
    unfold tcs at h3
    obtain ⟨t', ht1, h3'⟩ := Option.bind_eq_some_iff.1 h3
    have hty := ev_ty (wd := wd) ht1 h4
    have hlen := tyR_len h4
    have hlen' := tyR_len hty
    show ∃ z', _ = some (hd0 (runL pg wd k (p + 1) (ev1 wd (pg p) l)), z', nn 0)
    rcases tc1_inv ht1 with ⟨hk, hl60, e1⟩ | ⟨hk, r, e1, e2⟩ | hk
    · rcases hk with hk | ⟨hk, hk2⟩
      · rw [ifeq_t hk, push_ev (by omega), bs]
        have ee : ev1 wd (pg p) l = (nn (pg p).2).toInt64 :: l := by unfold ev1; rw [if_pos hk]
        rw [ee] at hty ⊢
        exact ih (p + 1) n t' _ _ (by omega) (by omega) h3' hty (by rw [List.length_cons]; omega) (stkR_push h6)
      · rw [ifeq_f (by omega) (by omega) (by omega), ifeq_t hk, rq_inb (by omega) (by omega), nn_tn (by omega), push_ev (by omega), bs]
        have ee : ev1 wd (pg p) l = wd (pg p).2 :: l := by unfold ev1; rw [if_neg (by omega), if_pos hk]
        rw [ee] at hty ⊢
        exact ih (p + 1) n t' _ _ (by omega) (by omega) h3' hty (by rw [List.length_cons]; omega) (stkR_push h6)
    · rw [ifeq_f (by omega) (by omega) (by omega), ifeq_f (by omega) (by omega) (by omega), ifeq_t hk]
      subst e1
      match l, h4 with
      | x :: l, h4 =>
      have ee : ev1 wd (pg p) (x :: l) = (1 - x) :: l := by unfold ev1; rw [if_neg (by omega), if_neg (by omega), if_pos hk]
      rw [ee] at hty ⊢
      rw [List.length_cons] at h5 ⊢
      rw [pop_ev (by omega), bs, push_ev (by omega), bs, show z l.length = x from h6.1]
      exact ih (p + 1) n t' _ _ (by omega) (by omega) h3' hty (by rw [List.length_cons]; omega) (stkR_push h6.2)
    · have hk' : ((pg p).1 = 2 ∨ (pg p).1 = 3 ∨ (pg p).1 = 4 ∨ (pg p).1 = 5 ∨ (pg p).1 = 6 ∨ (pg p).1 = 7 ∨ (pg p).1 = 8 ∨ (pg p).1 = 9 ∨ (pg p).1 = 10 ∨ (pg p).1 = 12 ∨ (pg p).1 = 13 ∨ (pg p).1 = 14) ∧ ∃ a b r, ts = a :: b :: r := by
        rcases hk with ⟨hk, r, e1, _⟩ | ⟨hk, r, e1, _⟩ | ⟨hk, r, e1, _⟩ <;> exact ⟨by omega, _, _, _, e1⟩
      obtain ⟨hk', a, b, r, e1⟩ := hk'
      subst e1
      rw [ifeq_f (by omega) (by omega) (by omega), ifeq_f (by omega) (by omega) (by omega), ifeq_f (by omega) (by omega) (by omega)]
      match l, h4 with
      | y :: x :: l, h4 =>
      have ee : ev1 wd (pg p) (y :: x :: l) = opS (pg p).1 x y :: l := by unfold ev1; rw [if_neg (by omega), if_neg (by omega), if_neg (by omega)]
      rw [ee] at hty ⊢
      simp only [List.length_cons] at h5 ⊢
      have hy : z (l.length + 1) = y := h6.1
      have hx : z l.length = x := h6.2.1
      rw [pop_ev (by omega), bs]
      show ∃ z', (m_pop z (nn (l.length + 1))).bind _ = _
      rw [pop_ev (by omega), bs]
      show ∃ z', (m_one (nn (pg p).1) (z l.length) (z (l.length + 1))).bind _ = _
      rw [hx, hy, one_ev x y hk', bs, push_ev (by omega), bs]
      exact ih (p + 1) n t' _ _ (by omega) (by omega) h3' hty (by rw [List.length_cons]; omega) (stkR_push h6.2.2)
      | [_], h4 => exact h4.2.elim
theorem reckons_ev (ht : t < 6) (he : e ≤ 400) (hp : ∀ i, i < e → (pg i).1 < 16 ∧ (pg i).2 < 100000) (hsg : ∀ i, i < e → sign (400 * t + i) = nn ((pg i).1 + 16 * (pg i).2)) {ty : Bool} {a : Nat} (ha : a ≤ e) (hty : tcs pg (e - a) a [] = some [ty]) (z : Nat → Int64) (tp : Int32) :
    ∃ z', m_reckons (nn t) (nn a) (nn e) sign z tp wd = some (runP pg wd a e, z', nn 0) :=
  reckons_l8_ev ht he hp hsg ty (e - a) a FU [] [] z (by omega) (by unfold FU; omega) hty trivial (Nat.zero_le _) trivial
end reck
