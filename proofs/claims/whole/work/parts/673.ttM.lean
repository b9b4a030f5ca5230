/-! tests: the reference goes as the stack says -/
def oSt : List Nat → (Nat → Int32) → Prop
  | [], _ => True
  | o :: O, f => f O.length = nn o ∧ oSt O f
def okO (O : List Nat) : Prop := ∀ o, o ∈ O → o = 11 ∨ o = 12 ∨ o = 13 ∨ o = 91
theorem okO_t {o : Nat} {O : List Nat} (h : okO (o :: O)) : okO O := fun a ha => h a (List.mem_cons_of_mem _ ha)
theorem okO_c {o : Nat} {O : List Nat} (h : okO O) (ho : o = 11 ∨ o = 12 ∨ o = 13 ∨ o = 91) : okO (o :: O) := fun a ha => by
  rcases List.mem_cons.1 ha with h1 | h1
  · rw [h1]; exact ho
  · exact h a h1
theorem dp_le : ∀ (O : List Nat), dpS O ≤ O.length := by
  intro O
  induction O with
  | nil => exact Nat.le_refl _
  | cons o O ih => unfold dpS; rw [List.length_cons]; by_cases h : o = 11 ∨ o = 91 <;> simp [h] <;> omega
theorem oSt_up {f : Nat → Int32} {v : Int32} {k : Nat} : ∀ (O : List Nat), O.length ≤ k → oSt O f → oSt O (upd f k v) := by
  intro O
  induction O with
  | nil => intro _ _; trivial
  | cons o O ih =>
    intro h1 h2
    rw [List.length_cons] at h1
    exact ⟨by rw [upd_o (by omega)]; exact h2.1, ih (by omega) h2.2⟩
theorem oSt_push {f : Nat → Int32} {o : Nat} {O : List Nat} (h : oSt O f) : oSt (o :: O) (upd f O.length (nn o)) := ⟨upd_s _ _ _, oSt_up O (Nat.le_refl _) h⟩
theorem oSt_app {f : Nat → Int32} : ∀ (A B : List Nat), oSt (A ++ B) f → oSt B f := by
  intro A
  induction A with
  | nil => intro B h; exact h
  | cons a A ih => intro B h; exact ih B h.2
theorem ld_inv {f : Nat → Int32} {l : Nat} (hl : 1 ≤ l) : ∀ (O : List Nat) (L : List (Nat × Nat)), okO O → oSt O f → okL L → okO (ldS l O L).1 ∧ oSt (ldS l O L).1 f ∧ okL (ldS l O L).2 ∧ (ldS l O L).2.length + (ldS l O L).1.length = L.length + O.length := by
  intro O
  induction O with
  | nil => intro L h1 h2 h3; exact ⟨h1, h2, h3, rfl⟩
  | cons o O ih =>
    intro L h1 h2 h3
    unfold ldS
    by_cases e : l ≤ stg o
    · rw [if_pos e]
      have ho := h1 o List.mem_cons_self
      have ho16 : o < 16 := by
        by_cases e2 : o = 91
        · rw [e2] at e; have : stg 91 = 0 := rfl; omega
        · omega
      obtain ⟨a1, a2, a3, a4⟩ := ih (L ++ [(o, 0)]) (okO_t h1) h2.2 (okL_app h3 ⟨ho16, by dsimp only; omega⟩)
      exact ⟨a1, a2, a3, by rw [a4, List.length_append, List.length_singleton, List.length_cons]; omega⟩
    · rw [if_neg e]; exact ⟨h1, h2, h3, rfl⟩
theorem ld_91 : ∀ (O : List Nat) (L : List (Nat × Nat)), okO O → 91 ∈ O → ∃ O', (ldS 1 O L).1 = 91 :: O' := by
  intro O
  induction O with
  | nil => intro L _ h; cases h
  | cons o O ih =>
    intro L h1 h2
    unfold ldS
    by_cases e : 1 ≤ stg o
    · rw [if_pos e]
      refine ih _ (okO_t h1) ?_
      rcases List.mem_cons.1 h2 with h | h
      · rw [← h] at e; exact absurd e (by decide)
      · exact h
    · rw [if_neg e]
      rcases h1 o List.mem_cons_self with h | h | h | h
      · rw [h] at e; exact absurd (by decide) e
      · rw [h] at e; exact absurd (by decide) e
      · rw [h] at e; exact absurd (by decide) e
      · exact ⟨O, by rw [h]⟩
theorem strength_ev {o : Nat} (h : o = 11 ∨ o = 12 ∨ o = 13 ∨ o = 91) : m_strength (nn o) = some (nn (stg o)) := by
  rcases h with h | h | h | h <;> subst h <;> rfl
section ttM
variable {b tx : Nat → Int32} {T : Nat}
theorem v_not (hT : T ≤ 400) (hb : bR T b tx) {p : Nat} (hp : p ≤ T) : m_isWord (7237492 : Int64) tx (nn T) (nn p) = some (b01 (isW b T wNot (skp b T p) = true), nn (skp b T p)) := w_not hT hb hp
theorem v_and (hT : T ≤ 400) (hb : bR T b tx) {p : Nat} (hp : p ≤ T) : m_isWord (6385252 : Int64) tx (nn T) (nn p) = some (b01 (isW b T wAnd (skp b T p) = true), nn (skp b T p)) := w_and hT hb hp
theorem v_or (hT : T ≤ 400) (hb : bR T b tx) {p : Nat} (hp : p ≤ T) : m_isWord (28530 : Int64) tx (nn T) (nn p) = some (b01 (isW b T wOr (skp b T p) = true), nn (skp b T p)) := w_or hT hb hp
theorem ld_ev {t l : Nat} (ht : t < 6) (hl : 1 ≤ l) (hl3 : l ≤ 3) {sign0 opn : Nat → Int32} : ∀ (O : List Nat) (L : List (Nat × Nat)) (n : Nat) (sign length : Nat → Int32), okO O → oSt O opn → L.length + O.length ≤ 400 → O.length < n → gM t sign0 L sign length →
    ∃ sign' length', m_layDown_l0 (nn t) opn (nn l) n sign length (nn (dpS O)) (nn O.length) = some (sign', length', nn (dpS (ldS l O L).1), nn (ldS l O L).1.length) ∧ gM t sign0 (ldS l O L).2 sign' length' := by
  intro O
  induction O with
  | nil =>
    intro L n sign length h1 h2 h3 h4 h5
    match n, h4 with
    | n + 1, _ =>
    unfold m_layDown_l0
    rw [if_pos (show nn ([] : List Nat).length ≤ 0 by decide)]
    exact ⟨sign, length, rfl, h5⟩
  | cons o O ih =>
    intro L n sign length h1 h2 h3 h4 h5
    have ho := h1 o List.mem_cons_self
    rw [List.length_cons] at h3 h4
    have hdp := dp_le (o :: O)
    rw [List.length_cons] at hdp
    match n, h4 with
    | n + 1, h4 =>
    have e1 : nn (o :: O).length - (1 : Int32) = nn O.length := by rw [List.length_cons, li1, nn_sub (by omega) (by omega)]; rfl
    unfold m_layDown_l0
    rw [if_neg (show ¬ nn (o :: O).length ≤ 0 by rw [List.length_cons, li0, nn_le (by omega) (by omega)]; omega), e1, rq_inb (by omega) (by omega), nn_tn (by omega), h2.1, strength_ev ho, bs]
    have hst : stg o ≤ 3 := by unfold stg; repeat' split
                               all_goals omega
    unfold ldS
    by_cases e : l ≤ stg o
    · rw [iflt_f e (by omega), if_pos e, ltp, rq_inb (by omega) (by omega), nn_tn (by omega), h2.1]
      obtain ⟨s', l', a1, a2⟩ := puts_g (c := (o, 0)) (x1 := nn o) (x2 := (0 : Int32)) rfl rfl ht (by omega) h5
      rw [a1, bs, rq_inb (by omega) (by omega), show (11 : Int32) = nn 11 from id rfl]
      have hL : (L ++ [(o, 0)]).length + O.length ≤ 400 := by rw [List.length_append, List.length_singleton]; omega
      dsimp only
      by_cases e2 : o = 11
      · rw [ifeq_t e2, ltp]
        have ed : nn (dpS (o :: O)) - (1 : Int32) = nn (dpS O) := by
          have : dpS (o :: O) = 1 + dpS O := by
            conv => lhs; unfold dpS
            rw [if_pos (Or.inl e2)]
          rw [this] at hdp ⊢
          rw [li1, nn_sub (by omega) (by omega)]; congr 1; omega
        rw [ed]
        exact ih (L ++ [(o, 0)]) n s' l' (okO_t h1) h2.2 hL (by omega) a2
      · rw [ifeq_f e2 (by omega) (by omega)]
        have e91 : ¬ o = 91 := fun h => by rw [h] at e; have : stg 91 = 0 := rfl; omega
        have ed : dpS (o :: O) = dpS O := by
          conv => lhs; unfold dpS
          rw [if_neg (by omega), Nat.zero_add]
        rw [ed]
        exact ih (L ++ [(o, 0)]) n s' l' (okO_t h1) h2.2 hL (by omega) a2
    · rw [iflt_t (by omega) (by omega), if_neg e]
      exact ⟨sign, length, rfl, h5⟩
theorem layDown_ev {t l : Nat} (ht : t < 6) (hl : 1 ≤ l) (hl3 : l ≤ 3) {sign0 opn : Nat → Int32} {O : List Nat} {L : List (Nat × Nat)} {sign length : Nat → Int32} (h1 : okO O) (h2 : oSt O opn) (h3 : L.length + O.length ≤ 400) (h5 : gM t sign0 L sign length) :
    ∃ sign' length', m_layDown (nn l) sign length (nn t) (nn (dpS O)) opn (nn O.length) = some (sign', length', nn (dpS (ldS l O L).1), nn (ldS l O L).1.length) ∧ gM t sign0 (ldS l O L).2 sign' length' := by
  unfold m_layDown
  exact ld_ev ht hl hl3 O L FU sign length h1 h2 h3 (by unfold FU; omega) h5
theorem in_l2 {opn : Nat → Int32} : ∀ (P S : List Nat) (n : Nat), oSt (P.reverse ++ S) opn → okO P → P.length + S.length ≤ 400 → P.length < n → m_isInside_l2 opn (nn (P.length + S.length)) n (nn S.length) = some (b01 (decide (91 ∈ P) = true)) := by
  intro P
  induction P with
  | nil =>
    intro S n h1 h2 h3 h4
    match n, h4 with
    | n + 1, _ =>
    unfold m_isInside_l2
    rw [List.length_nil, Nat.zero_add, ifle_t (Nat.le_refl _) (by rw [List.length_nil] at h3; omega)]
    rfl
  | cons p P ih =>
    intro S n h1 h2 h3 h4
    rw [List.length_cons] at h3 h4
    match n, h4 with
    | n + 1, h4 =>
    rw [List.reverse_cons, List.append_assoc] at h1
    have hp := (oSt_app P.reverse ([p] ++ S) h1).1
    unfold m_isInside_l2
    have ho := h2 p List.mem_cons_self
    rw [List.length_cons, ifle_f (by omega) (by omega), rq_inb (by omega) (by omega), nn_tn (by omega)]
    have hp' : opn S.length = nn p := hp
    rw [hp', show (91 : Int32) = nn 91 from id rfl]
    by_cases e : p = 91
    · rw [ifeq_t e, b01_t (by subst e; simp)]
      rfl
    · rw [ifeq_f e (by omega) (by omega), li1, nn_add]
      have := ih (p :: S) n h1 (okO_t h2) (by rw [List.length_cons]; omega) (by omega)
      rw [List.length_cons, show P.length + (S.length + 1) = P.length + 1 + S.length by omega] at this
      rw [this]
      congr 2
      simp
      intro h; exact absurd h.symm e
theorem inside_ev {opn : Nat → Int32} {O : List Nat} (h1 : okO O) (h2 : oSt O opn) (h3 : O.length ≤ 400) : m_isInside opn (nn O.length) = some (b01 (decide (91 ∈ O) = true)) := by
  unfold m_isInside
  have := in_l2 (opn := opn) O.reverse [] FU (by rw [List.reverse_reverse, List.append_nil]; exact h2) (fun o ho => h1 o (List.mem_reverse.1 ho)) (by rw [List.length_reverse]; exact h3) (by rw [List.length_reverse]; unfold FU; omega)
  rw [List.length_reverse] at this
  rw [List.length_nil, Nat.add_zero] at this
  rw [li0, this]
  congr 2
  simp
theorem cl_ev (hT : T ≤ 400) (hb : bR T b tx) {t : Nat} (ht : t < 6) {sign0 opn : Nat → Int32} : ∀ (c : Nat) (O : List Nat) (s : RS) (n : Nat) (sign length : Nat → Int32), T - s.1 < c → c < n → okO O → oSt O opn → okR T O.length s → gM t sign0 s.2.1 sign length →
    ∃ sign' length', m_closes_l5 tx (nn T) (nn t) opn n sign length (nn s.1) (nn (dpS O)) (nn O.length) = some (sign', length', nn (clS b T c O s).2.1, nn (dpS (clS b T c O s).1), nn (clS b T c O s).1.length) ∧ gM t sign0 (clS b T c O s).2.2.1 sign' length' ∧
      okO (clS b T c O s).1 ∧ oSt (clS b T c O s).1 opn ∧ okR T (clS b T c O s).1.length (clS b T c O s).2 ∧ (clS b T c O s).2.2.2 = s.2.2 ∧ s.1 ≤ (clS b T c O s).2.1 ∧ skp b T (clS b T c O s).2.1 = (clS b T c O s).2.1 := by
  intro c
  induction c with
  | zero => intro O s n sign length h; omega
  | succ c ih =>
    intro O s n sign length hc hn hO hS h hg
    match n, hn with
    | n + 1, hn =>
    obtain ⟨h1, h2, h3, h4⟩ := h
    have hq := skp_le (b := b) h1
    have hq2 := skp_ge (b := b) h1
    have hqq := skp_skp (b := b) (T := T) (p := s.1)
    have hdp := dp_le O
    unfold m_closes_l5 clS
    rw [xm_see hT hb h1, bs]
    dsimp only
    generalize skp b T s.1 = q at hq hq2 hqq
    rw [show (93 : Int32) = nn 93 from id rfl]
    by_cases e : seB b T q = nn 93
    · rw [if_pos e, inside_ev hO hS (by omega), bs]
      have hlt := seB_lt (b := b) (by omega) e
      by_cases e2 : 91 ∈ O
      · rw [ifb_t (decide_eq_true e2), if_pos ⟨e, e2⟩]
        obtain ⟨s1, l1, a1, a2⟩ := layDown_ev (l := 1) ht (by omega) (by omega) hO hS (by omega) hg
        obtain ⟨i1, i2, i3, i4⟩ := ld_inv (f := opn) (l := 1) (by omega) O s.2.1 hO hS h4
        obtain ⟨O', e3⟩ := ld_91 O s.2.1 hO e2
        rw [li1, a1, bs]
        dsimp only
        rw [ltp, ltp, ltp]
        rw [e3] at i1 i2 i4 ⊢
        rw [List.length_cons] at i4
        have hdp' := dp_le O'
        have ed : nn (dpS (91 :: O')) - nn 1 = nn (dpS O') := by
          have : dpS (91 :: O') = 1 + dpS O' := rfl
          rw [this, nn_sub (by omega) (by omega)]; congr 1; omega
        have el : nn (91 :: O').length - nn 1 = nn O'.length := by rw [List.length_cons, nn_sub (by omega) (by omega)]; rfl
        rw [ed, el, List.tail_cons, show (3 : Int32) = nn 3 from id rfl]
        obtain ⟨s2, l2, b1, b2⟩ := layDown_ev (l := 3) ht (by omega) (by omega) (okO_t i1) i2.2 (by omega) a2
        obtain ⟨j1, j2, j3, j4⟩ := ld_inv (f := opn) (l := 3) (by omega) O' (ldS 1 O s.2.1).2 (okO_t i1) i2.2 i3
        rw [b1, bs, nn_add]
        obtain ⟨s3, l3, c1, c2, c3, c4, c5, c6, c7, c8⟩ := ih (ldS 3 O' (ldS 1 O s.2.1).2).1 (q + 1, (ldS 3 O' (ldS 1 O s.2.1).2).2, s.2.2) n s2 l2 (by dsimp only; omega) (by omega) j1 j2 ⟨by dsimp only; omega, by dsimp only; omega, h3, j3⟩ b2
        dsimp only at c7
        exact ⟨s3, l3, c1, c2, c3, c4, c5, c6, by omega, c8⟩
      · rw [ifb_f (by simpa using e2), if_neg (fun h => e2 h.2)]
        exact ⟨sign, length, rfl, hg, hO, hS, ⟨hq, by dsimp only; omega, h3, h4⟩, rfl, hq2, hqq⟩
    · rw [if_neg e, if_neg (fun h => e h.1)]
      exact ⟨sign, length, rfl, hg, hO, hS, ⟨hq, by dsimp only; omega, h3, h4⟩, rfl, hq2, hqq⟩
theorem m_sumput (hT : T ≤ 400) (hb : bR T b tx) (hy : byR T b) {t j cd : Nat} (ht : t < 6) {sign0 : Nat → Int32} {s : RS} (h : okR T (j + 1) s) {sign length : Nat → Int32} {nb x : Int32} (hx : x = nn cd) (hg : gM t sign0 s.2.1 sign length) :
    rsM t sign0 (match smS b T s with | .error F => Except.error F | .ok s2 => Except.ok (s2.1, s2.2.1 ++ [(cd, 0)], s2.2.2)) ((m_sum tx (nn T) sign length (nn s.1) (nn 0) nb (nn t) (nn s.2.2)).bind (fun q23 => (if q23.1 = 0 then some ((0 : Int32), q23.2.1, q23.2.2.1, q23.2.2.2.1, q23.2.2.2.2.1, q23.2.2.2.2.2.1, q23.2.2.2.2.2.2) else (m_puts x (0 : Int32) q23.2.1 q23.2.2.1 (nn t)).bind (fun q25 => some ((1 : Int32), q25.1, q25.2, q23.2.2.2.1, q23.2.2.2.2.1, q23.2.2.2.2.2.1, q23.2.2.2.2.2.2))))) := by
  have hv := xm_sum hT hb hy ht (nb := nb) h hg
  cases hs : smS b T s with
  | error F =>
    rw [hs] at hv
    obtain ⟨s', l', nx, nb', md, v1, v2⟩ := hv
    rw [v1, bs]
    dsimp only
    rw [ifn0]
    exact ⟨s', l', nx, nb', md, rfl, v2⟩
  | ok s1 =>
    rw [hs] at hv
    obtain ⟨s', l', nb', v1, v2⟩ := hv
    obtain ⟨⟨o1, o2, o3, o4⟩, o5⟩ := smS_ok hT h hs
    rw [v1, bs]
    dsimp only
    obtain ⟨s2, l2, a1, a2⟩ := puts_g (c := (cd, 0)) (x1 := x) (x2 := (0 : Int32)) hx rfl ht (by omega) v2
    rw [ifn1, a1, bs]
    exact ⟨s2, l2, nb', rfl, a2⟩
theorem j105_ev (hT : T ≤ 400) (hb : bR T b tx) (hy : byR T b) {t j k p q m : Nat} {al : Bool} {L : List (Nat × Nat)} (ht : t < 6) (hk : k < 3) (hal : k = 1 → al = false) {sign0 : Nat → Int32} (h : ¬ m = 60 → okR T (j + 1) (p, L, m + 1)) (hm : m ≤ 60) {sign length : Nat → Int32} {nb : Int32} (hg : gM t sign0 L sign length) :
    rsM t sign0 (if m = 60 then Except.error (1 + 8 * q + 3) else (match smS b T (p, L, m + 1) with | .error F => Except.error F | .ok s2 => Except.ok (s2.1, s2.2.1 ++ [(cdS k al, 0)], s2.2.2))) (m_compare_j105 (nn (60 + k)) (nn q) (b01 (al = true)) tx (nn T) sign length (nn p) (nn 0) nb (nn t) (nn m)) := by
  unfold m_compare_j105
  rw [makes_ev hm, bs]
  by_cases e6 : m = 60
  · rw [if_pos e6, if_pos e6]
    dsimp only
    rw [ifn0]
    exact ⟨_, _, _, _, _, rfl, hg.2.2⟩
  · rw [if_neg e6, if_neg e6]
    dsimp only
    rw [ifn1]
    have ho := h e6
    match k, hk with
    | 0, _ =>
      rw [if_pos (show nn (60 + 0) = (60 : Int32) from rfl)]
      cases al with
      | false => rw [if_pos (show b01 (false = true) = (0 : Int32) from rfl)]; exact m_sumput hT hb hy ht ho rfl hg
      | true => rw [if_neg (show ¬ b01 (true = true) = (0 : Int32) by decide)]; exact m_sumput hT hb hy ht ho rfl hg
    | 1, _ =>
      rw [if_neg (show ¬ nn (60 + 1) = (60 : Int32) by decide), if_pos (show nn (60 + 1) = (61 : Int32) from rfl)]
      exact m_sumput hT hb hy ht ho rfl hg
    | 2, _ =>
      rw [if_neg (show ¬ nn (60 + 2) = (60 : Int32) by decide), if_neg (show ¬ nn (60 + 2) = (61 : Int32) by decide)]
      cases al with
      | false => rw [if_pos (show b01 (false = true) = (0 : Int32) from rfl)]; exact m_sumput hT hb hy ht ho rfl hg
      | true => rw [if_neg (show ¬ b01 (true = true) = (0 : Int32) by decide)]; exact m_sumput hT hb hy ht ho rfl hg
theorem xm_cmp (hT : T ≤ 400) (hb : bR T b tx) (hy : byR T b) {t j : Nat} (ht : t < 6) {sign0 : Nat → Int32} {s : RS} (h : okR T j s) {sign length : Nat → Int32} {nb : Int32} (hg : gM t sign0 s.2.1 sign length) :
    rsM t sign0 (cmS b T s) (m_compare tx (nn T) sign length (nn s.1) (nn 0) nb (nn t) (nn s.2.2)) := by
  have hv := xm_sum hT hb hy ht (nb := nb) h hg
  unfold m_compare cmS
  cases hs : smS b T s with
  | error F =>
    rw [hs] at hv
    obtain ⟨s', l', nx, nb', md, v1, v2⟩ := hv
    rw [v1, bs]
    dsimp only
    rw [ifn0]
    exact ⟨s', l', nx, nb', md, rfl, v2⟩
  | ok s1 =>
    rw [hs] at hv
    obtain ⟨s', l', nb', v1, v2⟩ := hv
    obtain ⟨⟨o1, o2, o3, o4⟩, o5⟩ := smS_ok hT h hs
    have hq := skp_le (b := b) o1
    have hq2 := skp_ge (b := b) o1
    rw [v1, bs]
    dsimp only
    rw [ifn1, xm_see hT hb o1, bs]
    dsimp only
    generalize skp b T s1.1 = q at hq hq2
    rw [show (60 : Int32) = nn 60 from id rfl, show (61 : Int32) = nn 61 from id rfl, show (62 : Int32) = nn 62 from id rfl]
    -- the sign's way
    have way : ∀ k, k < 3 → seB b T q = nn (60 + k) → rsM t sign0 (if s1.2.2 = 60 then Except.error (1 + 8 * q + 3) else
        (match smS b T (q + 1 + (if alB b T q k = true then 1 else 0), s1.2.1, s1.2.2 + 1) with | .error F => Except.error F | .ok s2 => Except.ok (s2.1, s2.2.1 ++ [(cdS k (alB b T q k), 0)], s2.2.2)))
        (m_compare_j44 (nn (60 + k)) (nn q) tx (nn T) s' l' (nn q) (nn 0) nb' (nn t) (nn s1.2.2)) := by
      intro k hk hse
      have hlt : q < T := seB_lt (by omega) hse
      have hp := al_le (b := b) (k := k) hlt
      have ho : ¬ s1.2.2 = 60 → okR T (j + 1) (q + 1 + (if alB b T q k = true then 1 else 0), s1.2.1, s1.2.2 + 1) := fun e => ⟨hp, by dsimp only; omega, by dsimp only; omega, o4⟩
      have no : alB b T q k = false → rsM t sign0 (if s1.2.2 = 60 then Except.error (1 + 8 * q + 3) else
        (match smS b T (q + 1 + (if alB b T q k = true then 1 else 0), s1.2.1, s1.2.2 + 1) with | .error F => Except.error F | .ok s2 => Except.ok (s2.1, s2.2.1 ++ [(cdS k (alB b T q k), 0)], s2.2.2)))
        (m_compare_j89 (nn (60 + k)) (nn q) tx (nn T) s' l' (nn (q + 1)) (nn 0) nb' (nn t) (nn s1.2.2)) := by
        intro ha
        rw [ha, if_neg (show ¬ false = true by decide), Nat.add_zero] at ho ⊢
        unfold m_compare_j89 m_compare_j90
        rw [if_pos (show (0 : Int32) = 0 from rfl)]
        exact j105_ev hT hb hy ht hk (fun _ => rfl) ho o3 v2
      unfold m_compare_j44
      rw [ltp, li1, nn_add]
      by_cases e1 : k = 1
      · rw [if_pos (show nn (60 + k) = (61 : Int32) by rw [e1]; rfl)]
        exact no (by unfold alB; simp [e1])
      · rw [if_neg (show ¬ nn (60 + k) = (61 : Int32) by rw [show (61 : Int32) = nn 61 from id rfl, nn_inj (by omega) (by omega)]; omega)]
        by_cases e2 : T ≤ q + 1
        · rw [ifle_t e2 (by omega)]
          exact no (by unfold alB; simp; intro _ h; omega)
        · rw [ifle_f (by omega) (by omega), rq_inb (by omega) (by omega), nn_tn (by omega), hb (q + 1) (by omega), show (61 : Int32) = nn 61 from id rfl]
          by_cases e3 : b (q + 1) = nn 61
          · have ha : alB b T q k = true := by unfold alB; simp; exact ⟨e1, by omega, e3⟩
            rw [if_pos e3]
            rw [ha, if_pos (show true = true from rfl)] at ho ⊢
            unfold m_compare_j90
            rw [if_neg (show ¬ nn 1 = (0 : Int32) by decide), ltp, li1, nn_add]
            exact j105_ev hT hb hy ht hk (al := true) (fun h => absurd h e1) ho o3 v2
          · rw [if_neg e3]
            exact no (by unfold alB; simp; intro _ _; exact e3)
    unfold sgK
    by_cases e0 : seB b T q = nn 60
    · rw [if_pos e0, if_pos e0, e0]; exact way 0 (by omega) e0
    rw [if_neg e0, if_neg e0]
    by_cases e1 : seB b T q = nn 61
    · rw [if_pos e1, if_pos e1, e1]; exact way 1 (by omega) e1
    rw [if_neg e1, if_neg e1]
    by_cases e2 : seB b T q = nn 62
    · rw [if_pos e2, if_pos e2, e2]; exact way 2 (by omega) e2
    rw [if_neg e2, if_neg e2, li0, m_fails_ev, bs, rq_bo0]
    exact ⟨_, _, _, _, _, rfl, v2.2.2⟩
/-- what a test gives back -/
def rsT (t : Nat) (sign0 : Nat → Int32) (x : Except Nat RS) (r : Option (Int32 × (Nat → Int32) × (Nat → Int32) × Int32 × Int32 × Int32 × Int32 × Int32 × (Nat → Int32) × Int32)) : Prop :=
  match x with
  | .ok s => ∃ sign' length' nb dp opn od, r = some (nn 1, sign', length', nn s.1, nn 0, nb, nn s.2.2, dp, opn, od) ∧ gM t sign0 s.2.1 sign' length'
  | .error F => ∃ sign' length' nx nb md dp opn od, r = some (nn 0, sign', length', nx, nn F, nb, md, dp, opn, od) ∧ kpM t sign0 sign'
def rsF (T t : Nat) (sign0 : Nat → Int32) (s : RS) (x : Except Nat (List Nat × RS)) (r : Option (Int32 × (Nat → Int32) × (Nat → Int32) × Int32 × Int32 × Int32 × Int32 × Int32 × (Nat → Int32) × Int32)) : Prop :=
  match x with
  | .ok z => ∃ sign' length' nb opn, r = some (nn 1, sign', length', nn z.2.1, nn 0, nb, nn z.2.2.2, nn (dpS z.1), opn, nn z.1.length) ∧ gM t sign0 z.2.2.1 sign' length' ∧ oSt z.1 opn ∧ okO z.1 ∧ okR T z.1.length z.2 ∧ s.1 < z.2.1
  | .error F => ∃ sign' length' nx nb md dp opn od, r = some (nn 0, sign', length', nx, nn F, nb, md, dp, opn, od) ∧ kpM t sign0 sign'
theorem opens_ev {q : Nat} {o : Nat} {O : List Nat} {opn : Nat → Int32} (hO : O.length < 400) : m_opens (nn o) (nn q) (nn 0) (nn (dpS O)) opn (nn O.length) = some (if dpS O = 10 then (nn 0, nn (1 + 8 * q + 2), nn (dpS O), opn, nn O.length) else (nn 1, nn 0, nn (dpS O + 1), upd opn O.length (nn o), nn (O.length + 1))) := by
  have hdp := dp_le O
  unfold m_opens
  rw [show (10 : Int32) = nn 10 from id rfl]
  by_cases e : dpS O = 10
  · rw [ifeq_t e, if_pos e, show (2 : Int32) = nn 2 from id rfl, m_fails_ev, bs, rq_bo0]
  · rw [ifeq_f e (by omega) (by omega), if_neg e, ltp, rq_inb (by omega) (by omega), ltp, ltp, li1, nn_add, nn_add, nn_tn (by omega)]
theorem fc_ev (hT : T ≤ 400) (hb : bR T b tx) (hy : byR T b) {t : Nat} (ht : t < 6) {sign0 sign length : Nat → Int32} {nb : Int32} : ∀ (k : Nat) (O : List Nat) (s : RS) (n : Nat) (opn : Nat → Int32), T - s.1 < k → k + 1 < n → okO O → oSt O opn → okR T O.length s → gM t sign0 s.2.1 sign length →
    rsF T t sign0 s (fcS b T k O s) (m_fact_l2 tx (nn T) sign length nb (nn t) (nn s.2.2) n (nn 1) (nn s.1) (nn 0) (nn (dpS O)) opn (nn O.length)) := by
  intro k
  induction k with
  | zero => intro O s n opn h; omega
  | succ k ih =>
    intro O s n opn hk hn hO hS h hg
    match n, hn with
    | n + 2, hn =>
    obtain ⟨h1, h2, h3, h4⟩ := h
    have hq := skp_le (b := b) h1
    have hq2 := skp_ge (b := b) h1
    have hqq := skp_skp (b := b) (T := T) (p := s.1)
    conv => rhs; unfold m_fact_l2
    unfold fcS
    rw [ifn1, xm_see hT hb h1, bs]
    dsimp only
    rw [v_not hT hb hq, hqq, bs]
    dsimp only
    generalize skp b T s.1 = q at hq hq2 hqq
    by_cases w1 : run b T q = wNot
    · have hw : q + 3 ≤ T := run_pos w1 hq
      rw [ifb_t (isW_iff.2 w1), if_pos w1, show (11 : Int32) = nn 11 from id rfl, opens_ev (by omega), bs]
      by_cases e : dpS O = 10
      · rw [if_pos e, if_pos e]
        dsimp only
        rw [ifn0]
        exact ⟨_, _, _, _, _, _, _, _, rfl, hg.2.2⟩
      · rw [if_neg e, if_neg e]
        dsimp only
        rw [ifn1, xm_passWord hT hb hq, bs, w1, show wNot.length = 3 from rfl]
        have hd : nn (dpS O + 1) = nn (dpS (11 :: O)) := by
          have : dpS (11 :: O) = 1 + dpS O := rfl
          rw [this, Nat.add_comm]
        rw [hd]
        have := ih (11 :: O) (q + 3, s.2.1, s.2.2) (n + 1) (upd opn O.length (nn 11)) (by dsimp only; omega) (by omega) (okO_c hO (Or.inl rfl)) (oSt_push hS) ⟨hw, by rw [List.length_cons]; dsimp only; omega, h3, h4⟩ hg
        dsimp only at this
        revert this
        show rsF T t sign0 (q + 3, s.2.1, s.2.2) _ _ → rsF T t sign0 s _ _
        intro this
        unfold rsF at this ⊢
        cases hz : fcS b T k (11 :: O) (q + 3, s.2.1, s.2.2) with
        | error F => rw [hz] at this; exact this
        | ok z =>
          rw [hz] at this
          obtain ⟨a1, a2, a3, a4, a5, a6, a7, a8, a9, a10⟩ := this
          dsimp only at a10
          exact ⟨a1, a2, a3, a4, a5, a6, a7, a8, a9, by omega⟩
    · rw [ifb_f (fun h => w1 (isW_iff.1 h)), if_neg w1, show (91 : Int32) = nn 91 from id rfl]
      by_cases w2 : seB b T q = nn 91
      · have hlt := seB_lt (b := b) (by omega) w2
        rw [if_pos w2, if_pos w2, opens_ev (by omega), bs]
        by_cases e : dpS O = 10
        · rw [if_pos e, if_pos e]
          dsimp only
          rw [ifn0]
          exact ⟨_, _, _, _, _, _, _, _, rfl, hg.2.2⟩
        · rw [if_neg e, if_neg e]
          dsimp only
          rw [ifn1, ltp, li1, nn_add]
          have hd : nn (dpS O + 1) = nn (dpS (91 :: O)) := by
            have : dpS (91 :: O) = 1 + dpS O := rfl
            rw [this, Nat.add_comm]
          rw [hd]
          have := ih (91 :: O) (q + 1, s.2.1, s.2.2) (n + 1) (upd opn O.length (nn 91)) (by dsimp only; omega) (by omega) (okO_c hO (Or.inr (Or.inr (Or.inr rfl)))) (oSt_push hS) ⟨by dsimp only; omega, by rw [List.length_cons]; dsimp only; omega, h3, h4⟩ hg
          dsimp only at this
          unfold rsF at this ⊢
          cases hz : fcS b T k (91 :: O) (q + 1, s.2.1, s.2.2) with
          | error F => rw [hz] at this; exact this
          | ok z =>
            rw [hz] at this
            obtain ⟨a1, a2, a3, a4, a5, a6, a7, a8, a9, a10⟩ := this
            dsimp only at a10
            exact ⟨a1, a2, a3, a4, a5, a6, a7, a8, a9, by omega⟩
      · rw [if_neg w2, if_neg w2]
        conv => rhs; unfold m_fact_l2
        rw [if_pos (show (0 : Int32) = 0 from rfl)]
        have ho : okR T O.length (q, s.2.1, s.2.2) := ⟨hq, by dsimp only; omega, h3, h4⟩
        have hv := xm_cmp hT hb hy ht (nb := nb) ho hg
        dsimp only at hv
        cases hc : cmS b T (q, s.2.1, s.2.2) with
        | error F =>
          rw [hc] at hv
          obtain ⟨s', l', nx, nb', md, v1, v2⟩ := hv
          rw [v1, bs, rq_bo0]
          exact ⟨_, _, _, _, _, _, _, _, rfl, v2⟩
        | ok s1 =>
          rw [hc] at hv
          obtain ⟨s', l', nb', v1, v2⟩ := hv
          obtain ⟨g1, g2⟩ := (gd_cm (b := b) hT O.length _ ho).2 s1 hc
          dsimp only at g2
          rw [v1, bs, rq_bo1]
          exact ⟨s', l', nb', opn, rfl, v2, hS, hO, g1, by dsimp only; omega⟩
theorem tt_ev (hT : T ≤ 400) (hb : bR T b tx) (hy : byR T b) {t : Nat} (ht : t < 6) {sign0 : Nat → Int32} : ∀ (k : Nat) (O : List Nat) (s : RS) (n : Nat) (opn sign length : Nat → Int32) (nb : Int32), T - s.1 < k → k + 1 < n → okO O → oSt O opn → okR T O.length s → gM t sign0 s.2.1 sign length →
    rsT t sign0 (ttS b T k O s) (m_tested_l12 tx (nn T) (nn t) n (nn 1) sign length (nn s.1) (nn 0) nb (nn s.2.2) (nn (dpS O)) opn (nn O.length)) := by
  intro k
  induction k with
  | zero => intro O s n opn sign length nb h; omega
  | succ k ih =>
    intro O s n opn sign length nb hk hn hO hS h hg
    match n, hn with
    | n + 2, hn =>
    conv => rhs; unfold m_tested_l12
    unfold ttS
    have hT1 := h.1
    have hv := fc_ev hT hb hy ht (nb := nb) 401 O s FU opn (by omega) (by unfold FU; omega) hO hS h hg
    rw [ifn1]
    unfold m_fact
    rw [li1]
    unfold rsF at hv
    cases hf : fcS b T 401 O s with
    | error F =>
      rw [hf] at hv
      obtain ⟨s', l', nx, nb', md, dp, op', od, v1, v2⟩ := hv
      rw [v1, bs]
      dsimp only
      rw [ifn0]
      exact ⟨_, _, _, _, _, _, _, _, rfl, v2⟩
    | ok z =>
      rw [hf] at hv
      obtain ⟨sg, ln, nb', op', v1, v2, v3, v4, ⟨v5, v6, v7, v8⟩, v9⟩ := hv
      rw [v1, bs]
      dsimp only
      rw [ifn1]
      unfold m_closes afS
      rw [show (3 : Int32) = nn 3 from id rfl]
      obtain ⟨s1, l1, a1, a2⟩ := layDown_ev (l := 3) ht (by omega) (by omega) v4 v3 (by omega) v2
      obtain ⟨i1, i2, i3, i4⟩ := ld_inv (f := op') (l := 3) (by omega) z.1 z.2.2.1 v4 v3 v8
      rw [a1, bs]
      dsimp only
      obtain ⟨s2, l2, c1, c2, c3, c4, ⟨c5, c6, c7, c8⟩, c9, c10, c11⟩ := cl_ev hT hb ht (sign0 := sign0) (opn := op') 401 (ldS 3 z.1 z.2.2.1).1 (z.2.1, (ldS 3 z.1 z.2.2.1).2, z.2.2.2) FU s1 l1 (by dsimp only; omega) (by unfold FU; omega) i1 i2 ⟨v5, by dsimp only; omega, v7, i3⟩ a2
      dsimp only at c1 c9 c10
      rw [c1, bs]
      dsimp only
      generalize clS b T 401 (ldS 3 z.1 z.2.2.1).1 (z.2.1, (ldS 3 z.1 z.2.2.1).2, z.2.2.2) = y at c2 c3 c4 c5 c6 c7 c8 c9 c10 c11
      rw [← c9]
      rw [v_and hT hb c5, c11, bs]
      dsimp only
      -- and, or: on
      have on : ∀ (l o w : Nat), 1 ≤ l → l ≤ 3 → (o = 12 ∨ o = 13) → y.2.1 + w ≤ T → 0 < w → ∀ s3 l3, gM t sign0 (ldS l y.1 y.2.2.1).2 s3 l3 →
          rsT t sign0 (ttS b T k (o :: (ldS l y.1 y.2.2.1).1) (y.2.1 + w, (ldS l y.1 y.2.2.1).2, y.2.2.2)) (m_tested_l12 tx (nn T) (nn t) (n + 1) (nn 1) s3 l3 (nn (y.2.1 + w)) (nn 0) nb' (nn y.2.2.2) (nn (dpS (ldS l y.1 y.2.2.1).1)) (upd op' (ldS l y.1 y.2.2.1).1.length (nn o)) (nn ((ldS l y.1 y.2.2.1).1.length + 1))) := by
        intro l o w hl hl3 ho hw hw0 s3 l3 hg3
        obtain ⟨j1, j2, j3, j4⟩ := ld_inv (f := op') (l := l) (by omega) y.1 y.2.2.1 c3 c4 c8
        have hd : dpS (o :: (ldS l y.1 y.2.2.1).1) = dpS (ldS l y.1 y.2.2.1).1 := by
          conv => lhs; unfold dpS
          rw [if_neg (by omega), Nat.zero_add]
        have := ih (o :: (ldS l y.1 y.2.2.1).1) (y.2.1 + w, (ldS l y.1 y.2.2.1).2, y.2.2.2) (n + 1) (upd op' (ldS l y.1 y.2.2.1).1.length (nn o)) s3 l3 nb' (by dsimp only; omega) (by omega) (okO_c j1 (by omega)) (oSt_push j2) ⟨hw, by rw [List.length_cons]; dsimp only; omega, c7, j3⟩ hg3
        dsimp only at this
        rw [hd, List.length_cons] at this
        exact this
      unfold aoS
      by_cases w1 : run b T y.2.1 = wAnd
      · have hw : y.2.1 + 3 ≤ T := run_pos w1 c5
        rw [ifb_t (isW_iff.2 w1), if_pos w1]
        unfold m_tested_j49 m_tested_j54
        rw [if_neg (show ¬ (1 : Int32) = 0 by decide), v_and hT hb c5, c11, bs]
        dsimp only
        rw [ifb_t (isW_iff.2 w1), xm_passWord hT hb c5, bs, w1, show wAnd.length = 3 from rfl, show m_strength (12 : Int32) = some (nn 2) from rfl, bs]
        obtain ⟨s3, l3, b1, b2⟩ := layDown_ev (l := 2) ht (by omega) (by omega) c3 c4 (by omega) c2
        obtain ⟨j1, j2, j3, j4⟩ := ld_inv (f := op') (l := 2) (by omega) y.1 y.2.2.1 c3 c4 c8
        rw [b1, bs]
        dsimp only
        rw [rq_inb (by omega) (by omega), ltp, ltp, nn_tn (by omega), li1, nn_add, show (12 : Int32) = nn 12 from id rfl]
        exact on 2 12 3 (by omega) (by omega) (Or.inl rfl) hw (by omega) s3 l3 b2
      · rw [ifb_f (fun h => w1 (isW_iff.1 h)), if_neg w1, v_or hT hb c5, c11, bs]
        dsimp only
        by_cases w2 : run b T y.2.1 = wOr
        · have hw : y.2.1 + 2 ≤ T := run_pos w2 c5
          rw [ifb_t (isW_iff.2 w2), if_pos w2]
          unfold m_tested_j49 m_tested_j54
          rw [if_neg (show ¬ (1 : Int32) = 0 by decide), v_and hT hb c5, c11, bs]
          dsimp only
          rw [ifb_f (fun h => w1 (isW_iff.1 h)), xm_passWord hT hb c5, bs, w2, show wOr.length = 2 from rfl, show m_strength (13 : Int32) = some (nn 1) from rfl, bs]
          obtain ⟨s3, l3, b1, b2⟩ := layDown_ev (l := 1) ht (by omega) (by omega) c3 c4 (by omega) c2
          obtain ⟨j1, j2, j3, j4⟩ := ld_inv (f := op') (l := 1) (by omega) y.1 y.2.2.1 c3 c4 c8
          rw [b1, bs]
          dsimp only
          rw [rq_inb (by omega) (by omega), ltp, ltp, nn_tn (by omega), li1, nn_add, show (13 : Int32) = nn 13 from id rfl]
          exact on 1 13 2 (by omega) (by omega) (Or.inr rfl) hw (by omega) s3 l3 b2
        · rw [ifb_f (fun h => w2 (isW_iff.1 h)), if_neg w2]
          unfold m_tested_j54
          rw [if_pos (show (0 : Int32) = 0 from rfl)]
          conv => rhs; unfold m_tested_l12
          rw [if_pos (show (0 : Int32) = 0 from rfl), inside_ev c3 c4 (by omega), bs]
          by_cases w3 : 91 ∈ y.1
          · rw [ifb_t (decide_eq_true w3), if_pos w3, xm_see hT hb c5, c11, bs]
            dsimp only
            rw [li0, m_fails_ev, bs, rq_bo0]
            exact ⟨_, _, _, _, _, _, _, _, rfl, c2.2.2⟩
          · rw [ifb_f (by simpa using w3), if_neg w3]
            obtain ⟨s3, l3, b1, b2⟩ := layDown_ev (l := 1) ht (by omega) (by omega) c3 c4 (by omega) c2
            rw [li1, b1, bs]
            exact ⟨s3, l3, nb', _, _, _, rfl, b2⟩
/-- the test of a clause -/
theorem xm_tested (hT : T ≤ 400) (hb : bR T b tx) (hy : byR T b) {t : Nat} (ht : t < 6) {sign0 : Nat → Int32} {s : RS} (h : okR T 0 s) {sign length opn : Nat → Int32} {nb dp od : Int32} (hg : gM t sign0 s.2.1 sign length) :
    rsT t sign0 (teL b T (faS b T 10) 401 true false s) (m_tested tx (nn T) sign length (nn s.1) (nn 0) nb (nn t) (nn s.2.2) dp opn od) := by
  have h1 := h.1
  rw [← tt_eq hT (n := 401) h (by omega)]
  unfold m_tested
  exact tt_ev hT hb hy ht 402 [] s FU opn sign length nb (by omega) (by unfold FU; omega) (fun o ho => by cases ho) trivial h hg
end ttM
