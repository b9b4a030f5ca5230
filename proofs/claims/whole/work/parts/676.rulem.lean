/-! a rule is read: the reference -/
def clM (t : Nat) (C : List (Nat × Nat × Nat)) (clause : Nat → Int32) : Prop := ∀ c x, C[c]? = some x → clause (48 * t + 4 * c) = nn x.1 ∧ clause (48 * t + 4 * c + 1) = nn x.2.1 ∧ clause (48 * t + 4 * c + 2) = (if x.2.1 = x.2.2 then -nn 1 else nn x.2.1) ∧ clause (48 * t + 4 * c + 3) = nn x.2.2
def kpC (t : Nat) (clause0 clause : Nat → Int32) : Prop := ∀ u, u < 6 → ¬ u = t → ∀ i, i < 48 → clause (48 * u + i) = clause0 (48 * u + i)
theorem kpC_up {t c k : Nat} {clause0 clause : Nat → Int32} {v : Int32} (h : kpC t clause0 clause) (hc : c < 12) (hk : k < 4) : kpC t clause0 (upd clause (48 * t + 4 * c + k) v) := fun u hu hn i hi => by
  rw [upd_o (by omega)]; exact h u hu hn i hi
abbrev BR : Type := Int32 × (Nat → Int32) × (Nat → Int32) × (Nat → Int32) × (Nat → Int32) × Int32 × Int32 × Int32 × Int32 × Int32 × (Nat → Int32) × Int32
def rsB (t : Nat) (sign0 clause0 : Nat → Int32) (clauses : Nat → Int32) (A : List (Nat × Nat)) (C : List (Nat × Nat × Nat)) (x : Except Nat (Nat × RS)) (r : Option BR) : Prop :=
  match x with
  | .ok z => ∃ sign' length' clause' nb dp opn od, r = some (nn 1, sign', length', clause', upd clauses t (nn (C.length + 1)), nn z.2.1, nn 0, nb, nn z.2.2.2, dp, opn, od) ∧ gM t sign0 z.2.2.1 sign' length' ∧ clM t (C ++ [(A.length, z.1, z.2.2.1.length)]) clause' ∧ kpC t clause0 clause'
  | .error F => ∃ sign' length' clause' nx nb md dp opn od, r = some (nn 0, sign', length', clause', clauses, nx, nn F, nb, md, dp, opn, od) ∧ kpM t sign0 sign' ∧ kpC t clause0 clause'
section rulem
variable {b tx : Nat → Int32} {T : Nat}
theorem xm_takesIf (hT : T ≤ 400) (hb : bR T b tx) {p : Nat} (hp : p ≤ T) : m_takesWord (26982 : Int64) tx (nn T) (nn p) = some (if run b T (skp b T p) = wIf then (nn 1, nn (skp b T p + 2)) else (nn 0, nn (skp b T p))) := by
  have hq := skp_le (b := b) hp
  unfold m_takesWord
  rw [show m_isWord (26982 : Int64) tx (nn T) (nn p) = some (b01 (isW b T wIf (skp b T p) = true), nn (skp b T p)) from w_if hT hb hp, bs]
  dsimp only
  generalize skp b T p = q at hq
  by_cases w : run b T q = wIf
  · rw [ifb_t (isW_iff.2 w), if_pos w, xm_passWord hT hb hq, bs, w]
    rfl
  · rw [ifb_f (fun h => w (isW_iff.1 h)), if_neg w]
    rfl
theorem xm_buy (hT : T ≤ 400) (hb : bR T b tx) (hy : byR T b) {t q m : Nat} (ht : t < 6) {sign0 clause0 sign length clause clauses opn : Nat → Int32} {nb dp od : Int32} {L : List (Nat × Nat)} {C : List (Nat × Nat × Nat)} (hw : run b T q = wBuy) (hq : q ≤ T)
    (ho : okR T 0 (q + 3, L, m)) (hg : gM t sign0 L sign length) (hC : C.length < 12) (hcs : clauses t = nn C.length) (hcl : clM t C clause) (hk : kpC t clause0 clause) :
    rsB t sign0 clause0 clauses L C (buS b T (q + 3, L, m)) (m_isBuyHere tx (nn T) sign length clause clauses (nn q) (nn 0) nb (nn t) (nn m) dp opn od) := by
  unfold m_isBuyHere
  rw [xm_passWord hT hb hq, bs, hw, show wBuy.length = 3 from rfl, rq_inb (by omega) (by omega), ltp, nn_tn (by omega), hcs, show (48 : Int32) = nn 48 from id rfl, show (4 : Int32) = nn 4 from id rfl, nn_mul, nn_mul, nn_add, rq_inb (by omega) (by omega), rq_inb (by omega) (by omega), ltp, nn_tn (by omega), hg.2.1]
  have hv := xm_sum hT hb hy ht (nb := nb) ho hg
  dsimp only at hv
  have bo : ∀ z, buS b T (q + 3, L, m) = Except.ok z → okR T 0 z.2 ∧ (q + 3, L, m).1 < z.2.1 ∧ cuOK (q + 3, L, m).2.1 z.1 z.2.2.1 := fun z e => bu_ok (b := b) hT ho e
  have k0 : kpC t clause0 (upd clause (48 * t + 4 * C.length) (nn L.length)) := kpC_up (k := 0) hk hC (by omega)
  unfold buS at bo ⊢
  cases hsm : smS b T (q + 3, L, m) with
  | error F =>
    rw [hsm] at hv
    obtain ⟨s', l', nx, nb', md, v1, v2⟩ := hv
    rw [v1, bs]
    dsimp only
    rw [ifn0]
    exact ⟨_, _, _, _, _, _, _, _, _, rfl, v2, k0⟩
  | ok s1 =>
    rw [hsm] at hv bo
    obtain ⟨sg, ln, nb', v1, v2⟩ := hv
    obtain ⟨⟨w1, w2, w3, w4⟩, w5⟩ := smS_ok hT ho hsm
    rw [v1, bs]
    dsimp only
    rw [ifn1, rq_inb (by omega) (by omega), li1, nn_add, rq_inb (by omega) (by omega), ltp, nn_tn (by omega), v2.2.1, show (2 : Int32) = nn 2 from id rfl, nn_add, rq_inb (by omega) (by omega), ltp, nn_tn (by omega), xm_takesIf hT hb w1, bs]
    have hqa := skp_le (b := b) w1
    have hqa2 := skp_ge (b := b) w1
    dsimp only at bo ⊢
    generalize skp b T s1.1 = q1 at hqa hqa2 bo
    have k1 := kpC_up (k := 1) (v := nn s1.2.1.length) k0 hC (by omega)
    have k2 := kpC_up (k := 2) (v := -nn 1) k1 hC (by omega)
    have hC1 : nn C.length + nn 1 = nn (C.length + 1) := nn_add _ _
    by_cases wi : run b T q1 = wIf
    · rw [if_pos wi] at bo
      rw [if_pos wi, if_pos wi]
      have hwi : q1 + 2 ≤ T := run_pos wi hqa
      have hoi : okR T 0 (q1 + 2, s1.2.1, s1.2.2) := ⟨hwi, by dsimp only; omega, w3, w4⟩
      have hte := xm_tested hT hb hy ht (nb := nb') (dp := dp) (od := od) (opn := opn) hoi v2
      dsimp only at hte ⊢
      rw [ifn1, rq_inb (by omega) (by omega), rq_inb (by omega) (by omega), ltp]
      have k3 := kpC_up (k := 2) (v := nn s1.2.1.length) k2 hC (by omega)
      cases htt : teL b T (faS b T 10) 401 true false (q1 + 2, s1.2.1, s1.2.2) with
      | error F =>
        rw [htt] at hte
        obtain ⟨s', l', nx, nb2, md, dp2, op2, od2, u1, u2⟩ := hte
        rw [u1, bs]
        dsimp only
        rw [ifn0]
        exact ⟨_, _, _, _, _, _, _, _, _, rfl, u2, k3⟩
      | ok s2 =>
        rw [htt] at hte bo
        obtain ⟨sg2, ln2, nb2, dp2, op2, od2, u1, u2⟩ := hte
        obtain ⟨E, f1, f2, f3, f4⟩ := ty_tst hT hoi htt
        have hlen : s2.2.1.length = s1.2.1.length + E.length := by rw [f1, List.length_append]
        obtain ⟨bo1, _, _⟩ := bo _ rfl
        have b1 := bo1.1
        have b2 := bo1.2.1
        dsimp only at b1 b2
        rw [u1, bs]
        dsimp only
        rw [ifn1, rq_inb (by omega) (by omega), show (3 : Int32) = nn 3 from id rfl, nn_add, rq_inb (by omega) (by omega), ltp, rq_inb (by omega) (by omega), rq_inb (by omega) (by omega), ltp, nn_tn (by omega), u2.2.1, hC1]
        refine ⟨sg2, ln2, _, nb2, dp2, op2, od2, rfl, u2, ?_, kpC_up (k := 3) k3 hC (by omega)⟩
        intro c x hx
        rcases app_get hx with ⟨e1, e2⟩ | ⟨e1, e2⟩
        · have := hcl c x e2
          rw [upd_o (by omega), upd_o (by omega), upd_o (by omega), upd_o (by omega), upd_o (by omega), upd_o (by omega), upd_o (by omega), upd_o (by omega), upd_o (by omega), upd_o (by omega), upd_o (by omega), upd_o (by omega), upd_o (by omega), upd_o (by omega), upd_o (by omega), upd_o (by omega), upd_o (by omega), upd_o (by omega), upd_o (by omega), upd_o (by omega)]
          exact this
        · subst e1; subst e2
          dsimp only
          refine ⟨?_, ?_, ?_, upd_s _ _ _⟩
          · rw [upd_o (by omega), upd_o (by omega), upd_o (by omega), upd_o (by omega), upd_s]
          · rw [upd_o (by omega), upd_o (by omega), upd_o (by omega), upd_s]
          · rw [upd_o (by omega), upd_s, if_neg (by omega)]
    · rw [if_neg wi] at bo
      rw [if_neg wi, if_neg wi]
      dsimp only
      rw [ifn0, rq_inb (by omega) (by omega), show (3 : Int32) = nn 3 from id rfl, nn_add, rq_inb (by omega) (by omega), ltp, rq_inb (by omega) (by omega), rq_inb (by omega) (by omega), ltp, nn_tn (by omega), hC1]
      refine ⟨sg, ln, _, nb', dp, opn, od, rfl, v2, ?_, kpC_up (k := 3) k2 hC (by omega)⟩
      intro c x hx
      rcases app_get hx with ⟨e1, e2⟩ | ⟨e1, e2⟩
      · have := hcl c x e2
        rw [upd_o (by omega), upd_o (by omega), upd_o (by omega), upd_o (by omega), upd_o (by omega), upd_o (by omega), upd_o (by omega), upd_o (by omega), upd_o (by omega), upd_o (by omega), upd_o (by omega), upd_o (by omega), upd_o (by omega), upd_o (by omega), upd_o (by omega), upd_o (by omega)]
        exact this
      · subst e1; subst e2
        dsimp only
        refine ⟨?_, ?_, ?_, upd_s _ _ _⟩
        · rw [upd_o (by omega), upd_o (by omega), upd_o (by omega), upd_s]
        · rw [upd_o (by omega), upd_o (by omega), upd_s]
        · rw [upd_o (by omega), upd_s, if_pos rfl]
abbrev LR : Type := Int32 × (Nat → Int32) × (Nat → Int32) × (Nat → Int32) × (Nat → Int32) × (Nat → Int32) × Int32 × Int32 × Int32 × Int32 × Int32 × Int32 × (Nat → Int32) × Int32
def kpN (t : Nat) (c0 c : Nat → Int32) : Prop := ∀ u, ¬ u = t → c u = c0 u
def rsLn (t : Nat) (sign0 clause0 clauses0 rd : Nat → Int32) (A : List (Nat × Nat)) (C : List (Nat × Nat × Nat)) (x : Except Nat (Nat × RS)) (r : Option LR) : Prop :=
  match x with
  | .ok z => ∃ sign' length' clause' clauses' nb dp opn od, r = some (nn 1, sign', length', clause', clauses', rd, nn z.2.1, nn 0, nb, nn z.2.2.2, dp, nn (C.length + 1), opn, od) ∧ gM t sign0 z.2.2.1 sign' length' ∧ clM t (C ++ [(A.length, z.1, z.2.2.1.length)]) clause' ∧ kpC t clause0 clause' ∧ clauses' t = nn (C.length + 1) ∧ kpN t clauses0 clauses'
  | .error F => ∃ sign' length' clause' clauses' nx nb md dp li opn od, r = some (nn 0, sign', length', clause', clauses', rd, nx, nn F, nb, md, dp, li, opn, od) ∧ kpM t sign0 sign' ∧ kpC t clause0 clause' ∧ kpN t clauses0 clauses'
theorem xm_clause (hT : T ≤ 400) (hb : bR T b tx) (hy : byR T b) {t : Nat} (ht : t < 6) {sign0 clause0 clauses0 sign length clause clauses rd opn : Nat → Int32} {nb dp od : Int32} {s : RS} {C : List (Nat × Nat × Nat)}
    (h : okR T 0 s) (hg : gM t sign0 s.2.1 sign length) (hC : C.length ≤ 12) (hcs : clauses t = nn C.length) (hcl : clM t C clause) (hk : kpC t clause0 clause) (hn : kpN t clauses0 clauses) :
    rsLn t sign0 clause0 clauses0 rd s.2.1 C (ruC b T C.length s) (m_clauseHere tx (nn T) sign length clause clauses rd (nn s.1) (nn 0) nb (nn t) (nn s.2.2) dp (nn C.length) opn od) := by
  obtain ⟨h1, h2, h3, h4⟩ := h
  have hq := skp_le (b := b) h1
  have hq2 := skp_ge (b := b) h1
  have hqq := skp_skp (b := b) (T := T) (p := s.1)
  unfold m_clauseHere ruC
  rw [xm_see hT hb h1, bs]
  dsimp only
  generalize skp b T s.1 = q at hq hq2 hqq
  rw [show (6 : Int32) = nn 6 from id rfl, ifeq_f (by omega) (by omega) (by omega)]
  unfold m_clauseHere_j24
  rw [if_pos (show (0 : Int32) = 0 from rfl), show m_isWord (6452601 : Int64) tx (nn T) (nn q) = some (b01 (isW b T wBuy (skp b T q) = true), nn (skp b T q)) from w_buy hT hb hq, hqq, bs]
  dsimp only
  by_cases w : run b T q = wBuy
  · rw [ifb_t (isW_iff.2 w), if_pos w]
    have hw : q + 3 ≤ T := run_pos w hq
    unfold m_clauseHere_j56
    rw [if_pos (show (0 : Int32) = 0 from rfl), show (12 : Int32) = nn 12 from id rfl]
    by_cases c12 : C.length = 12
    · rw [ifeq_t c12, if_pos c12, show (4 : Int32) = nn 4 from id rfl, m_fails_ev, bs, rq_bo0]
      exact ⟨_, _, _, _, _, _, _, _, _, _, _, rfl, hg.2.2, hk, hn⟩
    · rw [ifeq_f c12 (by omega) (by omega), if_neg c12, ltp, if_pos (show (0 : Int32) = 0 from rfl), li1, nn_add]
      have hv := xm_buy hT hb hy ht (nb := nb) (dp := dp) (od := od) (opn := opn) (m := s.2.2) (L := s.2.1) w hq ⟨hw, by dsimp only; omega, h3, h4⟩ hg (by omega) hcs hcl hk
      cases hbu : buS b T (q + 3, s.2.1, s.2.2) with
      | error F =>
        rw [hbu] at hv
        obtain ⟨a1, a2, a3, a4, a5, a6, a7, a8, a9, v1, v2, v3⟩ := hv
        rw [v1, bs, rq_bo0]
        exact ⟨_, _, _, _, _, _, _, _, _, _, _, rfl, v2, v3, hn⟩
      | ok z =>
        rw [hbu] at hv
        obtain ⟨a1, a2, a3, a4, a5, a6, a7, v1, v2, v3, v4⟩ := hv
        rw [v1, bs, rq_bo1]
        exact ⟨_, _, _, _, _, _, _, _, rfl, v2, v3, v4, upd_s _ _ _, fun u hu => by show upd clauses t _ u = _; rw [upd_o hu]; exact hn u hu⟩
  · rw [ifb_f (fun h => w (isW_iff.1 h)), if_neg w, li0, m_fails_ev, bs, rq_bo0]
    exact ⟨_, _, _, _, _, _, _, _, _, _, _, rfl, hg.2.2, hk, hn⟩
abbrev AR : Type := Int32 × Int32 × (Nat → Int32) × (Nat → Int32) × (Nat → Int32) × (Nat → Int32) × (Nat → Int32) × Int32 × Int32 × Int32 × Int32 × Int32 × Int32 × (Nat → Int32) × Int32
def rsAl (t : Nat) (sign0 clause0 clauses0 rd : Nat → Int32) (x : Except Nat (List (Nat × Nat × Nat) × RS)) (r : Option AR) : Prop :=
  match x with
  | .ok y => ∃ sign' length' clause' clauses' nx nb md dp li opn od, r = some (nn 1, nn 0, sign', length', clause', clauses', rd, nx, nn 0, nb, md, dp, li, opn, od) ∧ gM t sign0 y.2.2.1 sign' length' ∧ clM t y.1 clause' ∧ kpC t clause0 clause' ∧ clauses' t = nn y.1.length ∧ kpN t clauses0 clauses'
  | .error F => ∃ sign' length' clause' clauses' nx nb md dp li opn od, r = some (nn 0, nn 0, sign', length', clause', clauses', rd, nx, nn F, nb, md, dp, li, opn, od) ∧ kpM t sign0 sign' ∧ kpC t clause0 clause' ∧ kpN t clauses0 clauses'
theorem xm_reads (hT : T ≤ 400) (hb : bR T b tx) (hy : byR T b) {t : Nat} (ht : t < 6) {sign0 clause0 clauses0 rd : Nat → Int32} : ∀ (n : Nat) (C : List (Nat × Nat × Nat)) (s : RS) (N : Nat) (sign length clause clauses opn : Nat → Int32) (nb dp od : Int32), C.length ≤ 12 → 12 < C.length + n → n < N → okR T 0 s → gM t sign0 s.2.1 sign length → clauses t = nn C.length → clM t C clause → kpC t clause0 clause → kpN t clauses0 clauses →
    rsAl t sign0 clause0 clauses0 rd (ruS b T n C s) ((m_clauseHere tx (nn T) sign length clause clauses rd (nn s.1) (nn 0) nb (nn t) (nn s.2.2) dp (nn C.length) opn od).bind (fun q14 => m_readsAll_l35 tx (nn T) (nn t) N q14.1 q14.2.1 q14.2.2.1 q14.2.2.2.1 q14.2.2.2.2.1 q14.2.2.2.2.2.1 q14.2.2.2.2.2.2.1 q14.2.2.2.2.2.2.2.1 q14.2.2.2.2.2.2.2.2.1 q14.2.2.2.2.2.2.2.2.2.1 q14.2.2.2.2.2.2.2.2.2.2.1 q14.2.2.2.2.2.2.2.2.2.2.2.1 q14.2.2.2.2.2.2.2.2.2.2.2.2.1 q14.2.2.2.2.2.2.2.2.2.2.2.2.2)) := by
  intro n
  induction n with
  | zero => intro C s N sign length clause clauses opn nb dp od h1 h2; omega
  | succ n ih =>
    intro C s N sign length clause clauses opn nb dp od h1 h2 h3 h hg hcs hcl hk hn
    match N, h3 with
    | N + 1, h3 =>
    have hv := xm_clause hT hb hy ht (rd := rd) (nb := nb) (dp := dp) (od := od) (opn := opn) h hg h1 hcs hcl hk hn
    unfold ruS
    cases hrc : ruC b T C.length s with
    | error F =>
      have hF := rc_err hT h hrc
      rw [hrc] at hv
      obtain ⟨a1, a2, a3, a4, a5, a6, a7, a8, a9, a10, a11, v1, v2, v3, v4⟩ := hv
      rw [v1, bs]
      dsimp only
      unfold m_readsAll_l35
      rw [ifn0]
      unfold m_readsAll_j66
      rw [ifn0, if_neg (show ¬ nn F = 0 by rw [li0, nn_inj (by omega) (by omega)]; omega)]
      exact ⟨_, _, _, _, _, _, _, _, _, _, _, rfl, v2, v3, v4⟩
    | ok z =>
      obtain ⟨⟨z1, z2, z3, z4⟩, zlt, zcu, zc12⟩ := rc_ok hT h hrc
      rw [hrc] at hv
      obtain ⟨sg, ln, cl, cs, nb', dp', op', od', v1, v2, v3, v4, v5, v6⟩ := hv
      rw [v1, bs]
      dsimp only
      conv => rhs; unfold m_readsAll_l35
      rw [ifn1, xm_see hT hb z1, bs]
      dsimp only
      have hz := skp_le (b := b) z1
      have hz2 := skp_ge (b := b) z1
      have hzz := skp_skp (b := b) (T := T) (p := z.2.1)
      generalize skp b T z.2.1 = qz at hz hz2 hzz
      have hlen : (C ++ [(s.2.1.length, z.1, z.2.2.1.length)]).length = C.length + 1 := by rw [List.length_append, List.length_singleton]
      rw [show (59 : Int32) = nn 59 from id rfl]
      by_cases e59 : seB b T qz = nn 59
      · have hlt := seB_lt (b := b) (by omega) e59
        rw [if_pos e59, if_pos e59, ltp, li1, nn_add]
        have := ih (C ++ [(s.2.1.length, z.1, z.2.2.1.length)]) (qz + 1, z.2.2.1, z.2.2.2) N sg ln cl cs op' nb' dp' od' (by rw [hlen]; omega) (by rw [hlen]; omega) (by omega) ⟨by dsimp only; omega, by dsimp only; omega, z3, z4⟩ v2 (by rw [hlen]; exact v5) v3 v4 v6
        rw [hlen] at this
        exact this
      · rw [if_neg e59, if_neg e59]
        unfold m_readsAll_j66
        rw [ifn1, xm_see hT hb hz, hzz, bs]
        dsimp only
        by_cases eT : qz < T
        · rw [if_pos eT, if_neg (show ¬ seB b T qz = (-1 : Int32) from fun h => (seB_end.1 h) eT), li0, m_fails_ev, bs]
          dsimp only
          rw [if_neg (show ¬ nn (1 + 8 * qz + 0) = nn 0 by rw [nn_inj (by omega) (by omega)]; omega)]
          exact ⟨_, _, _, _, _, _, _, _, _, _, _, rfl, v2.2.2, v4, v6⟩
        · rw [if_neg eT, if_pos (show seB b T qz = (-1 : Int32) from seB_end.2 eT), ifn0]
          exact ⟨_, _, _, _, _, _, _, _, _, _, _, rfl, v2, v3, v4, by rw [hlen]; exact v5, v6⟩
end rulem
