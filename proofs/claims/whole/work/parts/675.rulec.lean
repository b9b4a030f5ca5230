/-! a rule is read: the class -/
def wBuy : List Nat := [98, 117, 121]
def wIf : List Nat := [105, 102]
section rulec
variable {b tx : Nat → Int32} {T : Nat}
/-- a clause behind its first word: where its test begins, and on -/
def buS (b : Nat → Int32) (T : Nat) (s : RS) : Except Nat (Nat × RS) :=
  match smS b T s with
  | .error F => Except.error F
  | .ok s1 => if run b T (skp b T s1.1) = wIf then
      (match teL b T (faS b T 10) 401 true false (skp b T s1.1 + 2, s1.2.1, s1.2.2) with | .error F => Except.error F | .ok s2 => Except.ok (s1.2.1.length, s2))
    else Except.ok (s1.2.1.length, (skp b T s1.1, s1.2.1, s1.2.2))
def ruC (b : Nat → Int32) (T c : Nat) (s : RS) : Except Nat (Nat × RS) :=
  if run b T (skp b T s.1) = wBuy then (if c = 12 then Except.error (1 + 8 * skp b T s.1 + 4) else buS b T (skp b T s.1 + 3, s.2.1, s.2.2)) else Except.error (1 + 8 * skp b T s.1)
def ruS (b : Nat → Int32) (T : Nat) : Nat → List (Nat × Nat × Nat) → RS → Except Nat (List (Nat × Nat × Nat) × RS)
  | 0, _, _ => Except.error 0
  | n + 1, C, s => match ruC b T C.length s with
    | .error F => Except.error F
    | .ok z => if seB b T (skp b T z.2.1) = nn 59 then ruS b T n (C ++ [(s.2.1.length, z.1, z.2.2.1.length)]) (skp b T z.2.1 + 1, z.2.2.1, z.2.2.2)
      else if skp b T z.2.1 < T then Except.error (1 + 8 * skp b T z.2.1) else Except.ok (C ++ [(s.2.1.length, z.1, z.2.2.1.length)], z.2)
/-- what a clause leaves -/
def cuOK (A : List (Nat × Nat)) (tf : Nat) (L : List (Nat × Nat)) : Prop := ∃ D E, L = A ++ (D ++ E) ∧ tf = A.length + D.length ∧ tcL D [] = some [false] ∧ (E = [] ∨ (0 < E.length ∧ tcL E [] = some [true]))
theorem bu_err (hT : T ≤ 400) {j F : Nat} {s : RS} (h : okR T j s) (e : buS b T s = Except.error F) : 0 < F ∧ F < 100000 := by
  unfold buS at e
  cases hs : smS b T s with
  | error F0 => rw [hs] at e; cases e; exact smS_err hT h hs
  | ok s1 =>
    rw [hs] at e
    obtain ⟨⟨o1, o2, o3, o4⟩, o5⟩ := smS_ok hT h hs
    have hq := skp_le (b := b) o1
    have hq2 := skp_ge (b := b) o1
    dsimp only at e
    by_cases w : run b T (skp b T s1.1) = wIf
    · rw [if_pos w] at e
      have hw : skp b T s1.1 + 2 ≤ T := run_pos w hq
      have ho : okR T j (skp b T s1.1 + 2, s1.2.1, s1.2.2) := ⟨hw, by dsimp only; omega, o3, o4⟩
      cases ht : teL b T (faS b T 10) 401 true false (skp b T s1.1 + 2, s1.2.1, s1.2.2) with
      | error F0 => rw [ht] at e; cases e; exact (gd_te (b := b) hT (gd_fa (b := b) hT 10) 401 true false j _ ho (by dsimp only; omega)).1 _ ht
      | ok s2 => rw [ht] at e; cases e
    · rw [if_neg w] at e; cases e
theorem bu_ok (hT : T ≤ 400) {j : Nat} {s : RS} {z : Nat × RS} (h : okR T j s) (e : buS b T s = Except.ok z) : okR T j z.2 ∧ s.1 < z.2.1 ∧ cuOK s.2.1 z.1 z.2.2.1 := by
  unfold buS at e
  cases hs : smS b T s with
  | error F0 => rw [hs] at e; cases e
  | ok s1 =>
    rw [hs] at e
    obtain ⟨⟨o1, o2, o3, o4⟩, o5⟩ := smS_ok hT h hs
    obtain ⟨D, d1, d2, d3⟩ := ty_sum0 hT h hs
    have hq := skp_le (b := b) o1
    have hq2 := skp_ge (b := b) o1
    dsimp only at e
    by_cases w : run b T (skp b T s1.1) = wIf
    · rw [if_pos w] at e
      have hw : skp b T s1.1 + 2 ≤ T := run_pos w hq
      have ho : okR T j (skp b T s1.1 + 2, s1.2.1, s1.2.2) := ⟨hw, by dsimp only; omega, o3, o4⟩
      cases ht : teL b T (faS b T 10) 401 true false (skp b T s1.1 + 2, s1.2.1, s1.2.2) with
      | error F0 => rw [ht] at e; cases e
      | ok s2 =>
        rw [ht] at e
        cases e
        obtain ⟨a1, a2, a3⟩ := (gd_te (b := b) hT (gd_fa (b := b) hT 10) 401 true false j _ ho (by dsimp only; omega)).2 _ ht
        obtain ⟨E, f1, f2, f3, f4⟩ := ty_tst hT ho ht
        dsimp only at a2 f1 ⊢
        refine ⟨a1, by omega, D, E, by rw [f1, d1]; simp, by rw [d1, List.length_append], d3, Or.inr ⟨f4, f3⟩⟩
    · rw [if_neg w] at e
      cases e
      exact ⟨⟨hq, by dsimp only; omega, o3, o4⟩, by dsimp only; omega, D, [], by dsimp only; rw [d1]; simp, by dsimp only; rw [d1, List.length_append], d3, Or.inl rfl⟩
theorem rc_err (hT : T ≤ 400) {c F : Nat} {s : RS} (h : okR T 0 s) (e : ruC b T c s = Except.error F) : 0 < F ∧ F < 100000 := by
  have hq := skp_le (b := b) h.1
  have hq2 := skp_ge (b := b) h.1
  unfold ruC at e
  by_cases w : run b T (skp b T s.1) = wBuy
  · rw [if_pos w] at e
    have hw : skp b T s.1 + 3 ≤ T := run_pos w hq
    by_cases c12 : c = 12
    · rw [if_pos c12] at e; cases e; omega
    · rw [if_neg c12] at e
      exact bu_err hT (j := 0) (s := (skp b T s.1 + 3, s.2.1, s.2.2)) ⟨hw, by have := h.2.1; dsimp only; omega, h.2.2.1, h.2.2.2⟩ e
  · rw [if_neg w] at e; cases e; omega
theorem rc_ok (hT : T ≤ 400) {c : Nat} {s : RS} {z : Nat × RS} (h : okR T 0 s) (e : ruC b T c s = Except.ok z) : okR T 0 z.2 ∧ s.1 < z.2.1 ∧ cuOK s.2.1 z.1 z.2.2.1 ∧ ¬ c = 12 := by
  have hq := skp_le (b := b) h.1
  have hq2 := skp_ge (b := b) h.1
  unfold ruC at e
  by_cases w : run b T (skp b T s.1) = wBuy
  · rw [if_pos w] at e
    have hw : skp b T s.1 + 3 ≤ T := run_pos w hq
    by_cases c12 : c = 12
    · rw [if_pos c12] at e; cases e
    · rw [if_neg c12] at e
      obtain ⟨a1, a2, a3⟩ := bu_ok hT (j := 0) (s := (skp b T s.1 + 3, s.2.1, s.2.2)) ⟨hw, by have := h.2.1; dsimp only; omega, h.2.2.1, h.2.2.2⟩ e
      dsimp only at a2
      exact ⟨a1, by omega, a3, c12⟩
  · rw [if_neg w] at e; cases e
theorem xc_next (hT : T ≤ 400) (hb : bR T b tx) {p : Nat} (hp : p ≤ T) : mCursor_takeNextClause tx (nn T) (nn p) (nn 0) = some (if seB b T (skp b T p) = nn 59 then (nn 1, nn (skp b T p + 1), nn 0) else if skp b T p < T then (nn 0, nn (skp b T p), nn (1 + 8 * skp b T p)) else (nn 0, nn (skp b T p), nn 0)) := by
  have hq := skp_le (b := b) hp
  have hqq := skp_skp (b := b) (T := T) (p := p)
  unfold mCursor_takeNextClause
  rw [xc_takeSign hT hb okS_1 hp, bs]
  generalize skp b T p = q at hq hqq
  unfold tsS tsS
  by_cases e : seB b T q = nn 59
  · rw [if_pos e, if_pos e]
    dsimp only
    rw [if_neg (show ¬ nn 0 = (-1 : Int32) by decide)]
    rfl
  · rw [if_neg e, if_neg e]
    dsimp only
    rw [if_pos (show -nn 1 = (-1 : Int32) from rfl), xc_see hT hb hq, hqq, bs]
    dsimp only
    by_cases e2 : q < T
    · rw [if_pos e2, if_neg (show ¬ seB b T q = (-1 : Int32) from fun h => (seB_end.1 h) e2), li0, xc_fail (by omega), bs]
      rfl
    · rw [if_neg e2, if_pos (show seB b T q = (-1 : Int32) from seB_end.2 e2)]
      rfl
def clC (C : List (Nat × Nat × Nat)) (sf tf tt : Nat → Int32) : Prop := ∀ c x, C[c]? = some x → sf c = nn x.1 ∧ tf c = nn x.2.1 ∧ tt c = nn x.2.2
abbrev KR : Type := Int32 × Int32 × (Nat → Int32) × Int32 × (Nat → Int32) × (Nat → Int32) × (Nat → Int32) × Int32 × Int32 × Int32
def rsK (x : Except Nat (List (Nat × Nat × Nat) × RS)) (r : Option KR) : Prop :=
  match x with
  | .ok y => ∃ at' st' sf tf tt pt rt', r = some (at', nn 0, st', nn y.2.2.1.length, sf, tf, tt, nn y.1.length, pt, rt') ∧ stC y.2.2.1 st' ∧ rtC y.2.2.1 rt' ∧ clC y.1 sf tf tt
  | .error F => ∃ at' st' sz sf tf tt cl pt rt', r = some (at', nn F, st', sz, sf, tf, tt, cl, pt, rt')
theorem l8_0 {N : Nat} {x3 at' F' sz cl pt rt : Int32} {st sf tf tt : Nat → Int32} : mRuleReader_read_l8 tx (nn T) (N + 1) (0 : Int32) x3 at' F' st sz sf tf tt cl pt rt = some (at', F', st, sz, sf, tf, tt, cl, pt, rt) := by
  unfold mRuleReader_read_l8
  by_cases e : (12 : Int32) < x3
  · rw [if_pos e]
  · rw [if_neg e, if_pos rfl]
theorem j109_fl {N c F : Nat} {at' sz cl pt rt : Int32} {st sf tf tt : Nat → Int32} (hc : c < 12) (hF : 0 < F) (hF2 : F < 100000) :
    ∃ at1 st1 sz1 sf1 tf1 tt1 cl1 pt1 rt1, mRuleReader_read_j109 (mRuleReader_read_l8 tx (nn T) (N + 1)) (nn c) tx (nn T) at' (nn F) st sz sf tf tt cl pt rt = some (at1, nn F, st1, sz1, sf1, tf1, tt1, cl1, pt1, rt1) := by
  unfold mRuleReader_read_j109
  rw [rq_inb (by omega) (by omega), ltp, ltp, xc_isFine hF2, bs, ifb_f (by simp; omega), l8_0]
  exact ⟨_, _, _, _, _, _, _, _, _, rfl⟩
theorem xc_read (hT : T ≤ 400) (hb : bR T b tx) : ∀ (n : Nat) (C : List (Nat × Nat × Nat)) (s : RS) (N : Nat) (st sf tf tt : Nat → Int32) (rt : Int32), C.length ≤ 12 → 12 < C.length + n → n < N → okR T 0 s → stC s.2.1 st → rtC s.2.1 rt → clC C sf tf tt →
    rsK (ruS b T n C s) (mRuleReader_read_l8 tx (nn T) N (nn 1) (nn C.length) (nn s.1) (nn 0) st (nn s.2.1.length) sf tf tt (nn C.length) (nn s.2.2) rt) := by
  have hL : ∀ c, c ∈ ([[98, 117, 121]] : List (List Nat)) → ∀ d, d ∈ c → 97 ≤ d ∧ d ≤ 122 := by decide
  have hL2 : ∀ c, c ∈ ([[105, 102]] : List (List Nat)) → ∀ d, d ∈ c → 97 ≤ d ∧ d ≤ 122 := by decide
  intro n
  induction n with
  | zero => intro C s N st sf tf tt rt h1 h2; omega
  | succ n ih =>
    intro C s N st sf tf tt rt h1 h2 h3 h hs hr hcl
    match N, h3 with
    | N + 2, h3 =>
    obtain ⟨o1, o2, o3, o4⟩ := h
    have h0 : okR T 0 s := ⟨o1, o2, o3, o4⟩
    have hq := skp_le (b := b) o1
    have hq2 := skp_ge (b := b) o1
    have hqq := skp_skp (b := b) (T := T) (p := s.1)
    conv => rhs; unfold mRuleReader_read_l8
    rw [show (12 : Int32) = nn 12 from id rfl, iflt_f (by omega) (by omega), ifn1, xc_see hT hb o1, bs]
    dsimp only
    rw [xc_takeWord hT hb okS_2 hL (by decide) hq, hqq, bs]
    unfold ruS
    cases hrc : ruC b T C.length s with
    | error F =>
      have hF := rc_err hT h0 hrc
      unfold ruC at hrc
      generalize skp b T s.1 = q at hq hq2 hqq hrc
      unfold twS twS
      by_cases w : run b T q = wBuy
      · rw [if_pos w] at hrc
        have hw : q + 3 ≤ T := run_pos w hq
        rw [if_pos (show run b T q = [98, 117, 121] from w), show ([98, 117, 121] : List Nat).length = 3 from rfl]
        dsimp only
        rw [if_neg (show ¬ nn 0 = (-1 : Int32) by decide)]
        by_cases c12 : C.length = 12
        · rw [if_pos c12] at hrc
          cases hrc
          rw [iflt_f (by omega) (by omega), show (4 : Int32) = nn 4 from id rfl, xc_fail (by omega), bs, show flt 0 4 q = 1 + 8 * q + 4 from rfl]
          exact ⟨_, _, _, _, _, _, _, _, _, rfl⟩
        · rw [if_neg c12] at hrc
          rw [iflt_t (by omega) (by omega), rq_inb (by omega) (by omega), ltp]
          have ho : okR T 0 (q + 3, s.2.1, s.2.2) := ⟨hw, by dsimp only; omega, o3, o4⟩
          have hv := xc_sum hT hb ho hs hr
          dsimp only at hv
          unfold buS at hrc
          cases hsm : smS b T (q + 3, s.2.1, s.2.2) with
          | error F0 =>
            rw [hsm] at hrc hv
            cases hrc
            obtain ⟨p', st', s', m', rt', v1, v2, v3, v4, v5⟩ := hv
            rw [v1, bs]
            dsimp only
            rw [rq_inb (by omega) (by omega), ltp, xc_isFine hF.2, bs, ifb_f (by simp; omega)]
            exact j109_fl (by omega) hF.1 hF.2
          | ok s1 =>
            rw [hsm] at hrc hv
            obtain ⟨st', rt', v1, v2, v3⟩ := hv
            obtain ⟨⟨w1, w2, w3, w4⟩, w5⟩ := smS_ok hT ho hsm
            have hqa := skp_le (b := b) w1
            have hqa2 := skp_ge (b := b) w1
            dsimp only at hrc
            rw [v1, bs]
            dsimp only
            rw [rq_inb (by omega) (by omega), ltp, show mCursor_isFine (nn 0) = some (nn 1) from rfl, bs, ifn1, xc_takeWord hT hb okS_6 hL2 (by decide) w1, bs]
            generalize skp b T s1.1 = q1 at hqa hqa2 hrc
            unfold twS twS
            by_cases wi : run b T q1 = wIf
            · rw [if_pos wi] at hrc
              have hwi : q1 + 2 ≤ T := run_pos wi hqa
              have hoi : okR T 0 (q1 + 2, s1.2.1, s1.2.2) := ⟨hwi, by dsimp only; omega, w3, w4⟩
              have hte := xc_test hT hb hoi v2 v3
              dsimp only at hte
              rw [if_pos (show run b T q1 = [105, 102] from wi), show ([105, 102] : List Nat).length = 2 from rfl]
              dsimp only
              rw [if_neg (show ¬ nn 0 = (-1 : Int32) by decide)]
              cases ht : teL b T (faS b T 10) 401 true false (q1 + 2, s1.2.1, s1.2.2) with
              | error F0 =>
                rw [ht] at hrc hte
                cases hrc
                obtain ⟨p', st'', s', m', rt'', u1, u2, u3, u4, u5⟩ := hte
                rw [u1, bs]
                exact j109_fl (by omega) hF.1 hF.2
              | ok s2 => rw [ht] at hrc; cases hrc
            · rw [if_neg wi] at hrc; cases hrc
      · rw [if_neg w] at hrc
        cases hrc
        rw [if_neg (show ¬ run b T q = [98, 117, 121] from w)]
        dsimp only
        rw [if_pos (show -nn 1 = (-1 : Int32) from rfl), li0, xc_fail (by omega), bs, show flt 0 0 q = 1 + 8 * q from rfl]
        exact ⟨_, _, _, _, _, _, _, _, _, rfl⟩
    | ok z =>
      obtain ⟨⟨z1, z2, z3, z4⟩, zlt, zcu, zc12⟩ := rc_ok hT h0 hrc
      unfold ruC at hrc
      have hrc' := hrc
      generalize skp b T s.1 = q at hq hq2 hqq hrc
      by_cases w : run b T q = wBuy
      · rw [if_pos w, if_neg zc12] at hrc
        have hw : q + 3 ≤ T := run_pos w hq
        have ho : okR T 0 (q + 3, s.2.1, s.2.2) := ⟨hw, by dsimp only; omega, o3, o4⟩
        have hv := xc_sum hT hb ho hs hr
        dsimp only at hv
        -- behind the clause
        have fin : ∀ (st1 : Nat → Int32) (rt1 : Int32), stC z.2.2.1 st1 → rtC z.2.2.1 rt1 → rsK (if seB b T (skp b T z.2.1) = nn 59 then ruS b T n (C ++ [(s.2.1.length, z.1, z.2.2.1.length)]) (skp b T z.2.1 + 1, z.2.2.1, z.2.2.2) else if skp b T z.2.1 < T then Except.error (1 + 8 * skp b T z.2.1) else Except.ok (C ++ [(s.2.1.length, z.1, z.2.2.1.length)], z.2))
            (mRuleReader_read_j109 (mRuleReader_read_l8 tx (nn T) (N + 1)) (nn C.length) tx (nn T) (nn z.2.1) (nn 0) st1 (nn z.2.2.1.length) (upd sf C.length (nn s.2.1.length)) (upd tf C.length (nn z.1)) tt (nn C.length) (nn z.2.2.2) rt1) := by
          intro st1 rt1 g1 g2
          unfold mRuleReader_read_j109
          rw [rq_inb (by omega) (by omega), ltp, ltp, show mCursor_isFine (nn 0) = some (nn 1) from rfl, bs, ifn1, xc_next hT hb z1, bs, nn_tn (by omega), li1, nn_add]
          have hz := skp_le (b := b) z1
          have hz2 := skp_ge (b := b) z1
          generalize skp b T z.2.1 = qz at hz hz2
          have hcl' : clC (C ++ [(s.2.1.length, z.1, z.2.2.1.length)]) (upd sf C.length (nn s.2.1.length)) (upd tf C.length (nn z.1)) (upd tt C.length (nn z.2.2.1.length)) := by
            intro c x hx
            rcases app_get hx with ⟨e1, e2⟩ | ⟨e1, e2⟩
            · rw [upd_o (by omega), upd_o (by omega), upd_o (by omega)]; exact hcl c x e2
            · rw [e1, e2, upd_s, upd_s, upd_s]; exact ⟨rfl, rfl, rfl⟩
          have hlen : (C ++ [(s.2.1.length, z.1, z.2.2.1.length)]).length = C.length + 1 := by rw [List.length_append, List.length_singleton]
          by_cases e59 : seB b T qz = nn 59
          · have hlt := seB_lt (b := b) (by omega) e59
            rw [if_pos e59, if_pos e59]
            dsimp only
            rw [ifn1]
            have := ih (C ++ [(s.2.1.length, z.1, z.2.2.1.length)]) (qz + 1, z.2.2.1, z.2.2.2) (N + 1) st1 _ _ _ rt1 (by rw [hlen]; omega) (by rw [hlen]; omega) (by omega) ⟨by dsimp only; omega, by dsimp only; omega, z3, z4⟩ g1 g2 hcl'
            rw [hlen] at this
            exact this
          · rw [if_neg e59, if_neg e59]
            by_cases eT : qz < T
            · rw [if_pos eT, if_pos eT]
              dsimp only
              rw [ifn0, l8_0]
              exact ⟨_, _, _, _, _, _, _, _, _, rfl⟩
            · rw [if_neg eT, if_neg eT]
              dsimp only
              rw [ifn0, l8_0]
              exact ⟨_, st1, _, _, _, _, rt1, by rw [hlen], g1, g2, hcl'⟩
        unfold twS twS
        rw [if_pos (show run b T q = [98, 117, 121] from w), show ([98, 117, 121] : List Nat).length = 3 from rfl]
        dsimp only
        rw [if_neg (show ¬ nn 0 = (-1 : Int32) by decide), iflt_t (by omega) (by omega), rq_inb (by omega) (by omega), ltp]
        unfold buS at hrc
        cases hsm : smS b T (q + 3, s.2.1, s.2.2) with
        | error F0 => rw [hsm] at hrc; cases hrc
        | ok s1 =>
          rw [hsm] at hrc hv
          obtain ⟨st', rt', v1, v2, v3⟩ := hv
          obtain ⟨⟨w1, w2, w3, w4⟩, w5⟩ := smS_ok hT ho hsm
          have hqa := skp_le (b := b) w1
          have hqa2 := skp_ge (b := b) w1
          dsimp only at hrc
          rw [v1, bs]
          dsimp only
          rw [rq_inb (by omega) (by omega), ltp, show mCursor_isFine (nn 0) = some (nn 1) from rfl, bs, ifn1, xc_takeWord hT hb okS_6 hL2 (by decide) w1, bs, nn_tn (by omega)]
          generalize skp b T s1.1 = q1 at hqa hqa2 hrc
          unfold twS twS
          by_cases wi : run b T q1 = wIf
          · rw [if_pos wi] at hrc
            have hwi : q1 + 2 ≤ T := run_pos wi hqa
            have hoi : okR T 0 (q1 + 2, s1.2.1, s1.2.2) := ⟨hwi, by dsimp only; omega, w3, w4⟩
            have hte := xc_test hT hb hoi v2 v3
            dsimp only at hte
            rw [if_pos (show run b T q1 = [105, 102] from wi), show ([105, 102] : List Nat).length = 2 from rfl]
            dsimp only
            rw [if_neg (show ¬ nn 0 = (-1 : Int32) by decide)]
            cases ht : teL b T (faS b T 10) 401 true false (q1 + 2, s1.2.1, s1.2.2) with
            | error F0 => rw [ht] at hrc; cases hrc
            | ok s2 =>
              rw [ht] at hrc hte
              cases hrc
              obtain ⟨st'', rt'', u1, u2, u3⟩ := hte
              rw [u1, bs]
              exact fin st'' rt'' u2 u3
          · rw [if_neg wi] at hrc
            cases hrc
            rw [if_neg (show ¬ run b T q1 = [105, 102] from wi)]
            dsimp only
            rw [if_pos (show -nn 1 = (-1 : Int32) from rfl)]
            exact fin st' rt' v2 v3
      · rw [if_neg w] at hrc; cases hrc
end rulec
