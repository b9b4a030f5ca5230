/-! sums of rules -/
def kpM (t : Nat) (sign0 sign : Nat → Int32) : Prop := ∀ u, u < 6 → ¬ u = t → ∀ i, i < 400 → sign (400 * u + i) = sign0 (400 * u + i)
def gM (t : Nat) (sign0 : Nat → Int32) (L : List (Nat × Nat)) (sign length : Nat → Int32) : Prop := sgM t L sign ∧ length t = nn L.length ∧ kpM t sign0 sign
def rsM (t : Nat) (sign0 : Nat → Int32) (x : Except Nat RS) (r : Option (Int32 × (Nat → Int32) × (Nat → Int32) × Int32 × Int32 × Int32 × Int32)) : Prop :=
  match x with
  | .ok s => ∃ sign' length' nb, r = some (nn 1, sign', length', nn s.1, nn 0, nb, nn s.2.2) ∧ gM t sign0 s.2.1 sign' length'
  | .error F => ∃ sign' length' nx nb md, r = some (nn 0, sign', length', nx, nn F, nb, md) ∧ kpM t sign0 sign'
theorem puts_g {c : Nat × Nat} {x1 x2 : Int32} {t : Nat} {sign0 sign length : Nat → Int32} {L : List (Nat × Nat)} (h1 : x1 = nn c.1) (h2 : x2 = nn c.2) (ht : t < 6) (hl : L.length < 400) (hg : gM t sign0 L sign length) :
    ∃ sign' length', m_puts x1 x2 sign length (nn t) = some (sign', length') ∧ gM t sign0 (L ++ [c]) sign' length' := by
  obtain ⟨g1, g2, g3⟩ := hg
  obtain ⟨s', l', a1, a2, a3, a4⟩ := puts_ev h1 h2 ht hl g1 g2
  exact ⟨s', l', a1, a2, a3, fun u hu hn i hi => (a4 u hu hn i hi).trans (g3 u hu hn i hi)⟩
section sum
variable {b tx : Nat → Int32} {T : Nat}
theorem m_fails_ev {k p : Nat} : m_fails (nn k) (nn p) (nn 0) = some (nn 0, nn (1 + 8 * p + k)) := by
  unfold m_fails
  rw [if_pos (show nn 0 = 0 from rfl), ltp, li1, show (8 : Int32) = nn 8 from id rfl, nn_mul, nn_add, nn_add]; rfl
theorem makes_ev {q m : Nat} (hm : m ≤ 60) : m_makes (nn q) (nn 0) (nn m) = some (if m = 60 then (nn 0, nn (1 + 8 * q + 3), nn m) else (nn 1, nn 0, nn (m + 1))) := by
  unfold m_makes
  rw [show (60 : Int32) = nn 60 from id rfl]
  by_cases e : m = 60
  · rw [ifeq_t e, if_pos e, show (3 : Int32) = nn 3 from id rfl, m_fails_ev, bs]; rfl
  · rw [ifeq_f e (by omega) (by omega), if_neg e, ltp, li1, nn_add]
theorem xm_value (hT : T ≤ 400) (hb : bR T b tx) {t j : Nat} (ht : t < 6) {sign0 : Nat → Int32} {s : RS} (h : okR T j s) {sign length : Nat → Int32} {nb : Int32} (hg : gM t sign0 s.2.1 sign length) :
    rsM t sign0 (vaS b T s) (m_value tx (nn T) sign length (nn s.1) (nn 0) nb (nn t) (nn s.2.2)) := by
  obtain ⟨p, L, m⟩ := s
  obtain ⟨h1, h2, h3, h4⟩ := h
  dsimp only at h1 h2 h3 h4 hg ⊢
  have hq := skp_le (b := b) h1
  unfold m_value vaS
  rw [xm_see hT hb h1, bs]
  dsimp only
  rw [xm_isDigit hT hb (by omega), bs]
  have hq2 := skp_ge (b := b) h1
  generalize hQ : skp b T p = q at hq hq2
  have hQQ : skp b T q = q := by rw [← hQ]; exact skp_skp
  by_cases e1 : isDg b T q = true
  · have hd := (isDg_t.1 e1).1
    obtain ⟨nb', hn⟩ := xm_numberHere hT hb (nn 0) (nn 99999) nb hq
    rw [ifb_t e1, if_pos e1, show (99999 : Int32) = nn 99999 from id rfl, li0, hn, bs, hQQ]
    cases hk : nuK b T (nn 0) (nn 99999) q with
    | some k =>
      dsimp only
      rw [if_pos rfl]
      exact ⟨_, _, _, _, _, rfl, hg.2.2⟩
    | none =>
      dsimp only
      rw [if_neg (show ¬ nn 1 = nn 0 by decide), makes_ev h3, bs]
      unfold mkS
      by_cases e2 : m = 60
      · rw [if_pos e2, if_pos e2]
        dsimp only
        rw [if_pos rfl]
        exact ⟨_, _, _, _, _, rfl, hg.2.2⟩
      · rw [if_neg e2, if_neg e2]
        dsimp only
        rw [if_neg (show ¬ nn 1 = nn 0 by decide)]
        obtain ⟨s', l', a1, a2⟩ := puts_g (c := (0, (num b T q).1)) (x1 := nn 0) (x2 := nn (num b T q).1) rfl rfl ht (by omega) hg
        rw [a1, bs]
        exact ⟨s', l', _, rfl, a2⟩
  · rw [ifb_f e1, if_neg e1, xm_wordHere hT hb hq, bs, hQQ]
    cases hk : wx WD (run b T q) 0 with
    | none =>
      dsimp only
      rw [if_neg (show ¬ (0 : Int32) ≤ -nn 1 by decide), li0, m_fails_ev, bs]
      exact ⟨_, _, _, _, _, rfl, hg.2.2⟩
    | some w =>
      have hw := wx_lt _ _ _ _ hk
      have hpos := WD_pos _ (wx_mem _ _ _ _ hk)
      have hl := run_le (b := b) hq
      have hWl : WD.length = 12 := rfl
      dsimp only
      rw [if_pos (show (0 : Int32) ≤ nn w by rw [li0, nn_le (by omega) (by omega)]; omega), makes_ev h3, bs]
      unfold mkS
      by_cases e2 : m = 60
      · rw [if_pos e2, if_pos e2]
        dsimp only
        rw [ifn0]
        exact ⟨_, _, _, _, _, rfl, hg.2.2⟩
      · rw [if_neg e2, if_neg e2]
        dsimp only
        rw [ifn1, xm_passWord hT hb hq, bs]
        obtain ⟨s', l', a1, a2⟩ := puts_g (c := (1, w)) (x1 := nn 1) (x2 := nn w) rfl rfl ht (by omega) hg
        rw [li1, a1, bs]
        exact ⟨s', l', _, rfl, a2⟩
def scO (c : Int32) : Option Nat := if c = nn 42 then some 4 else if c = nn 47 then some 5 else if c = nn 37 then some 14 else none
def adO (c : Int32) : Option Nat := if c = nn 43 then some 2 else if c = nn 45 then some 3 else none
def emO (a : Option Nat) (L : List (Nat × Nat)) : List (Nat × Nat) := match a with | none => L | some k => L ++ [(k, 0)]
def pnO (a : Option Nat) : Nat := match a with | none => 0 | some _ => 1
/-- behind a value -/
def tlS (b : Nat → Int32) (T : Nat) : Nat → Option Nat → RS → Except Nat RS
  | 0, _, s => Except.ok s
  | n + 1, a, s => match scO (seB b T (skp b T s.1)) with
    | some k => (match vaS b T (skp b T s.1 + 1, s.2.1, s.2.2) with | .error F => Except.error F | .ok s' => tlS b T n a (s'.1, s'.2.1 ++ [(k, 0)], s'.2.2))
    | none => (match adO (seB b T (skp b T s.1)) with
      | some k => (match vaS b T (skp b T s.1 + 1, emO a s.2.1, s.2.2) with | .error F => Except.error F | .ok s' => tlS b T n (some k) s')
      | none => Except.ok (skp b T s.1, emO a s.2.1, s.2.2))
def smS (b : Nat → Int32) (T : Nat) (s : RS) : Except Nat RS := match vaS b T s with | .error F => Except.error F | .ok s' => tlS b T 401 none s'
theorem seB_lt {q : Nat} {c : Nat} (hc : c < 1000) (h : seB b T q = nn c) : q < T := by
  by_cases e : q < T
  · exact e
  · rw [seB_end.2 e] at h
    have := congrArg Int32.toInt h
    rw [nn_toInt (by omega), show (-nn 1).toInt = -1 from by decide] at this
    omega
theorem scO_some {c : Int32} {k : Nat} (h : scO c = some k) : (c = nn 42 ∧ k = 4) ∨ (c = nn 47 ∧ k = 5) ∨ (c = nn 37 ∧ k = 14) := by
  unfold scO at h
  by_cases e1 : c = nn 42
  · rw [if_pos e1] at h; cases h; exact Or.inl ⟨e1, rfl⟩
  · rw [if_neg e1] at h
    by_cases e2 : c = nn 47
    · rw [if_pos e2] at h; cases h; exact Or.inr (Or.inl ⟨e2, rfl⟩)
    · rw [if_neg e2] at h
      by_cases e3 : c = nn 37
      · rw [if_pos e3] at h; cases h; exact Or.inr (Or.inr ⟨e3, rfl⟩)
      · rw [if_neg e3] at h; cases h
theorem scO_none {c : Int32} (h : scO c = none) : ¬ c = nn 42 ∧ ¬ c = nn 47 ∧ ¬ c = nn 37 := by
  refine ⟨fun e => ?_, fun e => ?_, fun e => ?_⟩ <;> subst e <;> exact absurd h (by decide)
theorem adO_some {c : Int32} {k : Nat} (h : adO c = some k) : (c = nn 43 ∧ k = 2) ∨ (c = nn 45 ∧ k = 3) := by
  unfold adO at h
  by_cases e1 : c = nn 43
  · rw [if_pos e1] at h; cases h; exact Or.inl ⟨e1, rfl⟩
  · rw [if_neg e1] at h
    by_cases e2 : c = nn 45
    · rw [if_pos e2] at h; cases h; exact Or.inr ⟨e2, rfl⟩
    · rw [if_neg e2] at h; cases h
theorem adO_none {c : Int32} (h : adO c = none) : ¬ c = nn 43 ∧ ¬ c = nn 45 := by
  refine ⟨fun e => ?_, fun e => ?_⟩ <;> subst e <;> exact absurd h (by decide)
theorem emO_len {a : Option Nat} {L : List (Nat × Nat)} : (emO a L).length = L.length + pnO a := by
  cases a with
  | none => rfl
  | some k => unfold emO pnO; rw [List.length_append, List.length_singleton]
theorem emO_ok {a : Option Nat} {L : List (Nat × Nat)} (h : okL L) (ha : ∀ k, a = some k → k < 16) : okL (emO a L) := by
  cases a with
  | none => exact h
  | some k => exact okL_app h ⟨ha k rfl, by dsimp only; omega⟩
theorem okR_sl {j : Nat} {p p' m : Nat} {L L' : List (Nat × Nat)} (h : okR T j (p, L, m)) {j' : Nat} (h1 : p' ≤ T) (h2 : L'.length + j' ≤ p') (h4 : okL L') : okR T j' (p', L', m) := ⟨h1, h2, h.2.2.1, h4⟩
theorem tlS_ok (hT : T ≤ 400) : ∀ (k : Nat) {j : Nat} (a : Option Nat) (s s' : RS), okR T (j + pnO a) s → (∀ k, a = some k → k < 16) → T - s.1 < k → tlS b T k a s = Except.ok s' → okR T j s' ∧ s.1 ≤ s'.1 := by
  intro k
  induction k with
  | zero => intro j a s s' _ _ h; omega
  | succ k ih =>
    intro j a s s' h ha hk e
    obtain ⟨p, L, m⟩ := s
    have h0 := h
    obtain ⟨h1, h2, h3, h4⟩ := h
    dsimp only at h1 h2 h3 h4 hk e ⊢
    have hq := skp_le (b := b) h1
    have hq2 := skp_ge (b := b) h1
    unfold tlS at e
    dsimp only at e
    cases hs : scO (seB b T (skp b T p)) with
    | some c =>
      rw [hs] at e
      dsimp only at e
      have hc := scO_some hs
      have hlt : skp b T p < T := by
        rcases hc with ⟨h, _⟩ | ⟨h, _⟩ | ⟨h, _⟩ <;> exact seB_lt (by omega) h
      have ho : okR T (j + pnO a + 1) (skp b T p + 1, L, m) := okR_sl h0 (by omega) (by omega) h4
      cases hv : vaS b T (skp b T p + 1, L, m) with
      | error F => rw [hv] at e; cases e
      | ok s1 =>
        rw [hv] at e
        dsimp only at e
        obtain ⟨⟨o1, o2, o3, o4⟩, v2, v3⟩ := vaS_ok ho hT hv
        dsimp only at v2
        have := ih (j := j) a (s1.1, s1.2.1 ++ [(c, 0)], s1.2.2) s' ⟨o1, by rw [List.length_append, List.length_singleton]; dsimp only; omega, o3, okL_app o4 ⟨by dsimp only; omega, by dsimp only; omega⟩⟩ ha (by dsimp only; omega) e
        dsimp only at this
        exact ⟨this.1, by omega⟩
    | none =>
      rw [hs] at e
      dsimp only at e
      have hel := emO_len (a := a) (L := L)
      cases hs2 : adO (seB b T (skp b T p)) with
      | some c =>
        rw [hs2] at e
        dsimp only at e
        have hc := adO_some hs2
        have hlt : skp b T p < T := by
          rcases hc with ⟨h, _⟩ | ⟨h, _⟩ <;> exact seB_lt (by omega) h
        have ho : okR T (j + 1) (skp b T p + 1, emO a L, m) := okR_sl h0 (by omega) (by omega) (emO_ok h4 ha)
        cases hv : vaS b T (skp b T p + 1, emO a L, m) with
        | error F => rw [hv] at e; cases e
        | ok s1 =>
          rw [hv] at e
          dsimp only at e
          obtain ⟨o, v2, v3⟩ := vaS_ok ho hT hv
          dsimp only at v2
          have := ih (j := j) (some c) s1 s' o (fun k hk => by cases hk; omega) (by omega) e
          exact ⟨this.1, by omega⟩
      | none =>
        rw [hs2] at e
        cases e
        exact ⟨okR_sl h0 hq (by omega) (emO_ok h4 ha), hq2⟩
theorem smS_ok (hT : T ≤ 400) {j : Nat} {s s' : RS} (h : okR T j s) (e : smS b T s = Except.ok s') : okR T j s' ∧ s.1 < s'.1 := by
  unfold smS at e
  cases hv : vaS b T s with
  | error F => rw [hv] at e; cases e
  | ok s1 =>
    rw [hv] at e
    obtain ⟨o, v2, v3⟩ := vaS_ok h hT hv
    have := tlS_ok hT 401 (j := j) none s1 s' o (fun k hk => by cases hk) (by omega) e
    exact ⟨this.1, by omega⟩
end sum
