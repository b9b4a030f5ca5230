section summ
variable {b tx : Nat → Int32} {T : Nat}
def exB (x : Except Nat RS) (y : RS → Except Nat RS) : Except Nat RS := match x with | .error F => Except.error F | .ok s' => y s'
theorem RK_0 {t n2 : Nat} {a : Option Nat} {sign length : Nat → Int32} {nx wr nb md : Int32} : RK tx T t a n2 (nn 0, sign, length, nx, wr, nb, md) = some (nn 0, sign, length, nx, wr, nb, md) := by
  unfold RK
  rw [if_pos (show nn 0 = 0 from rfl)]
  rfl
theorem RK_1 {t n2 j : Nat} {sign0 : Nat → Int32} {a : Option Nat} {sign length : Nat → Int32} {L : List (Nat × Nat)} {nx wr nb md : Int32} (ht : t < 6) (hl : L.length + pnO a ≤ 400) (hg : gM t sign0 L sign length) : ∃ sign' length', RK tx T t a n2 (nn 1, sign, length, nx, wr, nb, md) = m_sum_l9 tx (nn T) (nn t) n2 sign' length' nx wr nb md ∧ gM t sign0 (emO a L) sign' length' := by
  unfold RK
  rw [if_neg (show ¬ nn 1 = 0 by decide)]
  cases a with
  | none => exact ⟨sign, length, rfl, hg⟩
  | some k =>
    dsimp only
    have : pnO (some k) = 1 := rfl
    obtain ⟨s', l', a1, a2⟩ := puts_g (c := (k, 0)) (x1 := nn k) (x2 := (0 : Int32)) rfl rfl ht (by omega) hg
    rw [a1, bs]
    exact ⟨s', l', rfl, a2⟩
theorem m_val_then {t : Nat} {sign0 sign length : Nat → Int32} {p : Nat} {nb mm : Int32} {x : Except Nat RS} (h : rsM t sign0 x (m_value tx (nn T) sign length (nn p) (nn 0) nb (nn t) mm)) {a : Option Nat} {n2 : Nat} {G : (Nat → Int32) → (Nat → Int32) → Int32 → Int32 → Int32 → Int32 → Option (Int32 × (Nat → Int32) × (Nat → Int32) × Int32 × Int32 × Int32 × Int32)} {y : RS → Except Nat RS}
    (hG : ∀ s1 sign1 length1 nb1, x = Except.ok s1 → gM t sign0 s1.2.1 sign1 length1 → rsM t sign0 (y s1) ((G sign1 length1 (nn s1.1) (nn 0) nb1 (nn s1.2.2)).bind (RK tx T t a n2))) :
    rsM t sign0 (exB x y) (((m_value tx (nn T) sign length (nn p) (nn 0) nb (nn t) mm).bind (fun q18 => (if q18.1 = 0 then some ((0 : Int32), q18.2.1, q18.2.2.1, q18.2.2.2.1, q18.2.2.2.2.1, q18.2.2.2.2.2.1, q18.2.2.2.2.2.2) else G q18.2.1 q18.2.2.1 q18.2.2.2.1 q18.2.2.2.2.1 q18.2.2.2.2.2.1 q18.2.2.2.2.2.2))).bind (RK tx T t a n2)) := by
  cases x with
  | error F =>
    obtain ⟨s', l', nx, nb', md, v1, v2⟩ := h
    rw [v1, bs]
    dsimp only
    rw [ifn0, bs, show (0 : Int32) = nn 0 from li0, RK_0]
    exact ⟨s', l', nx, nb', md, rfl, v2⟩
  | ok s1 =>
    obtain ⟨s', l', nb', v1, v2⟩ := h
    rw [v1, bs]
    dsimp only
    rw [ifn1]
    exact hG s1 s' l' nb' rfl v2
theorem m_tl (hT : T ≤ 400) (hb : bR T b tx) (hy : byR T b) {t : Nat} (ht : t < 6) {sign0 : Nat → Int32} : ∀ (k : Nat) {j : Nat} (a : Option Nat) (s : RS) (n1 n2 : Nat) (sign length : Nat → Int32) (nb : Int32), okR T (j + pnO a) s → (∀ k, a = some k → k < 16) → gM t sign0 s.2.1 sign length → T - s.1 < k → k < n1 → k < n2 →
    k < 5000 → rsM t sign0 (tlS b T k a s) ((m_term_l9 tx (nn T) (nn t) n1 sign length (nn s.1) (nn 0) nb (nn s.2.2)).bind (RK tx T t a n2)) := by
  intro k
  induction k with
  | zero => intro j a s n1 n2 sign length nb _ _ _ h; omega
  | succ k ih =>
    intro j a s n1 n2 sign length nb h ha hg hk hn1 hn2 hk5
    obtain ⟨p, L, m⟩ := s
    have h0 := h
    obtain ⟨h1, h2, h3, h4⟩ := h
    dsimp only at h1 h2 h3 h4 hk hg ⊢
    have hq := skp_le (b := b) h1
    have hq2 := skp_ge (b := b) h1
    match n1, hn1 with
    | n1 + 1, hn1 =>
    rw [m_term_step hT hb hy h1]
    unfold tlS
    dsimp only
    generalize hQ : skp b T p = q at hq hq2
    have hQQ : skp b T q = q := by rw [← hQ]; exact skp_skp
    cases hs1 : scO (seB b T q) with
    | some c =>
      dsimp only
      have hc := scO_some hs1
      have hlt : q < T := by rcases hc with ⟨h, _⟩ | ⟨h, _⟩ | ⟨h, _⟩ <;> exact seB_lt (by omega) h
      have hc16 : c < 16 := by rcases hc with ⟨_, h⟩ | ⟨_, h⟩ | ⟨_, h⟩ <;> omega
      have ho : okR T (j + pnO a + 1) (q + 1, L, m) := okR_sl h0 (by omega) (by omega) h4
      have hv := xm_value hT hb ht (nb := nb) ho hg
      dsimp only at hv
      refine m_val_then (x := vaS b T (q + 1, L, m)) (y := fun s' => tlS b T k a (s'.1, s'.2.1 ++ [(c, 0)], s'.2.2)) (G := fun sg ln nx wr nb md => (m_puts (nn c) (0 : Int32) sg ln (nn t)).bind (fun q20 => m_term_l9 tx (nn T) (nn t) n1 q20.1 q20.2 nx wr nb md)) hv (fun s1 sign1 length1 nb1 e g => ?_)
      obtain ⟨⟨o1, o2, o3, o4⟩, w2, w3⟩ := vaS_ok ho hT e
      dsimp only at w2 ⊢
      obtain ⟨s', l', a1, a2⟩ := puts_g (c := (c, 0)) (x1 := nn c) (x2 := (0 : Int32)) rfl rfl ht (by omega) g
      rw [a1, bs]
      exact ih (j := j) a (s1.1, s1.2.1 ++ [(c, 0)], s1.2.2) n1 n2 s' l' nb1 ⟨o1, by rw [List.length_append, List.length_singleton]; dsimp only; omega, o3, okL_app o4 ⟨hc16, by dsimp only; omega⟩⟩ ha a2 (by dsimp only; omega) (by omega) (by omega) (by omega)
    | none =>
      dsimp only
      rw [bs]
      have hel := emO_len (a := a) (L := L)
      obtain ⟨sg1, ln1, r1, r2⟩ := RK_1 (tx := tx) (T := T) (a := a) (n2 := n2) (j := j) (nx := nn q) (wr := nn 0) (nb := nb) (md := nn m) ht (by omega) hg
      rw [r1]
      match n2, hn2 with
      | n2 + 1, hn2 =>
      rw [m_sum_step hT hb hy hq, hQQ]
      cases hs2 : adO (seB b T q) with
      | none => exact ⟨sg1, ln1, nb, rfl, r2⟩
      | some c =>
        dsimp only
        have hc := adO_some hs2
        have hlt : q < T := by rcases hc with ⟨h, _⟩ | ⟨h, _⟩ <;> exact seB_lt (by omega) h
        have ho : okR T (j + 1) (q + 1, emO a L, m) := okR_sl h0 (by omega) (by omega) (emO_ok h4 ha)
        have hv := xm_value hT hb ht (nb := nb) ho r2
        dsimp only at hv
        unfold m_term
        refine m_val_then (x := vaS b T (q + 1, emO a L, m)) (y := fun s' => tlS b T k (some c) s') (G := fun sg ln nx wr nb md => m_term_l9 tx (nn T) (nn t) FU sg ln nx wr nb md) hv (fun s1 sign1 length1 nb1 e g => ?_)
        obtain ⟨o, w2, w3⟩ := vaS_ok ho hT e
        dsimp only at w2 ⊢
        exact ih (j := j) (some c) s1 FU n2 sign1 length1 nb1 o (fun k hk => by cases hk; omega) g (by omega) (by unfold FU; omega) (by omega) (by omega)
theorem xm_sum (hT : T ≤ 400) (hb : bR T b tx) (hy : byR T b) {t j : Nat} (ht : t < 6) {sign0 : Nat → Int32} {s : RS} (h : okR T j s) {sign length : Nat → Int32} {nb : Int32} (hg : gM t sign0 s.2.1 sign length) :
    rsM t sign0 (smS b T s) (m_sum tx (nn T) sign length (nn s.1) (nn 0) nb (nn t) (nn s.2.2)) := by
  have hv := xm_value hT hb ht (nb := nb) h hg
  unfold smS m_sum m_term
  refine m_val_then (x := vaS b T s) (a := none) (n2 := FU) (y := fun s' => tlS b T 401 none s') (G := fun sg ln nx wr nb md => m_term_l9 tx (nn T) (nn t) FU sg ln nx wr nb md) hv (fun s1 sign1 length1 nb1 e g => ?_)
  obtain ⟨o, w2, w3⟩ := vaS_ok h hT e
  exact m_tl hT hb hy ht 401 (j := j) none s1 FU FU sign1 length1 nb1 o (fun k hk => by cases hk) g (by omega) (by unfold FU; omega) (by unfold FU; omega) (by omega)
end summ
