/-! sums: faults, the class whole, the reference -/
section summ
variable {b tx : Nat → Int32} {T : Nat}
theorem vaS_err {s : RS} {F : Nat} (hT : T ≤ 400) (h : s.1 ≤ T) (e : vaS b T s = Except.error F) : 0 < F ∧ F < 100000 := by
  have hq := skp_le (b := b) h
  unfold vaS mkS at e
  by_cases e1 : isDg b T (skp b T s.1) = true
  · rw [if_pos e1] at e
    cases hk : nuK b T 0 99999 (skp b T s.1) with
    | some k =>
      rw [hk] at e
      cases e
      have : k < 8 := by
        unfold nuK at hk
        by_cases c1 : (num b T (skp b T s.1)).2 = skp b T s.1
        · rw [if_pos c1] at hk; cases hk; omega
        · rw [if_neg c1] at hk
          by_cases c2 : 5 < (num b T (skp b T s.1)).2 - skp b T s.1 ∨ ¬ wi (nn (num b T (skp b T s.1)).1) (0 : Int32).toInt (99999 : Int32).toInt = true
          · rw [if_pos c2] at hk; cases hk; omega
          · rw [if_neg c2] at hk; cases hk
      omega
    | none =>
      rw [hk] at e
      by_cases e2 : s.2.2 = 60
      · simp only [if_pos e2] at e; cases e; omega
      · simp only [if_neg e2] at e; cases e
  · rw [if_neg e1] at e
    cases hk : wx WD (run b T (skp b T s.1)) 0 with
    | none => rw [hk] at e; cases e; omega
    | some w =>
      rw [hk] at e
      by_cases e2 : s.2.2 = 60
      · simp only [if_pos e2] at e; cases e; omega
      · simp only [if_neg e2] at e; cases e
theorem tlS_err (hT : T ≤ 400) : ∀ (k : Nat) {j : Nat} (a : Option Nat) (s : RS) (F : Nat), okR T (j + pnO a) s → (∀ k, a = some k → k < 16) → tlS b T k a s = Except.error F → 0 < F ∧ F < 100000 := by
  intro k
  induction k with
  | zero => intro j a s F _ _ e; cases e
  | succ k ih =>
    intro j a s F h ha e
    obtain ⟨p, L, m⟩ := s
    have h0 := h
    obtain ⟨h1, h2, h3, h4⟩ := h
    dsimp only at h1 h2 h3 h4 e
    have hq := skp_le (b := b) h1
    have hq2 := skp_ge (b := b) h1
    unfold tlS at e
    dsimp only at e
    cases hs : scO (seB b T (skp b T p)) with
    | some c =>
      rw [hs] at e
      dsimp only at e
      have hc := scO_some hs
      have hlt : skp b T p < T := by
        rcases hc with ⟨h, _⟩ | ⟨h, _⟩ | ⟨h, _⟩ <;> exact seB_lt (by omega) h
      have ho : okR T (j + pnO a + 1) (skp b T p + 1, L, m) := okR_sl h0 (by omega) (by omega) h4
      cases hv : vaS b T (skp b T p + 1, L, m) with
      | error F => rw [hv] at e; cases e; exact vaS_err hT ho.1 hv
      | ok s1 =>
        rw [hv] at e
        dsimp only at e
        obtain ⟨⟨o1, o2, o3, o4⟩, v2, v3⟩ := vaS_ok ho hT hv
        exact ih (j := j) a (s1.1, s1.2.1 ++ [(c, 0)], s1.2.2) F ⟨o1, by rw [List.length_append, List.length_singleton]; dsimp only; omega, o3, okL_app o4 ⟨by dsimp only; omega, by dsimp only; omega⟩⟩ ha e
    | none =>
      rw [hs] at e
      dsimp only at e
      have hel := emO_len (a := a) (L := L)
      cases hs2 : adO (seB b T (skp b T p)) with
      | some c =>
        rw [hs2] at e
        dsimp only at e
        have hc := adO_some hs2
        have hlt : skp b T p < T := by
          rcases hc with ⟨h, _⟩ | ⟨h, _⟩ <;> exact seB_lt (by omega) h
        have ho : okR T (j + 1) (skp b T p + 1, emO a L, m) := okR_sl h0 (by omega) (by omega) (emO_ok h4 ha)
        cases hv : vaS b T (skp b T p + 1, emO a L, m) with
        | error F => rw [hv] at e; cases e; exact vaS_err hT ho.1 hv
        | ok s1 =>
          rw [hv] at e
          dsimp only at e
          obtain ⟨o, v2, v3⟩ := vaS_ok ho hT hv
          exact ih (j := j) (some c) s1 F o (fun k hk => by cases hk; omega) e
      | none =>
        rw [hs2] at e
        cases e
theorem smS_err (hT : T ≤ 400) {j : Nat} {s : RS} {F : Nat} (h : okR T j s) (e : smS b T s = Except.error F) : 0 < F ∧ F < 100000 := by
  unfold smS at e
  cases hv : vaS b T s with
  | error F => rw [hv] at e; cases e; exact vaS_err hT h.1 hv
  | ok s1 =>
    rw [hv] at e
    obtain ⟨o, v2, v3⟩ := vaS_ok h hT hv
    exact tlS_err hT 401 (j := j) none s1 F o (fun k hk => by cases hk) e
theorem xc_sum (hT : T ≤ 400) (hb : bR T b tx) {j : Nat} {s : RS} (h : okR T j s) {steps : Nat → Int32} {rt : Int32} (hs : stC s.2.1 steps) (hr : rtC s.2.1 rt) :
    rsC T (smS b T s) (mRuleReader_readSum tx (nn T) (nn s.1) (nn 0) steps (nn s.2.1.length) (nn s.2.2) rt) := by
  have hv := xc_value hT hb h hs hr
  have he := fun F => smS_err (b := b) (F := F) hT h
  unfold smS at he ⊢
  unfold mRuleReader_readSum
  rw [li0, li1, show FU = 4998 + 2 from rfl]
  cases hva : vaS b T s with
  | error F =>
    rw [hva] at hv he
    have hF := he F rfl
    exact turn_err (by omega) hF.1 hF.2 hv
  | ok s1 =>
    rw [hva] at hv he
    obtain ⟨o, w2, w3⟩ := vaS_ok h hT hva
    obtain ⟨st2, rt2, a1, a2, a3⟩ := turn_n (n := 4998 + 1) (i := 0) (x2 := -nn 1) (by omega) hv
    rw [a1]
    exact c_tl hT hb 401 (j := j) none s1 (4998 + 1) 0 st2 rt2 o (Or.inl rfl) a2 a3 (by omega) (by omega) (by omega) he
/-- how the reference goes on behind a term -/
def RK (tx : Nat → Int32) (T t : Nat) (a : Option Nat) (n2 : Nat) (q : Int32 × (Nat → Int32) × (Nat → Int32) × Int32 × Int32 × Int32 × Int32) : Option (Int32 × (Nat → Int32) × (Nat → Int32) × Int32 × Int32 × Int32 × Int32) :=
  if q.1 = 0 then some ((0 : Int32), q.2.1, q.2.2.1, q.2.2.2.1, q.2.2.2.2.1, q.2.2.2.2.2.1, q.2.2.2.2.2.2) else
  match a with
  | none => m_sum_l9 tx (nn T) (nn t) n2 q.2.1 q.2.2.1 q.2.2.2.1 q.2.2.2.2.1 q.2.2.2.2.2.1 q.2.2.2.2.2.2
  | some k => (m_puts (nn k) (0 : Int32) q.2.1 q.2.2.1 (nn t)).bind (fun q14 => m_sum_l9 tx (nn T) (nn t) n2 q14.1 q14.2 q.2.2.2.1 q.2.2.2.2.1 q.2.2.2.2.2.1 q.2.2.2.2.2.2)
/-- a term's loop: the sign, and on -/
theorem m_term_step (hT : T ≤ 400) (hb : bR T b tx) (hy : byR T b) {t p n : Nat} {sign length : Nat → Int32} {nb mm : Int32} (hp : p ≤ T) :
    m_term_l9 tx (nn T) (nn t) (n + 1) sign length (nn p) (nn 0) nb mm = match scO (seB b T (skp b T p)) with
      | none => some (nn 1, sign, length, nn (skp b T p), nn 0, nb, mm)
      | some k => (m_value tx (nn T) sign length (nn (skp b T p + 1)) (nn 0) nb (nn t) mm).bind (fun q18 => (if q18.1 = 0 then some ((0 : Int32), q18.2.1, q18.2.2.1, q18.2.2.2.1, q18.2.2.2.2.1, q18.2.2.2.2.2.1, q18.2.2.2.2.2.2) else (m_puts (nn k) (0 : Int32) q18.2.1 q18.2.2.1 (nn t)).bind (fun q20 => m_term_l9 tx (nn T) (nn t) n q20.1 q20.2 q18.2.2.2.1 q18.2.2.2.2.1 q18.2.2.2.2.2.1 q18.2.2.2.2.2.2))) := by
  have hq := skp_le (b := b) hp
  conv => lhs; unfold m_term_l9
  rw [xm_see hT hb hp, bs]
  dsimp only
  rw [xm_see hT hb hq, skp_skp, bs]
  dsimp only
  rw [xm_see hT hb hq, skp_skp, bs]
  dsimp only
  generalize skp b T p = q at hq
  rw [show (42 : Int32) = nn 42 from id rfl, show (47 : Int32) = nn 47 from id rfl, show (37 : Int32) = nn 37 from id rfl]
  unfold scO
  by_cases e1 : seB b T q = nn 42
  · obtain ⟨v1, v2⟩ := seB_val hy (by omega) e1
    rw [if_pos e1, if_pos e1]
    unfold m_term_j36
    rw [rq_inb (by omega) (by omega), nn_tn (by omega), hb q v1, v2, if_pos (show nn 42 = (42 : Int32) from rfl), ltp, li1, nn_add]
    rfl
  rw [if_neg e1, if_neg e1]
  by_cases e2 : seB b T q = nn 47
  · obtain ⟨v1, v2⟩ := seB_val hy (by omega) e2
    rw [if_pos e2, if_pos e2]
    unfold m_term_j36
    rw [rq_inb (by omega) (by omega), nn_tn (by omega), hb q v1, v2, if_neg (show ¬ nn 47 = (42 : Int32) by decide), rq_inb (by omega) (by omega), if_pos (show nn 47 = (47 : Int32) from rfl), ltp, li1, nn_add]
    rfl
  rw [if_neg e2, if_neg e2]
  by_cases e3 : seB b T q = nn 37
  · obtain ⟨v1, v2⟩ := seB_val hy (by omega) e3
    rw [if_pos e3, if_pos e3]
    unfold m_term_j36
    rw [rq_inb (by omega) (by omega), nn_tn (by omega), hb q v1, v2, if_neg (show ¬ nn 37 = (42 : Int32) by decide), rq_inb (by omega) (by omega), if_neg (show ¬ nn 37 = (47 : Int32) by decide), ltp, li1, nn_add]
    rfl
  rw [if_neg e3, if_neg e3]
  rfl
theorem m_sum_step (hT : T ≤ 400) (hb : bR T b tx) (hy : byR T b) {t p n : Nat} {sign length : Nat → Int32} {nb mm : Int32} (hp : p ≤ T) :
    m_sum_l9 tx (nn T) (nn t) (n + 1) sign length (nn p) (nn 0) nb mm = match adO (seB b T (skp b T p)) with
      | none => some (nn 1, sign, length, nn (skp b T p), nn 0, nb, mm)
      | some k => (m_term tx (nn T) sign length (nn (skp b T p + 1)) (nn 0) nb (nn t) mm).bind (RK tx T t (some k) n) := by
  have hq := skp_le (b := b) hp
  conv => lhs; unfold m_sum_l9
  rw [xm_see hT hb hp, bs]
  dsimp only
  rw [xm_see hT hb hq, skp_skp, bs]
  dsimp only
  generalize skp b T p = q at hq
  rw [show (43 : Int32) = nn 43 from id rfl, show (45 : Int32) = nn 45 from id rfl]
  unfold adO
  by_cases e1 : seB b T q = nn 43
  · obtain ⟨v1, v2⟩ := seB_val hy (by omega) e1
    rw [if_pos e1, if_pos e1]
    unfold m_sum_j27
    rw [rq_inb (by omega) (by omega), nn_tn (by omega), hb q v1, v2, if_pos (show nn 43 = (43 : Int32) from rfl), ltp, li1, nn_add]
    rfl
  rw [if_neg e1, if_neg e1]
  by_cases e2 : seB b T q = nn 45
  · obtain ⟨v1, v2⟩ := seB_val hy (by omega) e2
    rw [if_pos e2, if_pos e2]
    unfold m_sum_j27
    rw [rq_inb (by omega) (by omega), nn_tn (by omega), hb q v1, v2, if_neg (show ¬ nn 45 = (43 : Int32) by decide), ltp, li1, nn_add]
    rfl
  rw [if_neg e2, if_neg e2]
  rfl
end summ
