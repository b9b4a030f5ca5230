/-! sums: the class, the reference -/
def aI (a : Option Nat) : Int32 := match a with | none => -nn 1 | some k => nn (k - 2)
def scI (k : Nat) : Nat := if k = 4 then 0 else if k = 5 then 1 else 2
section sumc
variable {b tx : Nat → Int32} {T : Nat}
theorem ts_sc {c : Int32} {q : Nat} : tsS c q [42, 47, 37] 0 = match scO c with | none => (-nn 1, nn q) | some k => (nn (scI k), nn (q + 1)) := by
  unfold scO
  unfold tsS
  by_cases e1 : c = nn 42
  · rw [if_pos e1, if_pos e1]; rfl
  rw [if_neg e1, if_neg e1]
  unfold tsS
  by_cases e2 : c = nn 47
  · rw [if_pos e2, if_pos e2]; rfl
  rw [if_neg e2, if_neg e2]
  unfold tsS
  by_cases e3 : c = nn 37
  · rw [if_pos e3, if_pos e3]; rfl
  rw [if_neg e3, if_neg e3]
  rfl
theorem ts_ad {c : Int32} {q : Nat} : tsS c q [43, 45] 0 = match adO c with | none => (-nn 1, nn q) | some k => (nn (k - 2), nn (q + 1)) := by
  unfold adO
  unfold tsS
  by_cases e1 : c = nn 43
  · rw [if_pos e1, if_pos e1]
  rw [if_neg e1, if_neg e1]
  unfold tsS
  by_cases e2 : c = nn 45
  · rw [if_pos e2, if_pos e2]
  rw [if_neg e2, if_neg e2]
  rfl
theorem c_l10_0 {n : Nat} {x2 x3 x5 at' F' : Int32} {steps : Nat → Int32} {sz pt rt : Int32} : mRuleReader_readSum_l10 tx (nn T) (n + 1) x2 x3 (0 : Int32) x5 at' F' steps sz pt rt = some (at', F', steps, sz, pt, rt) := by
  unfold mRuleReader_readSum_l10
  by_cases e : (400 : Int32) ≤ x5
  · rw [if_pos e]
  · rw [if_neg e, if_pos rfl]
theorem c_j42_fl {n p F s m : Nat} {x2 x4 x5 : Int32} {steps : Nat → Int32} {rt : Int32} (hF : 0 < F) (hF2 : F < 100000) (hp : p ≤ T) (hs : s ≤ 400) (hm : m ≤ 61) (hr : rt = nn 0 ∨ rt = nn 1) :
    flC T F (mRuleReader_readSum_j42 (mRuleReader_readSum_l10 tx (nn T) (n + 1)) x2 x4 x5 tx (nn T) (nn p) (nn F) steps (nn s) (nn m) rt) := by
  have hf : mCursor_isFine (nn F) = some (nn 0) := by rw [xc_isFine hF2, b01_f (by simp; omega)]
  have j81 : ∀ (x3 : Int32) (st : Nat → Int32) (s : Nat) (rt : Int32), s ≤ 400 → (rt = nn 0 ∨ rt = nn 1) → flC T F (mRuleReader_readSum_j81 (mRuleReader_readSum_l10 tx (nn T) (n + 1)) x3 x5 tx (nn T) (nn p) (nn F) st (nn s) (nn m) rt) := by
    intro x3 st s rt hs hr
    unfold mRuleReader_readSum_j81
    rw [hf, bs, ifn0, if_pos rfl, c_l10_0]
    exact ⟨p, st, s, m, rt, rfl, hp, hs, hm, hr⟩
  unfold mRuleReader_readSum_j42
  rw [hf, bs, ifn0]
  unfold mRuleReader_readSum_j59
  rw [if_pos rfl]
  by_cases e : x2 = (-1 : Int32)
  · rw [if_pos e]; exact j81 _ _ s rt hs hr
  · rw [if_neg e]
    obtain ⟨st', s', rt', a1, a2, a3⟩ := add_tot (x1 := (5 : Int32) + x2) (x2 := (0 : Int32)) (steps := steps) hs hr
    rw [a1, bs]
    exact j81 _ st' s' rt' a2 a3
theorem turn_err {n i F : Nat} {x2 x3 at' F' sz pt rt : Int32} {steps : Nat → Int32} (hi : i < 400) (hF : 0 < F) (hF2 : F < 100000) (hv : flC T F (mRuleReader_readValue tx (nn T) at' F' steps sz pt rt)) : flC T F (mRuleReader_readSum_l10 tx (nn T) (n + 2) x2 x3 (nn 1) (nn i) at' F' steps sz pt rt) := by
  obtain ⟨p', st', s', m', rt', v1, v2, v3, v4, v5⟩ := hv
  unfold mRuleReader_readSum_l10
  rw [show (400 : Int32) = nn 400 from id rfl, ifle_f (by omega) (by omega), ifn1, v1, bs]
  dsimp only
  by_cases e : x3 = (-1 : Int32)
  · rw [if_pos e]; exact c_j42_fl hF hF2 v2 v3 v4 v5
  · rw [if_neg e]
    obtain ⟨st2, s2, rt2, a1, a2, a3⟩ := add_tot (x1 := (7 : Int32) + x3) (x2 := (0 : Int32)) (steps := st') v3 v5
    rw [a1, bs]
    exact c_j42_fl hF hF2 v2 a2 v4 a3
theorem turn_n {n i : Nat} {x2 at' F' sz pt rt : Int32} {steps : Nat → Int32} {s1 : RS} (hi : i < 400) (hv : okC s1 (mRuleReader_readValue tx (nn T) at' F' steps sz pt rt)) : ∃ st' rt', mRuleReader_readSum_l10 tx (nn T) (n + 1) x2 (-nn 1) (nn 1) (nn i) at' F' steps sz pt rt = mRuleReader_readSum_j42 (mRuleReader_readSum_l10 tx (nn T) n) x2 (nn 1) (nn i) tx (nn T) (nn s1.1) (nn 0) st' (nn s1.2.1.length) (nn s1.2.2) rt' ∧ stC s1.2.1 st' ∧ rtC s1.2.1 rt' := by
  obtain ⟨st', rt', v1, v2, v3⟩ := hv
  refine ⟨st', rt', ?_, v2, v3⟩
  conv => lhs; unfold mRuleReader_readSum_l10
  rw [show (400 : Int32) = nn 400 from id rfl, ifle_f (by omega) (by omega), ifn1, v1, bs, if_pos (show -nn 1 = (-1 : Int32) from rfl)]
theorem turn_s {n i c : Nat} {x2 at' F' sz pt rt : Int32} {steps : Nat → Int32} {s1 : RS} (hi : i < 400) (hc : c = 4 ∨ c = 5 ∨ c = 14) (hl : s1.2.1.length < 400) (hv : okC s1 (mRuleReader_readValue tx (nn T) at' F' steps sz pt rt)) : ∃ st' rt', mRuleReader_readSum_l10 tx (nn T) (n + 1) x2 (nn (scI c)) (nn 1) (nn i) at' F' steps sz pt rt = mRuleReader_readSum_j42 (mRuleReader_readSum_l10 tx (nn T) n) x2 (nn 1) (nn i) tx (nn T) (nn s1.1) (nn 0) st' (nn (s1.2.1 ++ [(c, 0)]).length) (nn s1.2.2) rt' ∧ stC (s1.2.1 ++ [(c, 0)]) st' ∧ rtC (s1.2.1 ++ [(c, 0)]) rt' := by
  obtain ⟨st', rt', v1, v2, v3⟩ := hv
  have hci : scI c ≤ 2 := by unfold scI; repeat' split
                             all_goals omega
  have hcx : (7 : Int32) + nn (scI c) = nn (ck c) := by rcases hc with h | h | h <;> subst h <;> rfl
  have hcn : (0 : Int32) = nn (cn (c, 0)) := by rcases hc with h | h | h <;> subst h <;> rfl
  obtain ⟨st2, rt2, a1, a2, a3⟩ := add_ev (c := (c, 0)) (x1 := (7 : Int32) + nn (scI c)) (x2 := (0 : Int32)) (L := s1.2.1) hcx hcn ⟨by dsimp only; omega, by dsimp only; omega⟩ hl v2 v3
  refine ⟨st2, rt2, ?_, a2, a3⟩
  conv => lhs; unfold mRuleReader_readSum_l10
  rw [show (400 : Int32) = nn 400 from id rfl, ifle_f (by omega) (by omega), ifn1, v1, bs, if_neg (show ¬ nn (scI c) = (-1 : Int32) by rw [li1]; exact nn_ne_m1 (by omega))]
  dsimp only
  rw [a1, bs]
theorem em_ev {k10 : Int32 → Int32 → Int32 → Int32 → Int32 → Int32 → (Nat → Int32) → Int32 → Int32 → Int32 → Option (Int32 × Int32 × (Nat → Int32) × Int32 × Int32 × Int32)} {a : Option Nat} {L : List (Nat × Nat)} {steps : Nat → Int32} {rt x5 at' F' pt x4 : Int32} (ha : a = none ∨ a = some 2 ∨ a = some 3) (hl : L.length + pnO a ≤ 400) (hs : stC L steps) (hr : rtC L rt) :
    ∃ st' rt', mRuleReader_readSum_j59 k10 (aI a) x4 x5 tx (nn T) at' F' steps (nn L.length) pt rt (-nn 1) = mRuleReader_readSum_j81 k10 (-nn 1) x5 tx (nn T) at' F' st' (nn (emO a L).length) pt rt' ∧ stC (emO a L) st' ∧ rtC (emO a L) rt' := by
  unfold mRuleReader_readSum_j59
  rw [if_pos (show -nn 1 = (-1 : Int32) from rfl)]
  rcases ha with h | h | h
  · subst h
    rw [if_pos (show aI none = (-1 : Int32) from rfl)]
    exact ⟨steps, rt, rfl, hs, hr⟩
  · subst h
    have hl : L.length < 400 := by have : pnO (some 2) = 1 := rfl; omega
    obtain ⟨st', rt', a1, a2, a3⟩ := add_ev (c := (2, 0)) (x1 := (5 : Int32) + aI (some 2)) (x2 := (0 : Int32)) (L := L) rfl rfl ⟨by decide, by decide⟩ hl hs hr
    rw [if_neg (show ¬ aI (some 2) = (-1 : Int32) by decide), a1, bs]
    exact ⟨st', rt', rfl, a2, a3⟩
  · subst h
    have hl : L.length < 400 := by have : pnO (some 3) = 1 := rfl; omega
    obtain ⟨st', rt', a1, a2, a3⟩ := add_ev (c := (3, 0)) (x1 := (5 : Int32) + aI (some 3)) (x2 := (0 : Int32)) (L := L) rfl rfl ⟨by decide, by decide⟩ hl hs hr
    rw [if_neg (show ¬ aI (some 3) = (-1 : Int32) by decide), a1, bs]
    exact ⟨st', rt', rfl, a2, a3⟩
theorem c_j42_0 (hT : T ≤ 400) (hb : bR T b tx) {k10 : Int32 → Int32 → Int32 → Int32 → Int32 → Int32 → (Nat → Int32) → Int32 → Int32 → Int32 → Option (Int32 × Int32 × (Nat → Int32) × Int32 × Int32 × Int32)} {p : Nat} {x2 x4 x5 sz pt rt : Int32} {steps : Nat → Int32} (hp : p ≤ T) :
    mRuleReader_readSum_j42 k10 x2 x4 x5 tx (nn T) (nn p) (nn 0) steps sz pt rt = match scO (seB b T (skp b T p)) with | none => mRuleReader_readSum_j59 k10 x2 x4 x5 tx (nn T) (nn (skp b T p)) (nn 0) steps sz pt rt (-nn 1) | some k => k10 x2 (nn (scI k)) x4 (x5 + nn 1) (nn (skp b T p + 1)) (nn 0) steps sz pt rt := by
  unfold mRuleReader_readSum_j42
  rw [show mCursor_isFine (nn 0) = some (nn 1) from rfl, bs, ifn1, xc_takeSign hT hb okS_4 hp, bs, ts_sc]
  cases hs : scO (seB b T (skp b T p)) with
  | none => rfl
  | some k =>
    dsimp only
    unfold mRuleReader_readSum_j59
    have hci : scI k ≤ 2 := by unfold scI; repeat' split
                               all_goals omega
    rw [if_neg (show ¬ nn (scI k) = (-1 : Int32) by rw [li1]; exact nn_ne_m1 (by omega)), li1]
theorem c_j81_0 (hT : T ≤ 400) (hb : bR T b tx) {k10 : Int32 → Int32 → Int32 → Int32 → Int32 → Int32 → (Nat → Int32) → Int32 → Int32 → Int32 → Option (Int32 × Int32 × (Nat → Int32) × Int32 × Int32 × Int32)} {p : Nat} {x3 x5 sz pt rt : Int32} {steps : Nat → Int32} (hp : p ≤ T) :
    mRuleReader_readSum_j81 k10 x3 x5 tx (nn T) (nn p) (nn 0) steps sz pt rt = match adO (seB b T (skp b T p)) with | none => k10 (-nn 1) x3 (0 : Int32) (x5 + nn 1) (nn (skp b T p)) (nn 0) steps sz pt rt | some k => k10 (nn (k - 2)) x3 (nn 1) (x5 + nn 1) (nn (skp b T p + 1)) (nn 0) steps sz pt rt := by
  unfold mRuleReader_readSum_j81
  rw [show mCursor_isFine (nn 0) = some (nn 1) from rfl, bs, ifn1, xc_takeSign hT hb okS_5 hp, bs, ts_ad]
  cases hs : adO (seB b T (skp b T p)) with
  | none =>
    dsimp only
    rw [if_pos (show -nn 1 = (-1 : Int32) from rfl), li1]
  | some k =>
    dsimp only
    have hk : k - 2 ≤ 1 := by rcases adO_some hs with ⟨_, h⟩ | ⟨_, h⟩ <;> omega
    rw [if_neg (show ¬ nn (k - 2) = (-1 : Int32) by rw [li1]; exact nn_ne_m1 (by omega)), li1]
theorem c_tl (hT : T ≤ 400) (hb : bR T b tx) : ∀ (k : Nat) {j : Nat} (a : Option Nat) (s : RS) (n i : Nat) (steps : Nat → Int32) (rt : Int32), okR T (j + pnO a) s → (a = none ∨ a = some 2 ∨ a = some 3) → stC s.2.1 steps → rtC s.2.1 rt → T - s.1 < k → k < n → i + (T - s.1) ≤ 399 →
    (∀ F, tlS b T k a s = Except.error F → 0 < F ∧ F < 100000) → rsC T (tlS b T k a s) (mRuleReader_readSum_j42 (mRuleReader_readSum_l10 tx (nn T) n) (aI a) (nn 1) (nn i) tx (nn T) (nn s.1) (nn 0) steps (nn s.2.1.length) (nn s.2.2) rt) := by
  intro k
  induction k with
  | zero => intro j a s n i steps rt _ _ _ _ h; omega
  | succ k ih =>
    intro j a s n i steps rt h ha hs hr hk hn hi hFe
    obtain ⟨p, L, m⟩ := s
    have h0 := h
    obtain ⟨h1, h2, h3, h4⟩ := h
    dsimp only at h1 h2 h3 h4 hk hs hr hi hFe ⊢
    have hq := skp_le (b := b) h1
    have hq2 := skp_ge (b := b) h1
    have ha16 : ∀ k, a = some k → k < 16 := fun k hk => by rcases ha with h | h | h <;> rw [h] at hk <;> cases hk <;> omega
    rw [c_j42_0 hT hb h1]
    unfold tlS at hFe ⊢
    dsimp only at hFe ⊢
    generalize hQ : skp b T p = q at hq hq2 hFe
    have hQQ : skp b T q = q := by rw [← hQ]; exact skp_skp
    match n, hn with
    | n + 2, hn =>
    cases hs1 : scO (seB b T q) with
    | some c =>
      rw [hs1] at hFe
      dsimp only at hFe ⊢
      have hc := scO_some hs1
      have hlt : q < T := by rcases hc with ⟨h, _⟩ | ⟨h, _⟩ | ⟨h, _⟩ <;> exact seB_lt (by omega) h
      have hc3 : c = 4 ∨ c = 5 ∨ c = 14 := by rcases hc with ⟨_, h⟩ | ⟨_, h⟩ | ⟨_, h⟩ <;> omega
      have ho : okR T (j + pnO a + 1) (q + 1, L, m) := okR_sl h0 (by omega) (by omega) h4
      have hv := xc_value hT hb ho hs hr
      dsimp only at hv
      rw [nn_add]
      cases hva : vaS b T (q + 1, L, m) with
      | error F =>
        rw [hva] at hv hFe
        have hF := hFe F rfl
        exact turn_err (by omega) hF.1 hF.2 hv
      | ok s1 =>
        rw [hva] at hv hFe
        obtain ⟨⟨o1, o2, o3, o4⟩, w2, w3⟩ := vaS_ok ho hT hva
        dsimp only at w2 hFe ⊢
        obtain ⟨st2, rt2, a1, a2, a3⟩ := turn_s (n := n + 1) (i := i + 1) (x2 := aI a) (by omega) hc3 (by omega) hv
        rw [a1]
        exact ih (j := j) a (s1.1, s1.2.1 ++ [(c, 0)], s1.2.2) (n + 1) (i + 1) st2 rt2 ⟨o1, by rw [List.length_append, List.length_singleton]; dsimp only; omega, o3, okL_app o4 ⟨by dsimp only; omega, by dsimp only; omega⟩⟩ ha a2 a3 (by dsimp only; omega) (by omega) (by dsimp only; omega) hFe
    | none =>
      rw [hs1] at hFe
      dsimp only at hFe ⊢
      have hel := emO_len (a := a) (L := L)
      obtain ⟨st1, rt1, em1, em2, em3⟩ := em_ev (tx := tx) (T := T) (k10 := mRuleReader_readSum_l10 tx (nn T) (n + 2)) (x5 := nn i) (at' := nn q) (F' := nn 0) (pt := nn m) (x4 := nn 1) ha (by omega) hs hr
      rw [em1, c_j81_0 hT hb hq, hQQ]
      cases hs2 : adO (seB b T q) with
      | some c =>
        rw [hs2] at hFe
        dsimp only at hFe ⊢
        have hc := adO_some hs2
        have hlt : q < T := by rcases hc with ⟨h, _⟩ | ⟨h, _⟩ <;> exact seB_lt (by omega) h
        have ho : okR T (j + 1) (q + 1, emO a L, m) := okR_sl h0 (by omega) (by omega) (emO_ok h4 ha16)
        have hv := xc_value hT hb ho em2 em3
        dsimp only at hv
        rw [nn_add]
        cases hva : vaS b T (q + 1, emO a L, m) with
        | error F =>
          rw [hva] at hv hFe
          have hF := hFe F rfl
          exact turn_err (by omega) hF.1 hF.2 hv
        | ok s1 =>
          rw [hva] at hv hFe
          obtain ⟨o, w2, w3⟩ := vaS_ok ho hT hva
          dsimp only at w2 hFe ⊢
          obtain ⟨st2, rt2, a1, a2, a3⟩ := turn_n (n := n + 1) (i := i + 1) (x2 := nn (c - 2)) (by omega) hv
          rw [a1]
          exact ih (j := j) (some c) s1 (n + 1) (i + 1) st2 rt2 o (by rcases hc with ⟨_, h⟩ | ⟨_, h⟩ <;> subst h <;> simp) a2 a3 (by omega) (by omega) (by omega) hFe
      | none =>
        dsimp only
        rw [c_l10_0]
        exact ⟨st1, rt1, rfl, em2, em3⟩
end sumc
