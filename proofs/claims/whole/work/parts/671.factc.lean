/-! facts and tests: the class -/
def flE (T F : Nat) (r : Option (Int32 × Int32 × (Nat → Int32) × Int32 × Int32 × Int32)) : Prop := ∃ p' st' s' m' rt', r = some (nn p', nn F, st', nn s', nn m', rt') ∧ p' ≤ T ∧ s' ≤ 400 ∧ m' ≤ 100 ∧ (rt' = nn 0 ∨ rt' = nn 1)
def rsE (T : Nat) (x : Except Nat RS) (r : Option (Int32 × Int32 × (Nat → Int32) × Int32 × Int32 × Int32)) : Prop := match x with | .ok s => okC s r | .error F => flE T F r
section factc
variable {b tx : Nat → Int32} {T : Nat}
theorem ts_sg {c : Int32} {q : Nat} : tsS c q [60, 61, 62] 0 = match sgK c with | none => (-nn 1, nn q) | some k => (nn k, nn (q + 1)) := by
  unfold sgK
  unfold tsS
  by_cases e1 : c = nn 60
  · rw [if_pos e1, if_pos e1]
  rw [if_neg e1, if_neg e1]
  unfold tsS
  by_cases e2 : c = nn 61
  · rw [if_pos e2, if_pos e2]
  rw [if_neg e2, if_neg e2]
  unfold tsS
  by_cases e3 : c = nn 62
  · rw [if_pos e3, if_pos e3]
  rw [if_neg e3, if_neg e3]
  rfl
theorem sgK_lt {c : Int32} {k : Nat} (h : sgK c = some k) : k < 3 := by rcases sgK_some h with ⟨_, h⟩ | ⟨_, h⟩ | ⟨_, h⟩ <;> omega
theorem sh_dec : ∀ k, k < 3 → (((1 : Int32) <<< (nn k &&& 31)) ||| (0 : Int32)) = nn (cb (cdS k false)) := by decide +kernel
theorem sh_dec2 : ∀ k, k < 3 → ¬ k = 1 → (((1 : Int32) <<< (nn k &&& 31)) ||| (2 : Int32)) = nn (cb (cdS k true)) := by decide +kernel
/-- the sign, whatever the fault -/
theorem xc_sign (hT : T ≤ 400) (hb : bR T b tx) {p F m : Nat} (hp : p ≤ T) (hF : F < 100000) (hm : m ≤ 1000) :
    mRuleReader_readSign tx (nn T) (nn p) (nn F) (nn m) = some (match sgK (seB b T (skp b T p)) with
      | none => (nn 0, nn (skp b T p), nn (flt F 0 (skp b T p)), nn m)
      | some k => (nn (cb (cdS k (alB b T (skp b T p) k))), nn (skp b T p + 1 + (if alB b T (skp b T p) k = true then 1 else 0)), nn (if 60 ≤ m then flt F 3 (skp b T p) else F), nn (m + 1))) := by
  have hq := skp_le (b := b) hp
  unfold mRuleReader_readSign
  rw [xc_see hT hb hp, bs]
  dsimp only
  rw [xc_takeSign hT hb okS_9 hq, skp_skp, bs, ts_sg]
  generalize skp b T p = q at hq
  cases hk : sgK (seB b T q) with
  | none =>
    dsimp only
    rw [if_pos (show -nn 1 = (-1 : Int32) from rfl), li0, xc_fail hF, bs]
  | some k =>
    have hlt : q < T := by rcases sgK_some hk with ⟨h, _⟩ | ⟨h, _⟩ | ⟨h, _⟩ <;> exact seB_lt (by omega) h
    have hk3 := sgK_lt hk
    dsimp only
    rw [if_neg (show ¬ nn k = (-1 : Int32) by rw [li1]; exact nn_ne_m1 (by omega)), xc_count hF hm, bs]
    dsimp only
    have hj : alB b T q k = false → mRuleReader_readSign_j70 (nn k) tx (nn T) (nn (q + 1)) (nn (if 60 ≤ m then flt F 3 q else F)) (nn (m + 1)) = some (nn (cb (cdS k (alB b T q k))), nn (q + 1 + (if alB b T q k = true then 1 else 0)), nn (if 60 ≤ m then flt F 3 q else F), nn (m + 1)) := by
      intro ha
      unfold mRuleReader_readSign_j70 mRuleReader_readSign_j71
      rw [if_pos (show (0 : Int32) = 0 from rfl), if_pos (show (0 : Int32) = 0 from rfl), ha, sh_dec k hk3, if_neg (show ¬ false = true by decide), Nat.add_zero]
    by_cases e1 : k = 1
    · rw [if_pos (show nn k = (1 : Int32) by rw [e1]; rfl)]
      exact hj (by unfold alB; simp [e1])
    · rw [if_neg (show ¬ nn k = (1 : Int32) by rw [li1, nn_inj (by omega) (by omega)]; exact e1)]
      by_cases e2 : T ≤ q + 1
      · rw [ifle_t e2 (by omega)]
        exact hj (by unfold alB; simp; intro _ h; omega)
      · rw [ifle_f (by omega) (by omega), rq_inb (by omega) (by omega), nn_tn (by omega), hb (q + 1) (by omega), show (61 : Int32) = nn 61 from id rfl]
        by_cases e3 : b (q + 1) = nn 61
        · have ha : alB b T q k = true := by unfold alB; simp; exact ⟨e1, by omega, e3⟩
          rw [if_pos e3]
          unfold mRuleReader_readSign_j71
          rw [if_neg (show ¬ (1 : Int32) = 0 by decide), ltp, if_neg (show ¬ (1 : Int32) = 0 by decide), ha, sh_dec2 k hk3 e1, if_pos rfl, li1, nn_add]
        · rw [if_neg e3]
          exact hj (by unfold alB; simp; intro _ _; exact e3)
theorem c_cmp (hT : T ≤ 400) (hb : bR T b tx) {rT rF : Int32 → (Nat → Int32) → Int32 → Int32 → Int32 → (Nat → Int32) → Int32 → Int32 → Int32 → Option (Int32 × Int32 × (Nat → Int32) × Int32 × Int32 × Int32)} {x2 : Int32} {j : Nat} {s : RS} (h : okR T j s) {steps : Nat → Int32} {rt : Int32} (hs : stC s.2.1 steps) (hr : rtC s.2.1 rt) :
    rsE T (cmS b T s) (mRuleReader_readFactB_j63 rT rF x2 (0 : Int32) (0 : Int32) tx (nn T) (nn s.1) (nn 0) steps (nn s.2.1.length) (nn s.2.2) rt) := by
  have hv := xc_sum hT hb h hs hr
  unfold mRuleReader_readFactB_j63 cmS
  rw [if_pos (show (0 : Int32) = 0 from rfl), if_pos (show (0 : Int32) = 0 from rfl)]
  cases hsm : smS b T s with
  | error F =>
    rw [hsm] at hv
    obtain ⟨p', st', s', m', rt', v1, v2, v3, v4, v5⟩ := hv
    obtain ⟨F1, F2⟩ := smS_err hT h hsm
    rw [v1, bs]
    dsimp only
    have hq := skp_le (b := b) v2
    have hflt : ∀ k q, flt F k q = F := fun k q => by unfold flt; rw [if_neg (by omega)]
    rw [xc_sign hT hb v2 F2 (by omega), bs]
    cases hk : sgK (seB b T (skp b T p')) with
    | none =>
      dsimp only
      rw [hflt, xc_isFine F2, bs, ifb_f (by simp; omega)]
      exact ⟨_, _, _, _, _, rfl, hq, v3, by omega, v5⟩
    | some k =>
      have hlt : skp b T p' < T := by rcases sgK_some hk with ⟨h, _⟩ | ⟨h, _⟩ | ⟨h, _⟩ <;> exact seB_lt (by omega) h
      dsimp only
      have e : (if 60 ≤ m' then flt F 3 (skp b T p') else F) = F := by rw [hflt]; by_cases c : 60 ≤ m' <;> simp [c]
      rw [e, xc_isFine F2, bs, ifb_f (by simp; omega)]
      exact ⟨_, _, _, _, _, rfl, al_le hlt, v3, by omega, v5⟩
  | ok s1 =>
    rw [hsm] at hv
    obtain ⟨st', rt', v1, v2, v3⟩ := hv
    obtain ⟨⟨o1, o2, o3, o4⟩, o5⟩ := smS_ok hT h hsm
    rw [v1, bs]
    dsimp only
    have hq := skp_le (b := b) o1
    have hq2 := skp_ge (b := b) o1
    rw [xc_sign hT hb o1 (by omega) (by omega), bs]
    generalize skp b T s1.1 = q at hq hq2
    cases hk : sgK (seB b T q) with
    | none =>
      dsimp only
      rw [show flt 0 0 q = 1 + 8 * q from rfl, xc_isFine (by omega), bs, ifb_f (by simp)]
      exact ⟨_, _, _, _, _, rfl, hq, by omega, by omega, v3.1⟩
    | some k =>
      have hlt : q < T := by rcases sgK_some hk with ⟨h, _⟩ | ⟨h, _⟩ | ⟨h, _⟩ <;> exact seB_lt (by omega) h
      have hp := al_le (b := b) (k := k) hlt
      dsimp only
      by_cases e6 : s1.2.2 = 60
      · rw [if_pos e6, if_pos (show 60 ≤ s1.2.2 by omega), show flt 0 3 q = 1 + 8 * q + 3 from rfl, xc_isFine (by omega), bs, ifb_f (by simp)]
        exact ⟨_, _, _, _, _, rfl, hp, by omega, by omega, v3.1⟩
      · rw [if_neg e6, if_neg (show ¬ 60 ≤ s1.2.2 by omega), show mCursor_isFine (nn 0) = some (nn 1) from rfl, bs, ifn1]
        have ho : okR T (j + 1) (q + 1 + (if alB b T q k = true then 1 else 0), s1.2.1, s1.2.2 + 1) := ⟨hp, by dsimp only; omega, by dsimp only; omega, o4⟩
        have hv2 := xc_sum hT hb ho v2 v3
        dsimp only at hv2
        cases hs2 : smS b T (q + 1 + (if alB b T q k = true then 1 else 0), s1.2.1, s1.2.2 + 1) with
        | error F =>
          rw [hs2] at hv2
          obtain ⟨p', st', s', m', rt', v1, v2, v3, v4, v5⟩ := hv2
          rw [v1, bs]
          dsimp only
          obtain ⟨st2, s2, rt2, a1, a2, a3⟩ := add_tot (x1 := (10 : Int32)) (x2 := nn (cb (cdS k (alB b T q k)))) (steps := st') v3 v5
          rw [a1, bs]
          exact ⟨_, _, _, _, _, rfl, v2, a2, by omega, a3⟩
        | ok s2 =>
          rw [hs2] at hv2
          obtain ⟨⟨w1, w2, w3, w4⟩, w5⟩ := smS_ok hT ho hs2
          obtain ⟨st2, rt2, u1, u2, u3⟩ := hv2
          rw [u1, bs]
          dsimp only
          have hc := cdS_lt k (alB b T q k)
          have hck : (10 : Int32) = nn (ck (cdS k (alB b T q k))) := by
            have : ck (cdS k (alB b T q k)) = 10 := by
              generalize cdS k (alB b T q k) = z at hc
              unfold ck
              repeat' split
              all_goals omega
            rw [this]; rfl
          have hcn : nn (cb (cdS k (alB b T q k))) = nn (cn (cdS k (alB b T q k), 0)) := by
            unfold cn; rw [if_pos hc]
          obtain ⟨st3, rt3, a1, a2, a3⟩ := add_ev (c := (cdS k (alB b T q k), 0)) (L := s2.2.1) hck hcn ⟨by dsimp only; omega, by dsimp only; omega⟩ (by omega) u2 u3
          rw [a1, bs]
          exact ⟨st3, rt3, rfl, a2, a3⟩
section loop
variable {rT rF : Int32 → (Nat → Int32) → Int32 → Int32 → Int32 → (Nat → Int32) → Int32 → Int32 → Int32 → Option (Int32 × Int32 × (Nat → Int32) × Int32 × Int32 × Int32)} {x2 : Int32}
theorem t_l11_0 {n : Nat} {x3 x4 x6 at' F' : Int32} {steps : Nat → Int32} {sz pt rt : Int32} : mRuleReader_readTestB_l11 rT rF tx (nn T) x2 (n + 1) x3 x4 (0 : Int32) x6 at' F' steps sz pt rt = some (at', F', steps, sz, pt, rt) := by
  unfold mRuleReader_readTestB_l11
  by_cases e : (400 : Int32) ≤ x6
  · rw [if_pos e]
  · rw [if_neg e, if_pos rfl]
theorem t_j41_fl {n p F s m : Nat} {x3 x5 x6 : Int32} {steps : Nat → Int32} {rt : Int32} (hF : 0 < F) (hF2 : F < 100000) (hp : p ≤ T) (hs : s ≤ 400) (hm : m ≤ 100) (hr : rt = nn 0 ∨ rt = nn 1) :
    flE T F (mRuleReader_readTestB_j41 rT rF (mRuleReader_readTestB_l11 rT rF tx (nn T) x2 (n + 1)) x2 x3 x5 x6 tx (nn T) (nn p) (nn F) steps (nn s) (nn m) rt) := by
  have hf : mCursor_isFine (nn F) = some (nn 0) := by rw [xc_isFine hF2, b01_f (by simp; omega)]
  have j83 : ∀ (x4 : Int32) (st : Nat → Int32) (s : Nat) (rt : Int32), s ≤ 400 → (rt = nn 0 ∨ rt = nn 1) → flE T F (mRuleReader_readTestB_j83 rT rF (mRuleReader_readTestB_l11 rT rF tx (nn T) x2 (n + 1)) x2 x4 x6 tx (nn T) (nn p) (nn F) st (nn s) (nn m) rt) := by
    intro x4 st s rt hs hr
    unfold mRuleReader_readTestB_j83
    rw [hf, bs, ifn0, t_l11_0]
    exact ⟨p, st, s, m, rt, rfl, hp, hs, hm, hr⟩
  unfold mRuleReader_readTestB_j41
  rw [hf, bs, ifn0]
  unfold mRuleReader_readTestB_j62 mRuleReader_readTestB_j63
  rw [if_pos rfl]
  by_cases e : x3 = (0 : Int32)
  · rw [if_pos e]
    obtain ⟨st', s', rt', a1, a2, a3⟩ := add_tot (x1 := (4 : Int32)) (x2 := (0 : Int32)) (steps := steps) hs hr
    rw [a1, bs]
    exact j83 _ st' s' rt' a2 a3
  · rw [if_neg e]; exact j83 _ _ s rt hs hr
theorem em_add {k : Nat} {x1 : Int32} {jo : Bool} {L : List (Nat × Nat)} {steps : Nat → Int32} {rt : Int32} (hk : (k = 12 ∧ x1 = 3) ∨ (k = 13 ∧ x1 = 4)) (hl : L.length + (if jo = true then 1 else 0) ≤ 400) (hs : stC L steps) (hr : rtC L rt) : jo = true → ∃ st' rt', mRule_add x1 (0 : Int32) steps (nn L.length) rt = some (st', nn (emO (if jo = true then some k else none) L).length, rt') ∧ stC (emO (if jo = true then some k else none) L) st' ∧ rtC (emO (if jo = true then some k else none) L) rt' := by
  intro hj
  rw [hj] at hl ⊢
  rw [if_pos rfl] at hl ⊢
  have h1 : x1 = nn (ck (k, 0).1) := by rcases hk with ⟨h, h2⟩ | ⟨h, h2⟩ <;> rw [h, h2] <;> rfl
  have h2 : (0 : Int32) = nn (cn (k, 0)) := by rcases hk with ⟨h, _⟩ | ⟨h, _⟩ <;> rw [h] <;> rfl
  exact add_ev (c := (k, 0)) h1 h2 ⟨by dsimp only; omega, by dsimp only; omega⟩ (by omega) hs hr
/-- behind a fact that is joined -/
theorem t_j41 (hT : T ≤ 400) (hb : bR T b tx) {k11 : Int32 → Int32 → Int32 → Int32 → Int32 → Int32 → (Nat → Int32) → Int32 → Int32 → Int32 → Option (Int32 × Int32 × (Nat → Int32) × Int32 × Int32 × Int32)} {p m i : Nat} {L : List (Nat × Nat)} {fi : Bool} {steps : Nat → Int32} {rt : Int32} (hp : p ≤ T) (hl : L.length + (if fi = true then 0 else 1) ≤ 400) (hs : stC L steps) (hr : rtC L rt) :
    (run b T (skp b T p) = wAnd → mRuleReader_readTestB_j41 rT rF k11 x2 (b01 (fi = true)) (nn 1) (nn i) tx (nn T) (nn p) (nn 0) steps (nn L.length) (nn m) rt = k11 (b01 (fi = true)) (nn 1) (nn 1) (nn (i + 1)) (nn (skp b T p + 3)) (nn 0) steps (nn L.length) (nn m) rt) ∧
    (¬ run b T (skp b T p) = wAnd → ∃ st' rt', stC (emO (if fi = true then none else some 13) L) st' ∧ rtC (emO (if fi = true then none else some 13) L) rt' ∧ mRuleReader_readTestB_j41 rT rF k11 x2 (b01 (fi = true)) (nn 1) (nn i) tx (nn T) (nn p) (nn 0) steps (nn L.length) (nn m) rt =
      if run b T (skp b T p) = wOr then k11 (nn 0) (nn 0) (nn 1) (nn (i + 1)) (nn (skp b T p + 2)) (nn 0) st' (nn (emO (if fi = true then none else some 13) L).length) (nn m) rt' else k11 (nn 0) (nn 0) (0 : Int32) (nn (i + 1)) (nn (skp b T p)) (nn 0) st' (nn (emO (if fi = true then none else some 13) L).length) (nn m) rt') := by
  have hq := skp_le (b := b) hp
  have hL : ∀ c, c ∈ ([[97, 110, 100]] : List (List Nat)) → ∀ d, d ∈ c → 97 ≤ d ∧ d ≤ 122 := by decide
  have hL2 : ∀ c, c ∈ ([[111, 114]] : List (List Nat)) → ∀ d, d ∈ c → 97 ≤ d ∧ d ≤ 122 := by decide
  have e1 : nn i + (1 : Int32) = nn (i + 1) := by rw [li1, nn_add]
  unfold mRuleReader_readTestB_j41
  rw [show mCursor_isFine (nn 0) = some (nn 1) from rfl, bs, ifn1, xc_takeWord hT hb okS_10 hL (by decide) hp, bs]
  have hqq := skp_skp (b := b) (T := T) (p := p)
  generalize skp b T p = q at hq hqq
  unfold twS twS
  constructor
  · intro e
    rw [if_pos (show run b T q = [97, 110, 100] from e), show ([97, 110, 100] : List Nat).length = 3 from rfl]
    dsimp only
    rw [if_neg (show ¬ nn 0 = (-1 : Int32) by decide)]
    unfold mRuleReader_readTestB_j63
    rw [if_neg (show ¬ (1 : Int32) = 0 by decide), e1]
    rfl
  · intro e
    rw [if_neg (show ¬ run b T q = [97, 110, 100] from e)]
    dsimp only
    rw [if_pos (show -nn 1 = (-1 : Int32) from rfl)]
    have j83 : ∀ (sz : Int32) (st : Nat → Int32) (rt : Int32), mRuleReader_readTestB_j83 rT rF k11 x2 (0 : Int32) (nn i) tx (nn T) (nn q) (nn 0) st sz (nn m) rt = if run b T q = wOr then k11 (nn 0) (nn 0) (nn 1) (nn (i + 1)) (nn (q + 2)) (nn 0) st sz (nn m) rt else k11 (nn 0) (nn 0) (0 : Int32) (nn (i + 1)) (nn q) (nn 0) st sz (nn m) rt := by
      intro sz st rt
      unfold mRuleReader_readTestB_j83
      rw [show mCursor_isFine (nn 0) = some (nn 1) from rfl, bs, ifn1, xc_takeWord hT hb okS_11 hL2 (by decide) hq, hqq, bs, e1]
      unfold twS twS
      by_cases e2 : run b T q = wOr
      · rw [if_pos e2, if_pos (show run b T q = [111, 114] from e2), show ([111, 114] : List Nat).length = 2 from rfl]
        dsimp only
        rw [if_neg (show ¬ nn 0 = (-1 : Int32) by decide)]
        rfl
      · rw [if_neg e2, if_neg (show ¬ run b T q = [111, 114] from e2)]
        dsimp only
        rw [if_pos (show -nn 1 = (-1 : Int32) from rfl)]
        rfl
    unfold mRuleReader_readTestB_j62 mRuleReader_readTestB_j63
    rw [if_pos (show (0 : Int32) = 0 from rfl)]
    cases fi with
    | true =>
      rw [if_neg (show ¬ b01 (true = true) = (0 : Int32) by decide), j83]
      exact ⟨steps, rt, hs, hr, rfl⟩
    | false =>
      obtain ⟨st', rt', a1, a2, a3⟩ := add_ev (c := (13, 0)) (x1 := (4 : Int32)) (x2 := (0 : Int32)) rfl rfl ⟨by decide, by decide⟩ (by simp at hl; omega) hs hr
      rw [if_pos (show b01 (false = true) = (0 : Int32) from rfl), a1, bs]
      dsimp only
      rw [j83]
      exact ⟨st', rt', a2, a3, rfl⟩
theorem c_te (hT : T ≤ 400) (hb : bR T b tx) {f : RS → Except Nat RS} (hg : gdF T f) (hf : ∀ (j : Nat) (s : RS) (steps : Nat → Int32) (rt : Int32), okR T j s → stC s.2.1 steps → rtC s.2.1 rt → rsE T (f s) (rF x2 tx (nn T) (nn s.1) (nn 0) steps (nn s.2.1.length) (nn s.2.2) rt)) :
    ∀ (k : Nat) (fi jo : Bool) (j : Nat) (s : RS) (n i : Nat) (steps : Nat → Int32) (rt : Int32), okR T (j + pd fi jo) s → stC s.2.1 steps → rtC s.2.1 rt → T - s.1 < k → k < n → i + (T - s.1) ≤ 400 → i < 400 →
      rsE T (teL b T f k fi jo s) (mRuleReader_readTestB_l11 rT rF tx (nn T) x2 n (b01 (fi = true)) (b01 (jo = true)) (nn 1) (nn i) (nn s.1) (nn 0) steps (nn s.2.1.length) (nn s.2.2) rt) := by
  intro k
  induction k with
  | zero => intro fi jo j s n i steps rt _ _ _ h; omega
  | succ k ih =>
    intro fi jo j s n i steps rt h hs hr hk hn hi hi4
    match n, hn with
    | n + 2, hn =>
    obtain ⟨f1, f2⟩ := hg _ s h
    have hv := hf _ s steps rt h hs hr
    unfold teL
    conv => rhs; unfold mRuleReader_readTestB_l11
    rw [show (400 : Int32) = nn 400 from id rfl, ifle_f (by omega) (by omega), ifn1]
    cases hfs : f s with
    | error F =>
      rw [hfs] at hv
      obtain ⟨F1, F2⟩ := f1 F hfs
      obtain ⟨p', st', s', m', rt', v1, v2, v3, v4, v5⟩ := hv
      rw [v1, bs]
      dsimp only
      cases jo with
      | false =>
        rw [if_pos (show b01 (false = true) = (0 : Int32) from rfl)]
        exact t_j41_fl F1 F2 v2 v3 v4 v5
      | true =>
        rw [if_neg (show ¬ b01 (true = true) = (0 : Int32) by decide)]
        obtain ⟨st2, s2, rt2, a1, a2, a3⟩ := add_tot (x1 := (3 : Int32)) (x2 := (0 : Int32)) (steps := st') v3 v5
        rw [a1, bs]
        exact t_j41_fl F1 F2 v2 a2 v4 a3
    | ok s1 =>
      rw [hfs] at hv
      obtain ⟨⟨o1, o2, o3, o4⟩, o5⟩ := f2 s1 hfs
      obtain ⟨st', rt', v1, v2, v3⟩ := hv
      have hq := skp_le (b := b) o1
      have hq2 := skp_ge (b := b) o1
      unfold pd at o2
      have l1 := emO_len (a := if jo = true then some 12 else none) (L := s1.2.1)
      have l2 := emO_len (a := if fi = true then none else some 13) (L := emO (if jo = true then some 12 else none) s1.2.1)
      have hj : pnO (if jo = true then some 12 else none) = if jo = true then 1 else 0 := by cases jo <;> rfl
      have hi' : pnO (if fi = true then none else some 13) = if fi = true then 0 else 1 := by cases fi <;> rfl
      have k1 : okL (emO (if jo = true then some 12 else none) s1.2.1) := emO_ok o4 (fun k hk => by cases jo <;> simp at hk; omega)
      have k2 : okL (emO (if fi = true then none else some 13) (emO (if jo = true then some 12 else none) s1.2.1)) := emO_ok k1 (fun k hk => by cases fi <;> simp at hk; omega)
      rw [v1, bs]
      dsimp only
      have key : ∃ st2 rt2, stC (emO (if jo = true then some 12 else none) s1.2.1) st2 ∧ rtC (emO (if jo = true then some 12 else none) s1.2.1) rt2 ∧
          (if b01 (jo = true) = (0 : Int32) then mRuleReader_readTestB_j41 rT rF (mRuleReader_readTestB_l11 rT rF tx (nn T) x2 (n + 1)) x2 (b01 (fi = true)) (nn 1) (nn i) tx (nn T) (nn s1.1) (nn 0) st' (nn s1.2.1.length) (nn s1.2.2) rt'
            else (mRule_add (3 : Int32) (0 : Int32) st' (nn s1.2.1.length) rt').bind (fun q16 => mRuleReader_readTestB_j41 rT rF (mRuleReader_readTestB_l11 rT rF tx (nn T) x2 (n + 1)) x2 (b01 (fi = true)) (nn 1) (nn i) tx (nn T) (nn s1.1) (nn 0) q16.1 q16.2.1 (nn s1.2.2) q16.2.2)) =
          mRuleReader_readTestB_j41 rT rF (mRuleReader_readTestB_l11 rT rF tx (nn T) x2 (n + 1)) x2 (b01 (fi = true)) (nn 1) (nn i) tx (nn T) (nn s1.1) (nn 0) st2 (nn (emO (if jo = true then some 12 else none) s1.2.1).length) (nn s1.2.2) rt2 := by
        cases jo with
        | false => exact ⟨st', rt', v2, v3, if_pos rfl⟩
        | true =>
          obtain ⟨st2, rt2, a1, a2, a3⟩ := add_ev (c := (12, 0)) (x1 := (3 : Int32)) (x2 := (0 : Int32)) rfl rfl ⟨by decide, by decide⟩ (by simp at o2; omega) v2 v3
          refine ⟨st2, rt2, a2, a3, ?_⟩
          rw [if_neg (show ¬ b01 (true = true) = (0 : Int32) by decide), a1, bs]
          rfl
      obtain ⟨st2, rt2, b2, b3, b1⟩ := key
      rw [b1]
      obtain ⟨c1, c2⟩ := t_j41 (rT := rT) (rF := rF) (x2 := x2) (k11 := mRuleReader_readTestB_l11 rT rF tx (nn T) x2 (n + 1)) (m := s1.2.2) (i := i) (fi := fi) hT hb o1 (by omega) b2 b3
      generalize skp b T s1.1 = q at hq hq2 c1 c2
      by_cases e1 : run b T q = wAnd
      · rw [if_pos e1, c1 e1]
        have hw : q + 3 ≤ T := run_pos e1 hq
        exact ih fi true j (q + 3, emO (if jo = true then some 12 else none) s1.2.1, s1.2.2) (n + 1) (i + 1) st2 rt2 ⟨hw, by unfold pd; rw [if_pos rfl]; dsimp only; omega, o3, k1⟩ b2 b3 (by dsimp only; omega) (by omega) (by dsimp only; omega) (by omega)
      · rw [if_neg e1]
        obtain ⟨st3, rt3, d2, d3, d1⟩ := c2 e1
        rw [d1]
        by_cases e2 : run b T q = wOr
        · rw [if_pos e2, if_pos e2]
          have hw : q + 2 ≤ T := run_pos e2 hq
          exact ih false false j (q + 2, emO (if fi = true then none else some 13) (emO (if jo = true then some 12 else none) s1.2.1), s1.2.2) (n + 1) (i + 1) st3 rt3 ⟨hw, by show _ + (j + 1) ≤ q + 2; dsimp only; omega, o3, k2⟩ d2 d3 (by dsimp only; omega) (by omega) (by dsimp only; omega) (by omega)
        · rw [if_neg e2, if_neg e2, t_l11_0]
          exact ⟨st3, rt3, rfl, d2, d3⟩
end loop
theorem c_fact (hT : T ≤ 400) (hb : bR T b tx) : ∀ (r d j : Nat) (s : RS) (steps : Nat → Int32) (rt : Int32), r ≤ 10 → 2 * r + 1 ≤ d → okR T j s → stC s.2.1 steps → rtC s.2.1 rt →
    rsE T (faS b T r s) (mRR d false (nn (10 - r)) tx (nn T) (nn s.1) (nn 0) steps (nn s.2.1.length) (nn s.2.2) rt) := by
  have hL : ∀ c, c ∈ ([[110, 111, 116]] : List (List Nat)) → ∀ d, d ∈ c → 97 ≤ d ∧ d ≤ 122 := by decide
  -- the begin
  have beg : ∀ (d j : Nat) (x2 : Int32) (s : RS) (steps : Nat → Int32) (rt : Int32), okR T j s →
      mRR (d + 1) false x2 tx (nn T) (nn s.1) (nn 0) steps (nn s.2.1.length) (nn s.2.2) rt =
        if run b T (skp b T s.1) = wNot then mRuleReader_readFactB_j47 (mRR d true) (mRR d false) x2 (b01 (decide (seB b T (skp b T s.1) = nn 91) = true)) (nn (skp b T s.1)) (nn 1) tx (nn T) (nn (skp b T s.1 + 3)) (nn 0) steps (nn s.2.1.length) (nn s.2.2) rt
        else if seB b T (skp b T s.1) = nn 91 then mRuleReader_readFactB_j47 (mRR d true) (mRR d false) x2 (nn 1) (nn (skp b T s.1)) (0 : Int32) tx (nn T) (nn (skp b T s.1)) (nn 0) steps (nn s.2.1.length) (nn s.2.2) rt
        else mRuleReader_readFactB_j63 (mRR d true) (mRR d false) x2 (0 : Int32) (0 : Int32) tx (nn T) (nn (skp b T s.1)) (nn 0) steps (nn s.2.1.length) (nn s.2.2) rt := by
    intro d j x2 s steps rt h
    have hq := skp_le (b := b) h.1
    conv => lhs; unfold mRR
    unfold mRuleReader_readFactB
    rw [xc_see hT hb h.1, bs]
    dsimp only
    have hqq := skp_skp (b := b) (T := T) (p := s.1)
    generalize skp b T s.1 = q at hq hqq
    rw [show (91 : Int32) = nn 91 from id rfl]
    by_cases e0 : run b T q = wNot
    · rw [if_pos e0]
      by_cases e1 : seB b T q = nn 91
      · rw [if_pos e1]
        unfold mRuleReader_readFactB_j14
        rw [xc_takeWord hT hb okS_7 hL (by decide) hq, hqq, bs]
        unfold twS twS
        rw [if_pos (show run b T q = [110, 111, 116] from e0), show ([110, 111, 116] : List Nat).length = 3 from rfl]
        dsimp only
        rw [if_neg (show ¬ nn 0 = (-1 : Int32) by decide)]
        unfold mRuleReader_readFactB_j36
        rw [if_neg (show ¬ (1 : Int32) = 0 by decide), b01_t (decide_eq_true e1)]
        rfl
      · rw [if_neg e1]
        unfold mRuleReader_readFactB_j14
        rw [xc_takeWord hT hb okS_7 hL (by decide) hq, hqq, bs]
        unfold twS twS
        rw [if_pos (show run b T q = [110, 111, 116] from e0), show ([110, 111, 116] : List Nat).length = 3 from rfl]
        dsimp only
        rw [if_neg (show ¬ nn 0 = (-1 : Int32) by decide)]
        unfold mRuleReader_readFactB_j36
        rw [if_pos (show (0 : Int32) = 0 from rfl), if_neg (show ¬ (1 : Int32) = 0 by decide), b01_f (by simp; exact e1)]
        rfl
    · rw [if_neg e0]
      by_cases e1 : seB b T q = nn 91
      · rw [if_pos e1, if_pos e1]
        unfold mRuleReader_readFactB_j14
        rw [xc_takeWord hT hb okS_7 hL (by decide) hq, hqq, bs]
        unfold twS twS
        rw [if_neg (show ¬ run b T q = [110, 111, 116] from e0)]
        dsimp only
        rw [if_pos (show -nn 1 = (-1 : Int32) from rfl)]
        unfold mRuleReader_readFactB_j36
        rw [if_neg (show ¬ (1 : Int32) = 0 by decide)]
        rfl
      · rw [if_neg e1, if_neg e1]
        unfold mRuleReader_readFactB_j14
        rw [xc_takeWord hT hb okS_7 hL (by decide) hq, hqq, bs]
        unfold twS twS
        rw [if_neg (show ¬ run b T q = [110, 111, 116] from e0)]
        dsimp only
        rw [if_pos (show -nn 1 = (-1 : Int32) from rfl)]
        unfold mRuleReader_readFactB_j36
        rw [if_pos (show (0 : Int32) = 0 from rfl), if_pos (show (0 : Int32) = 0 from rfl)]
  intro r
  induction r with
  | zero =>
    intro d j s steps rt hr10 hd h hs hr
    match d, hd with
    | d + 1, hd =>
    have hq := skp_le (b := b) h.1
    have hq2 := skp_ge (b := b) h.1
    rw [beg d j _ s steps rt h]
    unfold faS
    generalize skp b T s.1 = q at hq hq2
    have deep : ∀ (x3 x5 p' : Int32) (p : Nat), p ≤ T → flE T (1 + 8 * q + 2) (mRuleReader_readFactB_j47 (mRR d true) (mRR d false) (nn (10 - 0)) x3 (nn q) x5 tx (nn T) (nn p) (nn 0) steps (nn s.2.1.length) (nn s.2.2) rt) := by
      intro x3 x5 p' p hp
      unfold mRuleReader_readFactB_j47
      rw [if_neg (show ¬ nn (10 - 0) < (10 : Int32) by decide), show (2 : Int32) = nn 2 from id rfl, xc_fail (by omega), bs]
      have := h.2.1
      have := h.2.2.1
      exact ⟨_, _, _, _, _, rfl, hp, by omega, by omega, hr.1⟩
    by_cases e0 : run b T q = wNot
    · rw [if_pos e0, if_pos (Or.inl e0)]
      exact deep _ _ (nn 0) _ (run_pos e0 hq)
    · rw [if_neg e0]
      by_cases e1 : seB b T q = nn 91
      · rw [if_pos e1, if_pos (Or.inr e1)]
        exact deep _ _ (nn 0) _ hq
      · rw [if_neg e1, if_neg (fun h => h.elim e0 e1)]
        exact c_cmp hT hb (s := (q, s.2.1, s.2.2)) (j := j) ⟨hq, by have := h.2.1; dsimp only; omega, h.2.2.1, h.2.2.2⟩ hs hr
  | succ r ih =>
    intro d j s steps rt hr10 hd h hs hr
    match d, hd with
    | d + 2, hd =>
    have hq := skp_le (b := b) h.1
    have hq2 := skp_ge (b := b) h.1
    have h2 := h.2.1
    have hx : nn (10 - (r + 1)) + (1 : Int32) = nn (10 - r) := by rw [li1, nn_add]; congr 1; omega
    have hx10 : nn (10 - (r + 1)) < (10 : Int32) := by rw [show (10 : Int32) = nn 10 from id rfl, nn_lt (by omega) (by omega)]; omega
    rw [beg (d + 1) j _ s steps rt h]
    unfold faS
    generalize skp b T s.1 = q at hq hq2
    by_cases e0 : run b T q = wNot
    · rw [if_pos e0, if_pos e0]
      have hw : q + 3 ≤ T := run_pos e0 hq
      unfold mRuleReader_readFactB_j47
      rw [if_pos hx10]
      unfold mRuleReader_readFactB_j63
      rw [if_neg (show ¬ nn 1 = (0 : Int32) by decide), hx]
      have ho : okR T (j + 1) (q + 3, s.2.1, s.2.2) := ⟨hw, by dsimp only; omega, h.2.2.1, h.2.2.2⟩
      have hv := ih (d + 1) (j + 1) (q + 3, s.2.1, s.2.2) steps rt (by omega) (by omega) ho hs hr
      dsimp only at hv
      cases hf : faS b T r (q + 3, s.2.1, s.2.2) with
      | error F =>
        rw [hf] at hv
        obtain ⟨p', st', s', m', rt', v1, v2, v3, v4, v5⟩ := hv
        rw [v1, bs]
        dsimp only
        obtain ⟨st2, s2, rt2, a1, a2, a3⟩ := add_tot (x1 := (2 : Int32)) (x2 := (0 : Int32)) (steps := st') v3 v5
        rw [a1, bs]
        exact ⟨_, _, _, _, _, rfl, v2, a2, v4, a3⟩
      | ok s1 =>
        rw [hf] at hv
        obtain ⟨⟨o1, o2, o3, o4⟩, o5⟩ := (gd_fa (b := b) hT r (j + 1) _ ho).2 _ hf
        obtain ⟨st', rt', v1, v2, v3⟩ := hv
        rw [v1, bs]
        dsimp only
        obtain ⟨st2, rt2, a1, a2, a3⟩ := add_ev (c := (11, 0)) (x1 := (2 : Int32)) (x2 := (0 : Int32)) rfl rfl ⟨by decide, by decide⟩ (by omega) v2 v3
        rw [a1, bs]
        exact ⟨st2, rt2, rfl, a2, a3⟩
    · rw [if_neg e0, if_neg e0]
      by_cases e1 : seB b T q = nn 91
      · rw [if_pos e1, if_pos e1]
        have hlt := seB_lt (b := b) (by omega) e1
        unfold mRuleReader_readFactB_j47
        rw [if_pos hx10]
        unfold mRuleReader_readFactB_j63
        rw [if_pos (show (0 : Int32) = 0 from rfl), if_neg (show ¬ nn 1 = (0 : Int32) by decide), ltp, hx, li1, nn_add]
        have ho : okR T j (q + 1, s.2.1, s.2.2) := ⟨by dsimp only; omega, by dsimp only; omega, h.2.2.1, h.2.2.2⟩
        have hv : rsE T (teL b T (faS b T r) 401 true false (q + 1, s.2.1, s.2.2)) (mRR (d + 1) true (nn (10 - r)) tx (nn T) (nn (q + 1)) (nn 0) steps (nn s.2.1.length) (nn s.2.2) rt) := by
          unfold mRR mRuleReader_readTestB
          exact c_te hT hb (gd_fa (b := b) hT r) (fun j' s' st' rt' a1 a2 a3 => ih d j' s' st' rt' (by omega) (by omega) a1 a2 a3) 401 true false j (q + 1, s.2.1, s.2.2) FU 0 steps rt ho hs hr (by dsimp only; omega) (by unfold FU; omega) (by dsimp only; omega) (by omega)
        cases hf : teL b T (faS b T r) 401 true false (q + 1, s.2.1, s.2.2) with
        | error F =>
          rw [hf] at hv
          have hF := (gd_te (b := b) hT (gd_fa (b := b) hT r) 401 true false j (q + 1, s.2.1, s.2.2) ho (by dsimp only; omega)).1 F hf
          obtain ⟨p', st', s', m', rt', v1, v2, v3, v4, v5⟩ := hv
          rw [v1, bs]
          dsimp only
          rw [xc_isFine hF.2, bs, ifb_f (by simp; omega)]
          exact ⟨_, _, _, _, _, rfl, v2, v3, v4, v5⟩
        | ok s1 =>
          rw [hf] at hv
          obtain ⟨⟨o1, o2, o3, o4⟩, o5, o6⟩ := (gd_te (b := b) hT (gd_fa (b := b) hT r) 401 true false j (q + 1, s.2.1, s.2.2) ho (by dsimp only; omega)).2 s1 hf
          obtain ⟨st', rt', v1, v2, v3⟩ := hv
          rw [v1, bs]
          dsimp only
          rw [show mCursor_isFine (nn 0) = some (nn 1) from rfl, bs, ifn1, xc_takeSign hT hb okS_8 o1, bs]
          have hr1 := skp_le (b := b) o1
          generalize skp b T s1.1 = q1 at hr1
          unfold tsS tsS
          by_cases e3 : seB b T q1 = nn 93
          · rw [if_pos e3, if_pos e3]
            dsimp only
            rw [if_neg (show ¬ nn 0 = -nn 1 by decide)]
            exact ⟨st', rt', rfl, v2, v3⟩
          · rw [if_neg e3, if_neg e3]
            dsimp only
            rw [if_pos (show -nn 1 = -nn 1 from rfl), li0, xc_fail (by omega), bs, show flt 0 0 q1 = 1 + 8 * q1 from rfl]
            exact ⟨_, _, _, _, _, rfl, hr1, by omega, by omega, v3.1⟩
      · rw [if_neg e1, if_neg e1]
        exact c_cmp hT hb (s := (q, s.2.1, s.2.2)) (j := j) ⟨hq, by dsimp only; omega, h.2.2.1, h.2.2.2⟩ hs hr
theorem c_tst (hT : T ≤ 400) (hb : bR T b tx) {d r j : Nat} (hr10 : r = 10) (hd : 2 * r + 1 ≤ d) {s : RS} (h : okR T j s) {steps : Nat → Int32} {rt : Int32} (hs : stC s.2.1 steps) (hr : rtC s.2.1 rt) :
    rsE T (teL b T (faS b T r) 401 true false s) (mRR (d + 1) true (nn (10 - r)) tx (nn T) (nn s.1) (nn 0) steps (nn s.2.1.length) (nn s.2.2) rt) := by
  unfold mRR mRuleReader_readTestB
  have h1 := h.1
  exact c_te hT hb (gd_fa (b := b) hT r) (fun j' s' st' rt' a1 a2 a3 => c_fact hT hb r d j' s' st' rt' (by omega) hd a1 a2 a3) 401 true false j s FU 0 steps rt h hs hr (by omega) (by unfold FU; omega) (by omega) (by omega)
/-- the test of a clause -/
theorem xc_test (hT : T ≤ 400) (hb : bR T b tx) {j : Nat} {s : RS} (h : okR T j s) {steps : Nat → Int32} {rt : Int32} (hs : stC s.2.1 steps) (hr : rtC s.2.1 rt) :
    rsE T (teL b T (faS b T 10) 401 true false s) (mRuleReader_readTest (0 : Int32) tx (nn T) (nn s.1) (nn 0) steps (nn s.2.1.length) (nn s.2.2) rt) := by
  unfold mRuleReader_readTest
  have := c_tst hT hb (d := 39) (r := 10) rfl (by omega) h hs hr
  rw [show 10 - 10 = 0 from rfl, show 39 + 1 = 40 from rfl] at this
  rw [li0]
  exact this
end factc
