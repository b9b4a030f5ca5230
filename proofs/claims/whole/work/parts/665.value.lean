/-! values of rules -/
/-- what is read so far: the place, the codes, the parts -/
abbrev RS : Type := Nat × List (Nat × Nat) × Nat
def stC (L : List (Nat × Nat)) (steps : Nat → Int32) : Prop := ∀ i c, L[i]? = some c → steps i = nn (ck c.1 + 16 * cn c)
def sgM (t : Nat) (L : List (Nat × Nat)) (sign : Nat → Int32) : Prop := ∀ i c, L[i]? = some c → sign (400 * t + i) = nn (c.1 + 16 * c.2)
def rtC (L : List (Nat × Nat)) (rt : Int32) : Prop := (rt = nn 0 ∨ rt = nn 1) ∧ (rt = nn 0 → ∀ c, c ∈ L → c.1 = 1 → c.2 < 10)
def okL (L : List (Nat × Nat)) : Prop := ∀ c, c ∈ L → c.1 < 16 ∧ c.2 < 100000
theorem app_get {α : Type} {L : List α} {c d : α} {i : Nat} (h : (L ++ [c])[i]? = some d) : (i < L.length ∧ L[i]? = some d) ∨ (i = L.length ∧ d = c) := by
  by_cases e : i < L.length
  · rw [List.getElem?_append_left e] at h
    exact Or.inl ⟨e, h⟩
  · rw [List.getElem?_append_right (by omega)] at h
    by_cases e2 : i = L.length
    · subst e2
      rw [Nat.sub_self] at h
      exact Or.inr ⟨rfl, by simpa using h.symm⟩
    · have : ([c] : List α)[i - L.length]? = none := List.getElem?_eq_none (by rw [List.length_singleton]; omega)
      rw [this] at h
      cases h
theorem sh4 {a k : Nat} (ha : a < 100000) (hk : k < 16) : (nn a <<< ((4 : Int32) &&& 31)) ||| nn k = nn (k + 16 * a) := by
  apply Int32.toBitVec_inj.1
  apply BitVec.eq_of_toNat_eq
  have n1 : ∀ k, k < 2147483648 → (nn k).toBitVec.toNat = k := fun k h => by
    show (BitVec.ofNat 32 k).toNat = k
    rw [BitVec.toNat_ofNat]; omega
  have e2 : ((4 : Int32) &&& 31) = (4 : Int32) := by decide
  rw [e2, Int32.toBitVec_or, BitVec.toNat_or, n1 k (by omega), Int32.toBitVec_shiftLeft]
  have e3 : ((4 : Int32).toBitVec.smod 32) = 4#32 := by decide
  rw [e3, BitVec.shiftLeft_eq', BitVec.toNat_shiftLeft, n1 a (by omega), n1 _ (by omega), show (4#32 : BitVec 32).toNat = 4 from rfl]
  have e4 : a <<< 4 = a * 16 := by rw [Nat.shiftLeft_eq]
  have e5 : a <<< 4 % 2 ^ 32 = a <<< 4 := by rw [e4]; omega
  rw [e5, ← Nat.shiftLeft_add_eq_or_of_lt (by omega : k < 2 ^ 4), e4]
  omega
theorem or01 {rt : Int32} (h : rt = nn 0 ∨ rt = nn 1) : rt ||| (0 : Int32) = rt ∧ rt ||| (1 : Int32) = nn 1 := by
  rcases h with h | h <;> subst h <;> exact ⟨by decide, by decide⟩
theorem bo01 {α : Type} {rt : Int32} {x : Option α} (h : rt = nn 0 ∨ rt = nn 1) : rq (bo rt) x = x := by
  rcases h with h | h <;> subst h <;> rfl
theorem add_tot {x1 x2 : Int32} {steps : Nat → Int32} {s : Nat} {rt : Int32} (hs : s ≤ 400) (hr : rt = nn 0 ∨ rt = nn 1) : ∃ steps' s' rt', mRule_add x1 x2 steps (nn s) rt = some (steps', nn s', rt') ∧ s' ≤ 400 ∧ (rt' = nn 0 ∨ rt' = nn 1) := by
  unfold mRule_add
  have h01 := or01 hr
  rw [show (400 : Int32) = nn 400 from id rfl, h01.1, h01.2]
  have h1 : (nn 1 : Int32) = nn 0 ∨ (nn 1 : Int32) = nn 1 := Or.inr rfl
  by_cases e : 400 ≤ s
  · rw [ifle_t e (by omega), ltp, ltp, bo01 hr, bo01 h1]
    by_cases e1 : x1 = (1 : Int32)
    · rw [if_pos e1]
      by_cases e2 : x2 < (10 : Int32)
      · rw [if_pos e2]; exact ⟨_, s, rt, rfl, hs, hr⟩
      · rw [if_neg e2]; exact ⟨_, s, nn 1, rfl, hs, h1⟩
    · rw [if_neg e1]; exact ⟨_, s, rt, rfl, hs, hr⟩
  · rw [ifle_f (by omega) (by omega), rq_inb (by omega) (by omega), ltp, ltp, ltp, ltp, bo01 hr, bo01 h1]
    have e1 : nn s + (1 : Int32) = nn (s + 1) := by rw [li1, nn_add]
    rw [e1]
    by_cases e1 : x1 = (1 : Int32)
    · rw [if_pos e1]
      by_cases e2 : x2 < (10 : Int32)
      · rw [if_pos e2]; exact ⟨_, s + 1, rt, rfl, by omega, hr⟩
      · rw [if_neg e2]; exact ⟨_, s + 1, nn 1, rfl, by omega, h1⟩
    · rw [if_neg e1]; exact ⟨_, s + 1, rt, rfl, by omega, hr⟩
theorem add_ev {c : Nat × Nat} {x1 x2 : Int32} {steps : Nat → Int32} {L : List (Nat × Nat)} {rt : Int32} (h1 : x1 = nn (ck c.1)) (h2 : x2 = nn (cn c)) (hc : c.1 < 16 ∧ c.2 < 100000) (hl : L.length < 400) (hs : stC L steps) (hr : rtC L rt) :
    ∃ steps' rt', mRule_add x1 x2 steps (nn L.length) rt = some (steps', nn (L ++ [c]).length, rt') ∧ stC (L ++ [c]) steps' ∧ rtC (L ++ [c]) rt' := by
  subst h1; subst h2
  have hcn : cn c < 100000 := by
    unfold cn
    by_cases e : 6 ≤ c.1 ∧ c.1 ≤ 10
    · rw [if_pos e]; have := cb_lt c.1; omega
    · rw [if_neg e]; exact hc.2
  have hck := ck_lt c.1
  have h01 := or01 hr.1
  unfold mRule_add
  rw [show (400 : Int32) = nn 400 from id rfl, h01.1, h01.2, ifle_f (by omega) (by omega), rq_inb (by omega) (by omega), ltp, ltp, ltp, ltp, bo01 hr.1, bo01 (Or.inr rfl), sh4 hcn (by omega), nn_tn (by omega), li1, nn_add, List.length_append, List.length_singleton, show (10 : Int32) = nn 10 from id rfl]
  have hst : stC (L ++ [c]) (upd steps L.length (nn (ck c.1 + 16 * cn c))) := by
    intro i d hd
    rcases app_get hd with ⟨e1, e2⟩ | ⟨e1, e2⟩
    · rw [upd_o (by omega)]; exact hs i d e2
    · rw [e1, e2, upd_s]
  have hmem : ∀ d, d ∈ L ++ [c] → d ∈ L ∨ d = c := fun d hd => by
    rcases List.mem_append.1 hd with h | h
    · exact Or.inl h
    · exact Or.inr (List.mem_singleton.1 h)
  by_cases e1 : nn (ck c.1) = nn 1
  · rw [if_pos e1]
    rw [nn_inj (by omega) (by omega)] at e1
    have ec : c.1 = 1 := by
      unfold ck at e1
      by_cases e0 : c.1 = 1
      · exact e0
      · exfalso
        revert e1
        repeat' split
        all_goals omega
    have en : cn c = c.2 := by unfold cn; rw [if_neg (by omega)]
    by_cases e2 : nn (cn c) < nn 10
    · rw [if_pos e2]
      rw [nn_lt (by omega) (by omega)] at e2
      refine ⟨_, rt, rfl, hst, hr.1, fun h0 d hd h1 => ?_⟩
      rcases hmem d hd with h | h
      · exact hr.2 h0 d h h1
      · rw [h]; omega
    · rw [if_neg e2]
      exact ⟨_, nn 1, rfl, hst, Or.inr rfl, fun h => absurd h (by decide)⟩
  · rw [if_neg e1]
    refine ⟨_, rt, rfl, hst, hr.1, fun h0 d hd h1 => ?_⟩
    rcases hmem d hd with h | h
    · exact hr.2 h0 d h h1
    · rw [h] at h1
      exact absurd (show nn (ck c.1) = nn 1 by rw [h1]; rfl) e1
theorem puts_ev {c : Nat × Nat} {x1 x2 : Int32} {t : Nat} {sign length : Nat → Int32} {L : List (Nat × Nat)} (h1 : x1 = nn c.1) (h2 : x2 = nn c.2) (ht : t < 6) (hl : L.length < 400) (hs : sgM t L sign) (hn : length t = nn L.length) :
    ∃ sign' length', m_puts x1 x2 sign length (nn t) = some (sign', length') ∧ sgM t (L ++ [c]) sign' ∧ length' t = nn (L ++ [c]).length ∧ (∀ u, u < 6 → ¬ u = t → (∀ i, i < 400 → sign' (400 * u + i) = sign (400 * u + i))) := by
  subst h1; subst h2
  unfold m_puts
  rw [rq_inb (by omega) (by omega), nn_tn (by omega), hn, show (400 : Int32) = nn 400 from id rfl, nn_mul, nn_add, rq_inb (by omega) (by omega), ltp, rq_inb (by omega) (by omega), rq_inb (by omega) (by omega), ltp, nn_tn (by omega), show (16 : Int32) = nn 16 from id rfl, li1, nn_mul, nn_add, nn_add]
  refine ⟨_, _, rfl, ?_, ?_, ?_⟩
  · intro i d hd
    rcases app_get hd with ⟨e1, e2⟩ | ⟨e1, e2⟩
    · rw [upd_o (by omega)]; exact hs i d e2
    · rw [e1, e2, upd_s]
  · rw [upd_s, List.length_append, List.length_singleton]
  · intro u hu hne i hi
    rw [upd_o (by omega)]
section value
variable {b tx : Nat → Int32} {T : Nat}
def mkS (q m k : Nat) (r : RS) : Except Nat RS := if m = 60 then Except.error (1 + 8 * q + 3) else Except.ok r
def vaS (b : Nat → Int32) (T : Nat) (s : RS) : Except Nat RS :=
  if isDg b T (skp b T s.1) = true then
    match nuK b T 0 99999 (skp b T s.1) with
    | some k => Except.error (1 + 8 * skp b T s.1 + k)
    | none => mkS (skp b T s.1) s.2.2 0 ((num b T (skp b T s.1)).2, s.2.1 ++ [(0, (num b T (skp b T s.1)).1)], s.2.2 + 1)
  else match wx WD (run b T (skp b T s.1)) 0 with
    | none => Except.error (1 + 8 * skp b T s.1)
    | some w => mkS (skp b T s.1) s.2.2 0 (skp b T s.1 + (run b T (skp b T s.1)).length, s.2.1 ++ [(1, w)], s.2.2 + 1)
/-- what the class gives back -/
def okC (s : RS) (r : Option (Int32 × Int32 × (Nat → Int32) × Int32 × Int32 × Int32)) : Prop := ∃ st' rt', r = some (nn s.1, nn 0, st', nn s.2.1.length, nn s.2.2, rt') ∧ stC s.2.1 st' ∧ rtC s.2.1 rt'
def flC (T F : Nat) (r : Option (Int32 × Int32 × (Nat → Int32) × Int32 × Int32 × Int32)) : Prop := ∃ p' st' s' m' rt', r = some (nn p', nn F, st', nn s', nn m', rt') ∧ p' ≤ T ∧ s' ≤ 400 ∧ m' ≤ 61 ∧ (rt' = nn 0 ∨ rt' = nn 1)
def rsC (T : Nat) (x : Except Nat RS) (r : Option (Int32 × Int32 × (Nat → Int32) × Int32 × Int32 × Int32)) : Prop := match x with | .ok s => okC s r | .error F => flC T F r
/-- j signs more are to be put -/
def okR (T j : Nat) (s : RS) : Prop := s.1 ≤ T ∧ s.2.1.length + j ≤ s.1 ∧ s.2.2 ≤ 60 ∧ okL s.2.1
theorem okL_app {L : List (Nat × Nat)} {c : Nat × Nat} (h : okL L) (hc : c.1 < 16 ∧ c.2 < 100000) : okL (L ++ [c]) := fun d hd => by
  rcases List.mem_append.1 hd with h1 | h1
  · exact h d h1
  · rw [List.mem_singleton.1 h1]; exact hc
theorem WD_pos : ∀ w, w ∈ WD → 1 ≤ w.length := by decide +kernel
theorem vaS_ok {j : Nat} {s s' : RS} (h : okR T j s) (hT : T ≤ 400) (e : vaS b T s = Except.ok s') : okR T j s' ∧ s.1 < s'.1 ∧ s.2.1.length < 400 := by
  obtain ⟨h1, h2, h3, h4⟩ := h
  have hq := skp_le (b := b) h1
  have hq2 := skp_ge (b := b) h1
  unfold vaS at e
  by_cases e1 : isDg b T (skp b T s.1) = true
  · rw [if_pos e1] at e
    have hd := (isDg_t.1 e1).1
    have hb := num_bd (b := b) hq
    have hne : ¬ (num b T (skp b T s.1)).2 = skp b T s.1 := fun h => by rw [num_eq hq, e1] at h; cases h
    cases hk : nuK b T 0 99999 (skp b T s.1) with
    | some k => rw [hk] at e; cases e
    | none =>
      rw [hk] at e
      unfold mkS at e
      by_cases e2 : s.2.2 = 60
      · simp [e2] at e
      · simp only [if_neg e2] at e
        cases e
        refine ⟨⟨hb.2.2, ?_, by dsimp only; omega, okL_app h4 ⟨by dsimp only; omega, hb.1⟩⟩, ?_, by omega⟩
        · rw [List.length_append, List.length_singleton]; dsimp only; omega
        · dsimp only; omega
  · rw [if_neg e1] at e
    cases hk : wx WD (run b T (skp b T s.1)) 0 with
    | none => rw [hk] at e; cases e
    | some w =>
      rw [hk] at e
      unfold mkS at e
      have hw := wx_lt _ _ _ _ hk
      have hp := WD_pos _ (wx_mem _ _ _ _ hk)
      have hl := run_le (b := b) hq
      have hWl : WD.length = 12 := rfl
      by_cases e2 : s.2.2 = 60
      · simp [e2] at e
      · simp only [if_neg e2] at e
        cases e
        refine ⟨⟨hl, ?_, by dsimp only; omega, okL_app h4 ⟨by dsimp only; omega, by dsimp only; omega⟩⟩, ?_, by omega⟩
        · rw [List.length_append, List.length_singleton]; dsimp only; omega
        · dsimp only; omega
theorem xc_count {q F m : Nat} (hF : F < 100000) (hm : m ≤ 1000) : mRuleReader_countPart (nn q) (nn F) (nn m) = some (nn (if 60 ≤ m then flt F 3 q else F), nn (m + 1)) := by
  unfold mRuleReader_countPart
  rw [ltp, li1, nn_add, show (60 : Int32) = nn 60 from id rfl]
  by_cases e : m + 1 ≤ 60
  · rw [ifle_t e (by omega), if_neg (by omega)]
  · rw [ifle_f (by omega) (by omega), show (3 : Int32) = nn 3 from id rfl, xc_fail hF, bs, if_pos (by omega)]
theorem xc_value (hT : T ≤ 400) (hb : bR T b tx) {j : Nat} {s : RS} (h : okR T j s) {steps : Nat → Int32} {rt : Int32} (hs : stC s.2.1 steps) (hr : rtC s.2.1 rt) :
    rsC T (vaS b T s) (mRuleReader_readValue tx (nn T) (nn s.1) (nn 0) steps (nn s.2.1.length) (nn s.2.2) rt) := by
  obtain ⟨p, L, m⟩ := s
  obtain ⟨h1, h2, h3, h4⟩ := h
  dsimp only at h1 h2 h3 h4 hs hr ⊢
  have hq := skp_le (b := b) h1
  unfold mRuleReader_readValue vaS
  rw [xc_see hT hb h1, bs]
  dsimp only
  rw [xc_isDigit hT hb (by omega), bs]
  have hq2 := skp_ge (b := b) h1
  generalize hQ : skp b T p = q at hq hq2
  have hQQ : skp b T q = q := by rw [← hQ]; exact skp_skp
  by_cases e1 : isDg b T q = true
  · have hd := (isDg_t.1 e1).1
    have hbd := num_bd (b := b) hq
    have hne : ¬ (num b T q).2 = q := fun h => by rw [num_eq hq, e1] at h; cases h
    rw [ifb_t e1, if_pos e1, li0, show (99999 : Int32) = nn 99999 from id rfl, xc_takeNumber hT hb _ _ (by omega) hq, bs, hQQ]
    dsimp only
    unfold mRuleReader_readValue_j36
    have hm1 : ¬ nn (num b T q).1 = (-1 : Int32) := by rw [li1]; exact nn_ne_m1 (by omega)
    rw [if_neg hm1, xc_count (nuF_lt (by omega) (by omega)) (by omega), bs]
    dsimp only
    cases hk : nuK b T (nn 0) (nn 99999) q with
    | some k =>
      have hF : nuF 0 (some k) q = 1 + 8 * q + k := rfl
      have hkl : k < 8 := by
        unfold nuK at hk
        by_cases c1 : (num b T q).2 = q
        · exact absurd c1 hne
        · rw [if_neg c1] at hk
          by_cases c2 : 5 < (num b T q).2 - q ∨ ¬ wi (nn (num b T q).1) (nn 0).toInt (nn 99999).toInt = true
          · rw [if_pos c2] at hk; cases hk; omega
          · rw [if_neg c2] at hk; cases hk
      have hF2 : (if 60 ≤ m then flt (1 + 8 * q + k) 3 q else 1 + 8 * q + k) = 1 + 8 * q + k := by
        unfold flt
        rw [if_neg (show ¬ 1 + 8 * q + k = 0 by omega)]
        by_cases c : 60 ≤ m <;> simp [c]
      rw [hF, hF2, xc_isFine (by omega), bs, ifb_f (by simp)]
      exact ⟨_, _, _, _, _, rfl, hbd.2.2, by omega, by omega, hr.1⟩
    | none =>
      have hF : nuF 0 none q = 0 := rfl
      rw [hF]
      dsimp only
      unfold mkS
      by_cases e2 : m = 60
      · rw [if_pos (show 60 ≤ m by omega), if_pos e2, show flt 0 3 q = 1 + 8 * q + 3 from rfl, xc_isFine (by omega), bs, ifb_f (by simp)]
        exact ⟨_, _, _, _, _, rfl, hbd.2.2, by omega, by omega, hr.1⟩
      · rw [if_neg (show ¬ 60 ≤ m by omega), if_neg e2, xc_isFine (by omega), bs, ifb_t (by simp), ifb_t e1]
        obtain ⟨st', rt', a1, a2, a3⟩ := add_ev (c := (0, (num b T q).1)) (x1 := nn 0) (x2 := nn (num b T q).1) (L := L) rfl rfl ⟨by dsimp only; omega, hbd.1⟩ (by omega) hs hr
        rw [li0, a1, bs]
        exact ⟨st', rt', rfl, a2, a3⟩
  · rw [ifb_f e1, if_neg e1, xc_takeWord hT hb okS_3 WD_let (by decide) hq, bs, hQQ, twS_wx]
    unfold mRuleReader_readValue_j36
    cases hk : wx WD (run b T q) 0 with
    | none =>
      dsimp only
      rw [if_pos (show -nn 1 = (-1 : Int32) from rfl), li0, xc_fail (by omega), bs, show flt 0 0 q = 1 + 8 * q from rfl, xc_count (by omega) (by omega), bs]
      dsimp only
      have hF2 : (if 60 ≤ m then flt (1 + 8 * q) 3 q else 1 + 8 * q) = 1 + 8 * q := by
        unfold flt
        rw [if_neg (show ¬ 1 + 8 * q = 0 by omega)]
        by_cases c : 60 ≤ m <;> simp [c]
      rw [hF2, xc_isFine (by omega), bs]
      rw [← li0, ifb_f (by simp)]
      exact ⟨_, _, _, _, _, rfl, hq, by omega, by omega, hr.1⟩
    | some w =>
      have hw := wx_lt _ _ _ _ hk
      have hl := run_le (b := b) hq
      have hWl : WD.length = 12 := rfl
      dsimp only
      rw [if_neg (show ¬ nn w = (-1 : Int32) by rw [li1]; exact nn_ne_m1 (by omega)), xc_count (by omega) (by omega), bs]
      dsimp only
      unfold mkS
      by_cases e2 : m = 60
      · rw [if_pos (show 60 ≤ m by omega), if_pos e2, show flt 0 3 q = 1 + 8 * q + 3 from rfl, xc_isFine (by omega), bs, ifb_f (by simp)]
        exact ⟨_, _, _, _, _, rfl, hl, by omega, by omega, hr.1⟩
      · rw [if_neg (show ¬ 60 ≤ m by omega), if_neg e2, xc_isFine (by omega), bs, ifb_t (by simp), ifb_f e1]
        obtain ⟨st', rt', a1, a2, a3⟩ := add_ev (c := (1, w)) (x1 := nn 1) (x2 := nn w) (L := L) rfl rfl ⟨by dsimp only; omega, by dsimp only; omega⟩ (by have := WD_pos _ (wx_mem _ _ _ _ hk); omega) hs hr
        rw [li1, a1, bs]
        exact ⟨st', rt', rfl, a2, a3⟩
end value
