/-! a fair is read: what is read -/
abbrev FX : Type := Nat × Nat × Nat × (Nat → Int32)
section fairs
variable {b tx : Nat → Int32} {T : Nat}
def nuS (b : Nat → Int32) (T : Nat) (x1 x2 : Int32) (p : Nat) : Except Nat (Nat × Nat) := match nuK b T x1 x2 (skp b T p) with | none => Except.ok (num b T (skp b T p)) | some k => Except.error (1 + 8 * skp b T p + k)
theorem nuS_ok {x1 x2 : Int32} {p : Nat} {w : Nat × Nat} (hp : p ≤ T) (e : nuS b T x1 x2 p = Except.ok w) : nuK b T x1 x2 (skp b T p) = none ∧ w = num b T (skp b T p) ∧ w.2 ≤ T ∧ p < w.2 ∧ w.1 < 100000 ∧ x1.toInt ≤ (w.1 : Int) ∧ (w.1 : Int) ≤ x2.toInt := by
  have hq := skp_le (b := b) hp
  have hq2 := skp_ge (b := b) hp
  have hb := num_bd (b := b) hq
  unfold nuS at e
  cases hk : nuK b T x1 x2 (skp b T p) with
  | some k => rw [hk] at e; cases e
  | none =>
    rw [hk] at e
    cases e
    refine ⟨rfl, rfl, hb.2.2, ?_, hb.1, ?_⟩
    all_goals
      unfold nuK at hk
      by_cases c1 : (num b T (skp b T p)).2 = skp b T p
      · rw [if_pos c1] at hk; cases hk
      · rw [if_neg c1] at hk
        by_cases c2 : 5 < (num b T (skp b T p)).2 - skp b T p ∨ ¬ wi (nn (num b T (skp b T p)).1) x1.toInt x2.toInt = true
        · rw [if_pos c2] at hk; cases hk
        · have h3 : wi (nn (num b T (skp b T p)).1) x1.toInt x2.toInt = true := Decidable.byContradiction fun h => c2 (Or.inr h)
          rw [wi_iff, nn_toInt (by omega)] at h3
          first
          | exact h3
          | omega
theorem nuS_er {x1 x2 : Int32} {p F : Nat} (hT : T ≤ 400) (hp : p ≤ T) (e : nuS b T x1 x2 p = Except.error F) : ∃ k, nuK b T x1 x2 (skp b T p) = some k ∧ F = 1 + 8 * skp b T p + k ∧ 0 < F ∧ F < 100000 := by
  have hq := skp_le (b := b) hp
  unfold nuS at e
  cases hk : nuK b T x1 x2 (skp b T p) with
  | none => rw [hk] at e; cases e
  | some k =>
    rw [hk] at e
    cases e
    refine ⟨k, rfl, rfl, by omega, ?_⟩
    unfold nuK at hk
    by_cases c1 : (num b T (skp b T p)).2 = skp b T p
    · rw [if_pos c1] at hk; cases hk; omega
    · rw [if_neg c1] at hk
      by_cases c2 : 5 < (num b T (skp b T p)).2 - skp b T p ∨ ¬ wi (nn (num b T (skp b T p)).1) x1.toInt x2.toInt = true
      · rw [if_pos c2] at hk; cases hk; omega
      · rw [if_neg c2] at hk; cases hk
/-- the class takes a number -/
theorem takeN_ok (hT : T ≤ 400) (hb : bR T b tx) {x1 x2 : Int32} {p : Nat} {w : Nat × Nat} (hp : p ≤ T) (e : nuS b T x1 x2 p = Except.ok w) : mCursor_takeNumber x1 x2 tx (nn T) (nn p) (nn 0) = some (nn w.1, nn w.2, nn 0) := by
  obtain ⟨h1, h2, _⟩ := nuS_ok hp e
  rw [xc_takeNumber hT hb x1 x2 (by omega) hp, h1, h2]
  rfl
theorem takeN_er (hT : T ≤ 400) (hb : bR T b tx) {x1 x2 : Int32} {p F : Nat} (hp : p ≤ T) (e : nuS b T x1 x2 p = Except.error F) : ∃ v e', mCursor_takeNumber x1 x2 tx (nn T) (nn p) (nn 0) = some (nn v, nn e', nn F) ∧ e' ≤ T := by
  obtain ⟨k, h1, h2, _⟩ := nuS_er hT hp e
  rw [xc_takeNumber hT hb x1 x2 (by omega) hp, h1, h2]
  exact ⟨_, _, rfl, (num_bd (b := b) (skp_le hp)).2.2⟩
theorem takeN_f (hT : T ≤ 400) (hb : bR T b tx) (x1 x2 : Int32) {p F : Nat} (hp : p ≤ T) (hF : 0 < F) (hF2 : F < 100000) : ∃ v e', mCursor_takeNumber x1 x2 tx (nn T) (nn p) (nn F) = some (nn v, nn e', nn F) ∧ e' ≤ T := by
  have hq := skp_le (b := b) hp
  have : nuF F (nuK b T x1 x2 (skp b T p)) (skp b T p) = F := by
    unfold nuF
    cases nuK b T x1 x2 (skp b T p) with
    | none => rfl
    | some k => unfold flt; simp; omega
  rw [xc_takeNumber hT hb x1 x2 hF2 hp, this]
  exact ⟨_, _, rfl, (num_bd (b := b) hq).2.2⟩
/-- the reference takes a number -/
theorem numH_ok (hT : T ≤ 400) (hb : bR T b tx) {x1 x2 nb : Int32} {p : Nat} {w : Nat × Nat} (hp : p ≤ T) (e : nuS b T x1 x2 p = Except.ok w) : m_numberHere x1 x2 tx (nn T) (nn p) (nn 0) nb = some (nn 1, nn w.2, nn 0, nn w.1) := by
  obtain ⟨h1, h2, _⟩ := nuS_ok hp e
  obtain ⟨nb', h3⟩ := xm_numberHere hT hb x1 x2 nb hp
  rw [h3, h1, h2]
theorem numH_er (hT : T ≤ 400) (hb : bR T b tx) {x1 x2 nb : Int32} {p F : Nat} (hp : p ≤ T) (e : nuS b T x1 x2 p = Except.error F) : ∃ nx nb', m_numberHere x1 x2 tx (nn T) (nn p) (nn 0) nb = some (nn 0, nx, nn F, nb') := by
  obtain ⟨k, h1, h2, _⟩ := nuS_er hT hp e
  obtain ⟨nb', h3⟩ := xm_numberHere hT hb x1 x2 nb hp
  rw [h3, h1, h2]
  exact ⟨_, _, rfl⟩
def f0S (b : Nat → Int32) (T p : Nat) (rd : Nat → Int32) : Except Nat (Nat × (Nat → Int32)) :=
  match nuS b T (nn 1) (nn 20) p with
  | .error F => Except.error F
  | .ok v => match nuS b T (nn 0) (nn 9) v.2 with
    | .error F => Except.error F
    | .ok w => Except.ok (w.2, upd (upd (upd rd 1 (nn v.1)) 2 (nn w.1)) 0 (nn 1))
def f1S (b : Nat → Int32) (T N p : Nat) (rd : Nat → Int32) : Except Nat (Nat × (Nat → Int32)) :=
  match nuS b T (nn 0) (nn 20) p with
  | .error F => Except.error F
  | .ok u => match nuS b T (nn 1) (nn 40) u.2 with
    | .error F => Except.error F
    | .ok v => match nuS b T (nn 0) (nn 20) v.2 with
      | .error F => Except.error F
      | .ok w => Except.ok (w.2, upd (upd (upd (upd rd (101 + N) (nn u.1)) (107 + N) (nn v.1)) (89 + N) (nn w.1)) 3 (nn (N + 1)))
def f2S (b : Nat → Int32) (T N p : Nat) (rd : Nat → Int32) : Except Nat (Nat × (Nat → Int32)) :=
  match nuS b T (nn 0) (nn N - nn 1) p with
  | .error F => Except.error F
  | .ok u => match nuS b T (nn 0) (nn N - nn 1) (skp b T u.2) with
    | .error F => Except.error F
    | .ok v => if u.1 = v.1 then Except.error (1 + 8 * skp b T u.2 + 1) else Except.ok (v.2, upd rd (113 + u.1) (rd (113 + u.1) ||| bt v.1))
def f3S (b : Nat → Int32) (T N B p : Nat) (rd : Nat → Int32) : Except Nat (Nat × (Nat → Int32)) :=
  match nuS b T (nn 0) (nn 99) p with
  | .error F => Except.error F
  | .ok u => match nuS b T (nn 0) (nn N - nn 1) u.2 with
    | .error F => Except.error F
    | .ok v => Except.ok (v.2, upd (upd (upd rd (119 + B) (nn u.1)) (95 + B) (nn v.1)) 4 (nn (B + 1)))
/-- may a clause of this kind not stand there -/
abbrev noS (li k N B : Nat) : Prop := 40 ≤ li ∨ ¬ (li = 0 ↔ k = 0) ∨ (k = 1 ∧ 6 ≤ N) ∨ (k = 3 ∧ 6 ≤ B)
def adX (N B : Nat) (x : Except Nat (Nat × (Nat → Int32))) : Except Nat FX := match x with | .error F => Except.error F | .ok y => Except.ok (y.1, N, B, y.2)
def cxK (b : Nat → Int32) (T k p N B : Nat) (rd : Nat → Int32) : Except Nat FX :=
  if k = 0 then adX N B (f0S b T p rd) else if k = 1 then adX (N + 1) B (f1S b T N p rd) else if k = 2 then adX N B (f2S b T N p rd) else adX N (B + 1) (f3S b T N B p rd)
def cxS (b : Nat → Int32) (T li : Nat) (s : FX) : Except Nat FX :=
  match wx WF (run b T (skp b T s.1)) 0 with
  | none => Except.error (1 + 8 * skp b T s.1)
  | some k => if noS li k s.2.1 s.2.2.1 then Except.error (1 + 8 * skp b T s.1 + 4) else cxK b T k (skp b T s.1 + (run b T (skp b T s.1)).length) s.2.1 s.2.2.1 s.2.2.2
def fxS (b : Nat → Int32) (T : Nat) : Nat → Nat → FX → Except Nat FX
  | 0, _, _ => Except.error 0
  | n + 1, li, s => match cxS b T li s with
    | .error F => Except.error F
    | .ok z => if seB b T (skp b T z.1) = nn 59 then fxS b T n (li + 1) (skp b T z.1 + 1, z.2) else if skp b T z.1 < T then Except.error (1 + 8 * skp b T z.1) else Except.ok z
/-- what holds of the row that is read -/
def rdO (li N B : Nat) (rd : Nat → Int32) : Prop :=
  N ≤ 6 ∧ B ≤ 6 ∧ rd 3 = nn N ∧ rd 4 = nn B ∧ rd 0 = nn (if li = 0 then 0 else 1) ∧ (0 < li → (∃ L, 1 ≤ L ∧ L ≤ 20 ∧ rd 1 = nn L) ∧ (∃ K, K ≤ 9 ∧ rd 2 = nn K)) ∧
  (∀ s, s < N → (∃ k, k ≤ 20 ∧ rd (101 + s) = nn k) ∧ (∃ k, 1 ≤ k ∧ k ≤ 40 ∧ rd (107 + s) = nn k) ∧ (∃ k, k ≤ 20 ∧ rd (89 + s) = nn k)) ∧ (∀ s, N ≤ s → s < 6 → rd (113 + s) = nn 0)
theorem nm1 {N k : Nat} (hN : N ≤ 6) (h : (k : Int) ≤ (nn N - nn 1).toInt) : k < N := by
  rw [i_sub (by rw [nn_toInt (by omega), show (nn 1).toInt = 1 from rfl]; omega) (by rw [nn_toInt (by omega), show (nn 1).toInt = 1 from rfl]; omega), nn_toInt (by omega), show (nn 1).toInt = 1 from rfl] at h
  omega
/-- behind a clause -/
theorem cx_ok {k p N B li : Nat} {rd : Nat → Int32} {z : FX} (hp : p ≤ T) (h : rdO li N B rd) (hk : k < 4) (hno : ¬ noS li k N B) (e : cxK b T k p N B rd = Except.ok z) : z.1 ≤ T ∧ p < z.1 ∧ rdO (li + 1) z.2.1 z.2.2.1 z.2.2.2 := by
  obtain ⟨h1, h2, h3, h4, h5, h6, h7, h8⟩ := h
  have n1 : li < 40 := Decidable.byContradiction fun c => hno (Or.inl (by omega))
  have n2 : li = 0 ↔ k = 0 := Decidable.byContradiction fun c => hno (Or.inr (Or.inl c))
  unfold cxK at e
  by_cases k0 : k = 0
  · rw [if_pos k0] at e
    have li0' : li = 0 := n2.2 k0
    unfold f0S adX at e
    cases e1 : nuS b T (nn 1) (nn 20) p with
    | error F => rw [e1] at e; cases e
    | ok v =>
      rw [e1] at e
      obtain ⟨_, _, a1, a2, a3, a4, a5⟩ := nuS_ok hp e1
      dsimp only at e
      cases e2 : nuS b T (nn 0) (nn 9) v.2 with
      | error F => rw [e2] at e; cases e
      | ok w =>
        rw [e2] at e
        obtain ⟨_, _, b1, b2, b3, b4, b5⟩ := nuS_ok a1 e2
        cases e
        rw [show (nn 1).toInt = 1 from rfl] at a4
        rw [show (nn 20).toInt = 20 from rfl] at a5
        rw [show (nn 9).toInt = 9 from rfl] at b5
        dsimp only
        refine ⟨b1, by omega, h1, h2, ?_, ?_, ?_, fun _ => ⟨⟨v.1, by omega, by omega, ?_⟩, ⟨w.1, by omega, ?_⟩⟩, fun s hs => ?_, fun s hs hs2 => ?_⟩
        · rw [upd_o (by omega), upd_o (by omega), upd_o (by omega)]; exact h3
        · rw [upd_o (by omega), upd_o (by omega), upd_o (by omega)]; exact h4
        · rw [upd_s, if_neg (by omega)]
        · rw [upd_o (by omega), upd_o (by omega), upd_s]
        · rw [upd_o (by omega), upd_s]
        · rw [upd_o (by omega), upd_o (by omega), upd_o (by omega), upd_o (by omega), upd_o (by omega), upd_o (by omega), upd_o (by omega), upd_o (by omega), upd_o (by omega)]; exact h7 s hs
        · rw [upd_o (by omega), upd_o (by omega), upd_o (by omega)]; exact h8 s hs hs2
  rw [if_neg k0] at e
  have hli : 0 < li := by
    have : ¬ li = 0 := fun c => k0 (n2.1 c)
    omega
  have h5' : rd 0 = nn 1 := by rw [h5, if_neg (by omega)]
  by_cases k1 : k = 1
  · rw [if_pos k1] at e
    have hN6 : N < 6 := Decidable.byContradiction fun c => hno (Or.inr (Or.inr (Or.inl ⟨k1, by omega⟩)))
    unfold f1S adX at e
    cases e1 : nuS b T (nn 0) (nn 20) p with
    | error F => rw [e1] at e; cases e
    | ok u =>
      rw [e1] at e
      obtain ⟨_, _, a1, a2, a3, a4, a5⟩ := nuS_ok hp e1
      dsimp only at e
      cases e2 : nuS b T (nn 1) (nn 40) u.2 with
      | error F => rw [e2] at e; cases e
      | ok v =>
        rw [e2] at e
        obtain ⟨_, _, b1, b2, b3, b4, b5⟩ := nuS_ok a1 e2
        dsimp only at e
        cases e3 : nuS b T (nn 0) (nn 20) v.2 with
        | error F => rw [e3] at e; cases e
        | ok w =>
          rw [e3] at e
          obtain ⟨_, _, c1, c2, c3, c4, c5⟩ := nuS_ok b1 e3
          cases e
          rw [show (nn 20).toInt = 20 from rfl] at a5 c5
          rw [show (nn 40).toInt = 40 from rfl] at b5
          rw [show (nn 1).toInt = 1 from rfl] at b4
          dsimp only
          refine ⟨c1, by omega, by omega, h2, upd_s _ _ _, ?_, ?_, fun _ => ?_, fun s hs => ?_, fun s hs hs2 => ?_⟩
          · rw [upd_o (by omega), upd_o (by omega), upd_o (by omega), upd_o (by omega)]; exact h4
          · rw [upd_o (by omega), upd_o (by omega), upd_o (by omega), upd_o (by omega), if_neg (by omega)]; exact h5'
          · rw [upd_o (by omega), upd_o (by omega), upd_o (by omega), upd_o (by omega), upd_o (by omega), upd_o (by omega), upd_o (by omega), upd_o (by omega)]; exact h6 hli
          · by_cases es : s = N
            · subst es
              refine ⟨⟨u.1, by omega, ?_⟩, ⟨v.1, by omega, by omega, ?_⟩, ⟨w.1, by omega, ?_⟩⟩
              · rw [upd_o (by omega), upd_o (by omega), upd_o (by omega), upd_s]
              · rw [upd_o (by omega), upd_o (by omega), upd_s]
              · rw [upd_o (by omega), upd_s]
            · rw [upd_o (by omega), upd_o (by omega), upd_o (by omega), upd_o (by omega), upd_o (by omega), upd_o (by omega), upd_o (by omega), upd_o (by omega), upd_o (by omega), upd_o (by omega), upd_o (by omega), upd_o (by omega)]
              exact h7 s (by omega)
          · rw [upd_o (by omega), upd_o (by omega), upd_o (by omega), upd_o (by omega)]; exact h8 s (by omega) hs2
  rw [if_neg k1] at e
  by_cases k2 : k = 2
  · rw [if_pos k2] at e
    unfold f2S adX at e
    cases e1 : nuS b T (nn 0) (nn N - nn 1) p with
    | error F => rw [e1] at e; cases e
    | ok u =>
      rw [e1] at e
      obtain ⟨_, _, a1, a2, a3, a4, a5⟩ := nuS_ok hp e1
      have hu := nm1 h1 a5
      have hq := skp_le (b := b) a1
      have hq2 := skp_ge (b := b) a1
      dsimp only at e
      cases e2 : nuS b T (nn 0) (nn N - nn 1) (skp b T u.2) with
      | error F => rw [e2] at e; cases e
      | ok v =>
        rw [e2] at e
        obtain ⟨_, _, b1, b2, b3, b4, b5⟩ := nuS_ok hq e2
        dsimp only at e
        by_cases eq : u.1 = v.1
        · rw [if_pos eq] at e; cases e
        · rw [if_neg eq] at e
          cases e
          dsimp only
          refine ⟨b1, by omega, h1, h2, ?_, ?_, ?_, fun _ => ?_, fun s hs => ?_, fun s hs hs2 => ?_⟩
          · rw [upd_o (by omega)]; exact h3
          · rw [upd_o (by omega)]; exact h4
          · rw [upd_o (by omega), if_neg (by omega)]; exact h5'
          · rw [upd_o (by omega), upd_o (by omega)]; exact h6 hli
          · rw [upd_o (by omega), upd_o (by omega), upd_o (by omega)]; exact h7 s hs
          · rw [upd_o (by omega)]; exact h8 s hs hs2
  rw [if_neg k2] at e
  have k3 : k = 3 := by omega
  have hB6 : B < 6 := Decidable.byContradiction fun c => hno (Or.inr (Or.inr (Or.inr ⟨k3, by omega⟩)))
  unfold f3S adX at e
  cases e1 : nuS b T (nn 0) (nn 99) p with
  | error F => rw [e1] at e; cases e
  | ok u =>
    rw [e1] at e
    obtain ⟨_, _, a1, a2, a3, a4, a5⟩ := nuS_ok hp e1
    dsimp only at e
    cases e2 : nuS b T (nn 0) (nn N - nn 1) u.2 with
    | error F => rw [e2] at e; cases e
    | ok v =>
      rw [e2] at e
      obtain ⟨_, _, b1, b2, b3, b4, b5⟩ := nuS_ok a1 e2
      cases e
      dsimp only
      refine ⟨b1, by omega, h1, by omega, ?_, upd_s _ _ _, ?_, fun _ => ?_, fun s hs => ?_, fun s hs hs2 => ?_⟩
      · rw [upd_o (by omega), upd_o (by omega), upd_o (by omega)]; exact h3
      · rw [upd_o (by omega), upd_o (by omega), upd_o (by omega), if_neg (by omega)]; exact h5'
      · rw [upd_o (by omega), upd_o (by omega), upd_o (by omega), upd_o (by omega), upd_o (by omega), upd_o (by omega)]; exact h6 hli
      · rw [upd_o (by omega), upd_o (by omega), upd_o (by omega), upd_o (by omega), upd_o (by omega), upd_o (by omega), upd_o (by omega), upd_o (by omega), upd_o (by omega)]; exact h7 s hs
      · rw [upd_o (by omega), upd_o (by omega), upd_o (by omega)]; exact h8 s hs hs2
theorem cx_er (hT : T ≤ 400) {k p N B : Nat} {rd : Nat → Int32} {F : Nat} (hp : p ≤ T) (e : cxK b T k p N B rd = Except.error F) : 0 < F ∧ F < 100000 := by
  have N1 : ∀ {x1 x2 : Int32} {p F : Nat}, p ≤ T → nuS b T x1 x2 p = Except.error F → 0 < F ∧ F < 100000 := fun hp e => by
    obtain ⟨_, _, _, h⟩ := nuS_er hT hp e; exact h
  unfold cxK at e
  by_cases k0 : k = 0
  · rw [if_pos k0] at e
    unfold f0S adX at e
    cases e1 : nuS b T (nn 1) (nn 20) p with
    | error F => rw [e1] at e; cases e; exact N1 hp e1
    | ok v =>
      rw [e1] at e
      dsimp only at e
      cases e2 : nuS b T (nn 0) (nn 9) v.2 with
      | error F => rw [e2] at e; cases e; exact N1 (nuS_ok hp e1).2.2.1 e2
      | ok w => rw [e2] at e; cases e
  rw [if_neg k0] at e
  by_cases k1 : k = 1
  · rw [if_pos k1] at e
    unfold f1S adX at e
    cases e1 : nuS b T (nn 0) (nn 20) p with
    | error F => rw [e1] at e; cases e; exact N1 hp e1
    | ok u =>
      rw [e1] at e
      have a1 := (nuS_ok hp e1).2.2.1
      dsimp only at e
      cases e2 : nuS b T (nn 1) (nn 40) u.2 with
      | error F => rw [e2] at e; cases e; exact N1 a1 e2
      | ok v =>
        rw [e2] at e
        dsimp only at e
        cases e3 : nuS b T (nn 0) (nn 20) v.2 with
        | error F => rw [e3] at e; cases e; exact N1 (nuS_ok a1 e2).2.2.1 e3
        | ok w => rw [e3] at e; cases e
  rw [if_neg k1] at e
  by_cases k2 : k = 2
  · rw [if_pos k2] at e
    unfold f2S adX at e
    cases e1 : nuS b T (nn 0) (nn N - nn 1) p with
    | error F => rw [e1] at e; cases e; exact N1 hp e1
    | ok u =>
      rw [e1] at e
      have a1 := (nuS_ok hp e1).2.2.1
      have hq := skp_le (b := b) a1
      dsimp only at e
      cases e2 : nuS b T (nn 0) (nn N - nn 1) (skp b T u.2) with
      | error F => rw [e2] at e; cases e; exact N1 hq e2
      | ok v =>
        rw [e2] at e
        dsimp only at e
        by_cases eq : u.1 = v.1
        · rw [if_pos eq] at e; cases e; omega
        · rw [if_neg eq] at e; cases e
  rw [if_neg k2] at e
  unfold f3S adX at e
  cases e1 : nuS b T (nn 0) (nn 99) p with
  | error F => rw [e1] at e; cases e; exact N1 hp e1
  | ok u =>
    rw [e1] at e
    dsimp only at e
    cases e2 : nuS b T (nn 0) (nn N - nn 1) u.2 with
    | error F => rw [e2] at e; cases e; exact N1 (nuS_ok hp e1).2.2.1 e2
    | ok v => rw [e2] at e; cases e
theorem cs_er (hT : T ≤ 400) {li F : Nat} {s : FX} (hp : s.1 ≤ T) (e : cxS b T li s = Except.error F) : 0 < F ∧ F < 100000 := by
  have hq := skp_le (b := b) hp
  have hl := run_le (b := b) hq
  unfold cxS at e
  cases hk : wx WF (run b T (skp b T s.1)) 0 with
  | none => rw [hk] at e; cases e; omega
  | some k =>
    rw [hk] at e
    dsimp only at e
    by_cases hno : noS li k s.2.1 s.2.2.1
    · rw [if_pos hno] at e; cases e; omega
    · rw [if_neg hno] at e; exact cx_er hT hl e
theorem cs_ok {li : Nat} {s z : FX} (hp : s.1 ≤ T) (h : rdO li s.2.1 s.2.2.1 s.2.2.2) (e : cxS b T li s = Except.ok z) : z.1 ≤ T ∧ s.1 < z.1 ∧ rdO (li + 1) z.2.1 z.2.2.1 z.2.2.2 ∧ li < 40 := by
  have hq := skp_le (b := b) hp
  have hq2 := skp_ge (b := b) hp
  have hl := run_le (b := b) hq
  unfold cxS at e
  cases hk : wx WF (run b T (skp b T s.1)) 0 with
  | none => rw [hk] at e; cases e
  | some k =>
    rw [hk] at e
    dsimp only at e
    have hk4 := wx_lt _ _ _ _ hk
    have hWl : WF.length = 4 := rfl
    by_cases hno : noS li k s.2.1 s.2.2.1
    · rw [if_pos hno] at e; cases e
    · rw [if_neg hno] at e
      obtain ⟨a1, a2, a3⟩ := cx_ok hl h (by omega) hno e
      exact ⟨a1, by omega, a3, Decidable.byContradiction fun c => hno (Or.inl (by omega))⟩
theorem fx_er (hT : T ≤ 400) : ∀ (n li : Nat) (s : FX) (F : Nat), li ≤ 40 → 40 < li + n → s.1 ≤ T → rdO li s.2.1 s.2.2.1 s.2.2.2 → fxS b T n li s = Except.error F → 0 < F ∧ F < 100000 := by
  intro n
  induction n with
  | zero => intro li s F h1 h2; omega
  | succ n ih =>
    intro li s F h1 h2 hp h e
    unfold fxS at e
    cases hc : cxS b T li s with
    | error F0 => rw [hc] at e; cases e; exact cs_er hT hp hc
    | ok z =>
      rw [hc] at e
      obtain ⟨a1, a2, a3, a4⟩ := cs_ok hp h hc
      have hz := skp_le (b := b) a1
      dsimp only at e
      by_cases e59 : seB b T (skp b T z.1) = nn 59
      · have hlt := seB_lt (b := b) (by omega) e59
        rw [if_pos e59] at e
        exact ih (li + 1) (skp b T z.1 + 1, z.2) F (by omega) (by omega) (by dsimp only; omega) a3 e
      · rw [if_neg e59] at e
        by_cases eT : skp b T z.1 < T
        · rw [if_pos eT] at e; cases e; omega
        · rw [if_neg eT] at e; cases e
theorem fx_ok : ∀ (n li : Nat) (s z : FX), s.1 ≤ T → rdO li s.2.1 s.2.2.1 s.2.2.2 → fxS b T n li s = Except.ok z → ∃ li', 0 < li' ∧ rdO li' z.2.1 z.2.2.1 z.2.2.2 := by
  intro n
  induction n with
  | zero => intro li s z _ _ e; cases e
  | succ n ih =>
    intro li s z hp h e
    unfold fxS at e
    cases hc : cxS b T li s with
    | error F0 => rw [hc] at e; cases e
    | ok y =>
      rw [hc] at e
      obtain ⟨a1, a2, a3, a4⟩ := cs_ok hp h hc
      have hz := skp_le (b := b) a1
      dsimp only at e
      by_cases e59 : seB b T (skp b T y.1) = nn 59
      · have hlt := seB_lt (b := b) (by omega) e59
        rw [if_pos e59] at e
        exact ih (li + 1) (skp b T y.1 + 1, y.2) z (by dsimp only; omega) a3 e
      · rw [if_neg e59] at e
        by_cases eT : skp b T y.1 < T
        · rw [if_pos eT] at e; cases e
        · rw [if_neg eT] at e
          cases e
          exact ⟨li + 1, by omega, a3⟩
end fairs
