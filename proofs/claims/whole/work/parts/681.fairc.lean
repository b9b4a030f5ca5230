/-! a fair is read: the class -/
def rdR (N B : Nat) (rd : Nat → Int32) (g : tyFair) : Prop :=
  (g.1 = rd 1 ∧ g.2.1 = rd 2 ∧ g.2.2.1 = nn N ∧ g.2.2.2.1 = nn B) ∧
  (∀ s, s < N → g.2.2.2.2.2.1 s = rd (101 + s) ∧ g.2.2.2.2.2.2.1 s = rd (107 + s) ∧ g.2.2.2.2.2.2.2.1 s = rd (89 + s) ∧ g.2.2.2.2.2.2.2.2.1 s = nn 0 ∧ g.2.2.2.2.2.2.2.2.2.1 s = nn 0 ∧ g.2.2.2.2.2.2.2.2.2.2.1 s = nn 0 ∧ g.2.2.2.2.2.2.2.2.2.2.2.1 s = nn s ∧ g.2.2.2.2.2.2.2.2.2.2.2.2.1 s = rd (113 + s)) ∧
  (∀ b, b < B → g.2.2.2.2.2.2.2.2.2.2.2.2.2.1 b = rd (119 + b) ∧ g.2.2.2.2.2.2.2.2.2.2.2.2.2.2.1 b = rd (95 + b)) ∧ (∀ k, k < 6 * B → g.2.2.2.2.2.2.2.2.2.2.2.2.2.2.2.1 k = nn 0)
/-- enough to be arranged -/
def arO (g : tyFair) : Prop := ∃ N, N ≤ 6 ∧ g.2.2.1 = nn N ∧ ∀ s, s < N → g.2.2.2.2.2.2.2.2.2.2.2.1 s = nn s
theorem id_rOK (N : Nat) : rOK N (fun k => k) (fun k => k) := fun k hk => ⟨hk, hk, rfl, rfl⟩
theorem arr_tot {N : Nat} {tongue ring grudges : Nat → Int32} (hN : N ≤ 6) (hr : ∀ s, s < N → ring s = nn s) (seller praise borne : Nat → Int32) : ∃ se pr bo, mFair_arrange (nn N) tongue ring grudges seller praise borne = some (se, pr, bo) := by
  obtain ⟨se, pr, bo, h, _⟩ := arrange_ev (N := N) (rg := fun k => k) (pl := fun k => k) (d := fun k => if k < 60 then grudges (k - 41) else tongue (k - 89)) (stalls := nn N) (tongue := tongue) (ring := ring) (grudges := grudges) hN (id_rOK N) rfl (fun s hs => by
    show tongue s = if 89 + s < 60 then grudges (89 + s - 41) else tongue (89 + s - 89)
    rw [if_neg (by omega), show 89 + s - 89 = s by omega]) hr (fun s hs => by
    show grudges s = if 41 + s < 60 then grudges (41 + s - 41) else tongue (41 + s - 89)
    rw [if_pos (by omega), show 41 + s - 41 = s by omega]) seller praise borne
  exact ⟨se, pr, bo, h⟩
abbrev CR : Type := Int32 × Int32 × Int32 × Int32 × Int32 × Int32 × (Nat → Int32) × (Nat → Int32) × (Nat → Int32) × (Nat → Int32) × (Nat → Int32) × (Nat → Int32) × (Nat → Int32) × (Nat → Int32) × (Nat → Int32) × (Nat → Int32) × (Nat → Int32) × (Nat → Int32) × (Nat → Int32) × (Nat → Int32)
def rsX (T : Nat) (x : Except Nat FX) (r : Option CR) : Prop :=
  match x with
  | .ok z => ∃ g : tyFair, r = some (nn z.1, nn 0, g.1, g.2.1, g.2.2.1, g.2.2.2.1, g.2.2.2.2.2.1, g.2.2.2.2.2.2.1, g.2.2.2.2.2.2.2.1, g.2.2.2.2.2.2.2.2.1, g.2.2.2.2.2.2.2.2.2.1, g.2.2.2.2.2.2.2.2.2.2.1, g.2.2.2.2.2.2.2.2.2.2.2.1, g.2.2.2.2.2.2.2.2.2.2.2.2.1, g.2.2.2.2.2.2.2.2.2.2.2.2.2.1, g.2.2.2.2.2.2.2.2.2.2.2.2.2.2.1, g.2.2.2.2.2.2.2.2.2.2.2.2.2.2.2.1, g.2.2.2.2.2.2.2.2.2.2.2.2.2.2.2.2.1, g.2.2.2.2.2.2.2.2.2.2.2.2.2.2.2.2.2.1, g.2.2.2.2.2.2.2.2.2.2.2.2.2.2.2.2.2.2) ∧ rdR z.2.1 z.2.2.1 z.2.2.2 g
  | .error F => ∃ p' g, r = some (nn p', nn F, g.1, g.2.1, g.2.2.1, g.2.2.2.1, g.2.2.2.2.2.1, g.2.2.2.2.2.2.1, g.2.2.2.2.2.2.2.1, g.2.2.2.2.2.2.2.2.1, g.2.2.2.2.2.2.2.2.2.1, g.2.2.2.2.2.2.2.2.2.2.1, g.2.2.2.2.2.2.2.2.2.2.2.1, g.2.2.2.2.2.2.2.2.2.2.2.2.1, g.2.2.2.2.2.2.2.2.2.2.2.2.2.1, g.2.2.2.2.2.2.2.2.2.2.2.2.2.2.1, g.2.2.2.2.2.2.2.2.2.2.2.2.2.2.2.1, g.2.2.2.2.2.2.2.2.2.2.2.2.2.2.2.2.1, g.2.2.2.2.2.2.2.2.2.2.2.2.2.2.2.2.2.1, g.2.2.2.2.2.2.2.2.2.2.2.2.2.2.2.2.2.2) ∧ p' ≤ T ∧ arO g
section fairc
variable {b tx : Nat → Int32} {T : Nat}
theorem addBuyer_l32 {B : Nat} {purse came : Nat → Int32} (hB : B < 6) : ∀ (k i n : Nat) (had : Nat → Int32), i + k = 6 → k < n → (∀ j, j < 6 * B + i → had j = nn 0) → ∃ had', mFair_addBuyer_l32 (nn B) purse came n (nn i) had = some (nn (B + 1), purse, came, had') ∧ ∀ j, j < 6 * (B + 1) → had' j = nn 0 := by
  intro k
  induction k with
  | zero =>
    intro i n had h1 h2 h3
    match n, h2 with
    | n + 1, _ =>
    unfold mFair_addBuyer_l32
    rw [show (6 : Int32) = nn 6 from id rfl, ifle_t (by omega) (by omega), ltp, li1, nn_add]
    exact ⟨had, rfl, fun j hj => h3 j (by omega)⟩
  | succ k ih =>
    intro i n had h1 h2 h3
    match n, h2 with
    | n + 1, h2 =>
    unfold mFair_addBuyer_l32
    rw [show (6 : Int32) = nn 6 from id rfl, ifle_f (by omega) (by omega), nn_mul, nn_add, rq_inb (by omega) (by omega), ltp, nn_tn (by omega), li1, li0, nn_add]
    refine ih (i + 1) n _ (by omega) (by omega) (fun j hj => ?_)
    by_cases e : j = B * 6 + i
    · rw [e, upd_s]
    · rw [upd_o e]; exact h3 j (by omega)
theorem xc_f3 (hT : T ≤ 400) (hb : bR T b tx) {p N B : Nat} {rd : Nat → Int32} {g : tyFair} (hp : p ≤ T) (hN : N ≤ 6) (hB : B < 6) (hg : rdR N B rd g) :
    match f3S b T N B p rd with
    | .ok y => ∃ pu ca ha, mFairReader_readBuyer tx (nn T) (nn p) (nn 0) g.2.2.1 g.2.2.2.1 g.2.2.2.2.2.2.2.2.2.2.2.2.2.1 g.2.2.2.2.2.2.2.2.2.2.2.2.2.2.1 g.2.2.2.2.2.2.2.2.2.2.2.2.2.2.2.1 = some (nn y.1, nn 0, nn (B + 1), pu, ca, ha) ∧ (∀ k, k < B + 1 → pu k = y.2 (119 + k) ∧ ca k = y.2 (95 + k)) ∧ (∀ k, k < 6 * (B + 1) → ha k = nn 0)
    | .error F => ∃ p', mFairReader_readBuyer tx (nn T) (nn p) (nn 0) g.2.2.1 g.2.2.2.1 g.2.2.2.2.2.2.2.2.2.2.2.2.2.1 g.2.2.2.2.2.2.2.2.2.2.2.2.2.2.1 g.2.2.2.2.2.2.2.2.2.2.2.2.2.2.2.1 = some (nn p', nn F, g.2.2.2.1, g.2.2.2.2.2.2.2.2.2.2.2.2.2.1, g.2.2.2.2.2.2.2.2.2.2.2.2.2.2.1, g.2.2.2.2.2.2.2.2.2.2.2.2.2.2.2.1) ∧ p' ≤ T := by
  obtain ⟨⟨g1, g2, g3, g4⟩, g5, g6, g7⟩ := hg
  unfold mFairReader_readBuyer f3S
  rw [g3, g4, li0, li1, show (99 : Int32) = nn 99 from id rfl]
  cases e1 : nuS b T (nn 0) (nn 99) p with
  | error F =>
    dsimp only
    obtain ⟨_, _, _, hF, hF2⟩ := nuS_er hT hp e1
    obtain ⟨v, e, a1, a2⟩ := takeN_er hT hb hp e1
    rw [a1, bs]
    dsimp only
    obtain ⟨v2, e2, b1, b2⟩ := takeN_f hT hb (nn 0) (nn N - nn 1) a2 hF hF2
    rw [b1, bs]
    dsimp only
    rw [xc_isFine hF2, bs, if_pos (show b01 (decide (F = 0) = true) = nn 0 from b01_f (by simp; omega))]
    exact ⟨e2, rfl, b2⟩
  | ok u =>
    dsimp only
    obtain ⟨_, _, a1, a2, a3, a4, a5⟩ := nuS_ok hp e1
    rw [takeN_ok hT hb hp e1, bs]
    dsimp only
    cases e2 : nuS b T (nn 0) (nn N - nn 1) u.2 with
    | error F =>
      dsimp only
      obtain ⟨_, _, _, hF, hF2⟩ := nuS_er hT a1 e2
      obtain ⟨v, e, b1, b2⟩ := takeN_er hT hb a1 e2
      rw [b1, bs]
      dsimp only
      rw [xc_isFine hF2, bs, if_pos (show b01 (decide (F = 0) = true) = nn 0 from b01_f (by simp; omega))]
      exact ⟨e, rfl, b2⟩
    | ok v =>
      dsimp only
      rw [takeN_ok hT hb a1 e2, bs]
      dsimp only
      rw [show mCursor_isFine (nn 0) = some (nn 1) from rfl, bs, if_neg (show ¬ nn 1 = nn 0 by decide)]
      unfold mFair_addBuyer
      rw [show (6 : Int32) = nn 6 from id rfl, iflt_t (by omega) (by omega), rq_inb (by omega) (by omega), ltp, rq_inb (by omega) (by omega), ltp, nn_tn (by omega), li0]
      obtain ⟨ha, c1, c2⟩ := addBuyer_l32 (purse := upd g.2.2.2.2.2.2.2.2.2.2.2.2.2.1 B (nn u.1)) (came := upd g.2.2.2.2.2.2.2.2.2.2.2.2.2.2.1 B (nn v.1)) hB 6 0 FU g.2.2.2.2.2.2.2.2.2.2.2.2.2.2.2.1 (by omega) (by unfold FU; omega) (fun j hj => g7 j (by omega))
      rw [c1, bs]
      refine ⟨_, _, ha, rfl, fun k hk => ?_, c2⟩
      dsimp only
      by_cases ek : k = B
      · subst ek
        rw [upd_s, upd_s, upd_o (by omega), upd_o (by omega), upd_s, upd_o (by omega), upd_s]
        exact ⟨rfl, rfl⟩
      · rw [upd_o ek, upd_o ek, upd_o (by omega), upd_o (by omega), upd_o (by omega), upd_o (by omega), upd_o (by omega), upd_o (by omega)]
        exact g6 k (by omega)
theorem xc_f1 (hT : T ≤ 400) (hb : bR T b tx) {li p N B : Nat} {rd : Nat → Int32} {g : tyFair} (hp : p ≤ T) (hN : N < 6) (ho : rdO li N B rd) (hg : rdR N B rd g) :
    match f1S b T N p rd with
    | .ok y => ∃ go pc to ti we so ri gr, mFairReader_readStall tx (nn T) (nn p) (nn 0) g.2.2.1 g.2.2.2.2.2.1 g.2.2.2.2.2.2.1 g.2.2.2.2.2.2.2.1 g.2.2.2.2.2.2.2.2.1 g.2.2.2.2.2.2.2.2.2.1 g.2.2.2.2.2.2.2.2.2.2.1 g.2.2.2.2.2.2.2.2.2.2.2.1 g.2.2.2.2.2.2.2.2.2.2.2.2.1 = some (nn y.1, nn 0, nn (N + 1), go, pc, to, ti, we, so, ri, gr) ∧ (∀ s, s < N + 1 → go s = y.2 (101 + s) ∧ pc s = y.2 (107 + s) ∧ to s = y.2 (89 + s) ∧ ti s = nn 0 ∧ we s = nn 0 ∧ so s = nn 0 ∧ ri s = nn s ∧ gr s = y.2 (113 + s))
    | .error F => ∃ p', mFairReader_readStall tx (nn T) (nn p) (nn 0) g.2.2.1 g.2.2.2.2.2.1 g.2.2.2.2.2.2.1 g.2.2.2.2.2.2.2.1 g.2.2.2.2.2.2.2.2.1 g.2.2.2.2.2.2.2.2.2.1 g.2.2.2.2.2.2.2.2.2.2.1 g.2.2.2.2.2.2.2.2.2.2.2.1 g.2.2.2.2.2.2.2.2.2.2.2.2.1 = some (nn p', nn F, g.2.2.1, g.2.2.2.2.2.1, g.2.2.2.2.2.2.1, g.2.2.2.2.2.2.2.1, g.2.2.2.2.2.2.2.2.1, g.2.2.2.2.2.2.2.2.2.1, g.2.2.2.2.2.2.2.2.2.2.1, g.2.2.2.2.2.2.2.2.2.2.2.1, g.2.2.2.2.2.2.2.2.2.2.2.2.1) ∧ p' ≤ T := by
  obtain ⟨⟨g1, g2, g3, g4⟩, g5, g6, g7⟩ := hg
  unfold mFairReader_readStall f1S
  rw [g3, li0, li1, show (20 : Int32) = nn 20 from id rfl, show (40 : Int32) = nn 40 from id rfl]
  cases e1 : nuS b T (nn 0) (nn 20) p with
  | error F =>
    dsimp only
    obtain ⟨_, _, _, hF, hF2⟩ := nuS_er hT hp e1
    obtain ⟨v, e, a1, a2⟩ := takeN_er hT hb hp e1
    rw [a1, bs]
    dsimp only
    obtain ⟨v2, e2, b1, b2⟩ := takeN_f hT hb (nn 1) (nn 40) a2 hF hF2
    rw [b1, bs]
    dsimp only
    obtain ⟨v3, e3, c1, c2⟩ := takeN_f hT hb (nn 0) (nn 20) b2 hF hF2
    rw [c1, bs]
    dsimp only
    rw [xc_isFine hF2, bs, if_pos (show b01 (decide (F = 0) = true) = nn 0 from b01_f (by simp; omega))]
    exact ⟨e3, rfl, c2⟩
  | ok u =>
    dsimp only
    obtain ⟨_, _, a1, a2, a3, a4, a5⟩ := nuS_ok hp e1
    rw [takeN_ok hT hb hp e1, bs]
    dsimp only
    cases e2 : nuS b T (nn 1) (nn 40) u.2 with
    | error F =>
      dsimp only
      obtain ⟨_, _, _, hF, hF2⟩ := nuS_er hT a1 e2
      obtain ⟨v, e, b1, b2⟩ := takeN_er hT hb a1 e2
      rw [b1, bs]
      dsimp only
      obtain ⟨v3, e3, c1, c2⟩ := takeN_f hT hb (nn 0) (nn 20) b2 hF hF2
      rw [c1, bs]
      dsimp only
      rw [xc_isFine hF2, bs, if_pos (show b01 (decide (F = 0) = true) = nn 0 from b01_f (by simp; omega))]
      exact ⟨e3, rfl, c2⟩
    | ok v =>
      dsimp only
      obtain ⟨_, _, b1, b2, b3, b4, b5⟩ := nuS_ok a1 e2
      rw [takeN_ok hT hb a1 e2, bs]
      dsimp only
      cases e3 : nuS b T (nn 0) (nn 20) v.2 with
      | error F =>
        dsimp only
        obtain ⟨_, _, _, hF, hF2⟩ := nuS_er hT b1 e3
        obtain ⟨v, e, c1, c2⟩ := takeN_er hT hb b1 e3
        rw [c1, bs]
        dsimp only
        rw [xc_isFine hF2, bs, if_pos (show b01 (decide (F = 0) = true) = nn 0 from b01_f (by simp; omega))]
        exact ⟨e, rfl, c2⟩
      | ok w =>
        dsimp only
        rw [takeN_ok hT hb b1 e3, bs]
        dsimp only
        rw [show mCursor_isFine (nn 0) = some (nn 1) from rfl, bs, if_neg (show ¬ nn 1 = nn 0 by decide)]
        unfold mFair_addStall
        rw [show (6 : Int32) = nn 6 from id rfl, iflt_t (by omega) (by omega)]
        simp only [rq_inb hN (show 6 < 2147483648 by omega), ltp]
        rw [nn_tn (by omega), li1, nn_add, bs]
        refine ⟨_, _, _, _, _, _, _, _, rfl, fun s hs => ?_⟩
        dsimp only
        by_cases es : s = N
        · subst es
          rw [upd_s, upd_s, upd_s, upd_s, upd_s, upd_s, upd_s, upd_s]
          refine ⟨?_, ?_, ?_, rfl, rfl, rfl, rfl, ?_⟩
          · rw [upd_o (by omega), upd_o (by omega), upd_o (by omega), upd_s]
          · rw [upd_o (by omega), upd_o (by omega), upd_s]
          · rw [upd_o (by omega), upd_s]
          · rw [upd_o (by omega), upd_o (by omega), upd_o (by omega), upd_o (by omega)]
            exact (ho.2.2.2.2.2.2.2 s (Nat.le_refl _) hN).symm
        · rw [upd_o es, upd_o es, upd_o es, upd_o es, upd_o es, upd_o es, upd_o es, upd_o es]
          rw [upd_o (by omega), upd_o (by omega), upd_o (by omega), upd_o (by omega), upd_o (by omega), upd_o (by omega), upd_o (by omega), upd_o (by omega), upd_o (by omega), upd_o (by omega), upd_o (by omega), upd_o (by omega), upd_o (by omega), upd_o (by omega), upd_o (by omega), upd_o (by omega)]
          exact g5 s (by omega)
theorem xc_f2 (hT : T ≤ 400) (hb : bR T b tx) {p N B : Nat} {rd : Nat → Int32} {g : tyFair} (hp : p ≤ T) (hN : N ≤ 6) (hg : rdR N B rd g) :
    match f2S b T N p rd with
    | .ok y => ∃ gr se pr bo, mFairReader_readGrudge tx (nn T) (nn p) (nn 0) g.2.2.1 g.2.2.2.2.2.2.2.1 g.2.2.2.2.2.2.2.2.2.2.2.1 g.2.2.2.2.2.2.2.2.2.2.2.2.1 g.2.2.2.2.2.2.2.2.2.2.2.2.2.2.2.2.1 g.2.2.2.2.2.2.2.2.2.2.2.2.2.2.2.2.2.1 g.2.2.2.2.2.2.2.2.2.2.2.2.2.2.2.2.2.2 = some (nn y.1, nn 0, gr, se, pr, bo) ∧ (∀ s, s < N → gr s = y.2 (113 + s)) ∧ (∀ k, ¬ (113 ≤ k ∧ k < 119) → y.2 k = rd k)
    | .error F => ∃ p', mFairReader_readGrudge tx (nn T) (nn p) (nn 0) g.2.2.1 g.2.2.2.2.2.2.2.1 g.2.2.2.2.2.2.2.2.2.2.2.1 g.2.2.2.2.2.2.2.2.2.2.2.2.1 g.2.2.2.2.2.2.2.2.2.2.2.2.2.2.2.2.1 g.2.2.2.2.2.2.2.2.2.2.2.2.2.2.2.2.2.1 g.2.2.2.2.2.2.2.2.2.2.2.2.2.2.2.2.2.2 = some (nn p', nn F, g.2.2.2.2.2.2.2.2.2.2.2.2.1, g.2.2.2.2.2.2.2.2.2.2.2.2.2.2.2.2.1, g.2.2.2.2.2.2.2.2.2.2.2.2.2.2.2.2.2.1, g.2.2.2.2.2.2.2.2.2.2.2.2.2.2.2.2.2.2) ∧ p' ≤ T := by
  obtain ⟨⟨g1, g2, g3, g4⟩, g5, g6, g7⟩ := hg
  unfold mFairReader_readGrudge f2S
  rw [g3, li0, li1]
  -- a fault stays
  have fl : ∀ (F : Nat) (v1 v2 e2 q2 : Nat), 0 < F → F < 100000 → e2 ≤ T → ∃ p', (if nn v2 = nn v1 then (mCursor_fail (nn 1) (nn q2) (nn F)).bind (fun q10 => (mCursor_isFine q10).bind (fun q11 => (if q11 = nn 0 then some (nn e2, q10, g.2.2.2.2.2.2.2.2.2.2.2.2.1, g.2.2.2.2.2.2.2.2.2.2.2.2.2.2.2.2.1, g.2.2.2.2.2.2.2.2.2.2.2.2.2.2.2.2.2.1, g.2.2.2.2.2.2.2.2.2.2.2.2.2.2.2.2.2.2) else (mFair_bears (nn v1) (nn v2) g.2.2.2.2.2.2.2.2.2.2.2.2.1).bind (fun q13 => (if q13 = nn 0 then (mFair_flipGrudge (nn v1) (nn v2) (nn N) g.2.2.2.2.2.2.2.1 g.2.2.2.2.2.2.2.2.2.2.2.1 g.2.2.2.2.2.2.2.2.2.2.2.2.1 g.2.2.2.2.2.2.2.2.2.2.2.2.2.2.2.2.1 g.2.2.2.2.2.2.2.2.2.2.2.2.2.2.2.2.2.1 g.2.2.2.2.2.2.2.2.2.2.2.2.2.2.2.2.2.2).bind (fun q15 => some (nn e2, q10, q15.1, q15.2.1, q15.2.2.1, q15.2.2.2)) else some (nn e2, q10, g.2.2.2.2.2.2.2.2.2.2.2.2.1, g.2.2.2.2.2.2.2.2.2.2.2.2.2.2.2.2.1, g.2.2.2.2.2.2.2.2.2.2.2.2.2.2.2.2.2.1, g.2.2.2.2.2.2.2.2.2.2.2.2.2.2.2.2.2.2))))))
      else (mCursor_isFine (nn F)).bind (fun q5 => (if q5 = nn 0 then some (nn e2, nn F, g.2.2.2.2.2.2.2.2.2.2.2.2.1, g.2.2.2.2.2.2.2.2.2.2.2.2.2.2.2.2.1, g.2.2.2.2.2.2.2.2.2.2.2.2.2.2.2.2.2.1, g.2.2.2.2.2.2.2.2.2.2.2.2.2.2.2.2.2.2) else (mFair_bears (nn v1) (nn v2) g.2.2.2.2.2.2.2.2.2.2.2.2.1).bind (fun q7 => (if q7 = nn 0 then (mFair_flipGrudge (nn v1) (nn v2) (nn N) g.2.2.2.2.2.2.2.1 g.2.2.2.2.2.2.2.2.2.2.2.1 g.2.2.2.2.2.2.2.2.2.2.2.2.1 g.2.2.2.2.2.2.2.2.2.2.2.2.2.2.2.2.1 g.2.2.2.2.2.2.2.2.2.2.2.2.2.2.2.2.2.1 g.2.2.2.2.2.2.2.2.2.2.2.2.2.2.2.2.2.2).bind (fun q9 => some (nn e2, nn F, q9.1, q9.2.1, q9.2.2.1, q9.2.2.2)) else some (nn e2, nn F, g.2.2.2.2.2.2.2.2.2.2.2.2.1, g.2.2.2.2.2.2.2.2.2.2.2.2.2.2.2.2.1, g.2.2.2.2.2.2.2.2.2.2.2.2.2.2.2.2.2.1, g.2.2.2.2.2.2.2.2.2.2.2.2.2.2.2.2.2.2)))))) = some (nn p', nn F, g.2.2.2.2.2.2.2.2.2.2.2.2.1, g.2.2.2.2.2.2.2.2.2.2.2.2.2.2.2.2.1, g.2.2.2.2.2.2.2.2.2.2.2.2.2.2.2.2.2.1, g.2.2.2.2.2.2.2.2.2.2.2.2.2.2.2.2.2.2) ∧ p' ≤ T := by
    intro F v1 v2 e2 q2 hF hF2 he2
    by_cases ev : nn v2 = nn v1
    · rw [if_pos ev, xc_fail hF2, bs, show flt F 1 q2 = F by unfold flt; rw [if_neg (by omega)], xc_isFine hF2, bs, if_pos (show b01 (decide (F = 0) = true) = nn 0 from b01_f (by simp; omega))]
      exact ⟨e2, rfl, he2⟩
    · rw [if_neg ev, xc_isFine hF2, bs, if_pos (show b01 (decide (F = 0) = true) = nn 0 from b01_f (by simp; omega))]
      exact ⟨e2, rfl, he2⟩
  cases e1 : nuS b T (nn 0) (nn N - nn 1) p with
  | error F =>
    dsimp only
    obtain ⟨_, _, _, hF, hF2⟩ := nuS_er hT hp e1
    obtain ⟨v, e, a1, a2⟩ := takeN_er hT hb hp e1
    rw [a1, bs]
    dsimp only
    rw [xc_see hT hb a2, bs]
    dsimp only
    obtain ⟨v2, e2, b1, b2⟩ := takeN_f hT hb (nn 0) (nn N - nn 1) (skp_le (b := b) a2) hF hF2
    rw [b1, bs]
    exact fl F v v2 e2 _ hF hF2 b2
  | ok u =>
    dsimp only
    obtain ⟨_, _, a1, a2, a3, a4, a5⟩ := nuS_ok hp e1
    have hu := nm1 hN a5
    have hq := skp_le (b := b) a1
    rw [takeN_ok hT hb hp e1, bs]
    dsimp only
    rw [xc_see hT hb a1, bs]
    dsimp only
    cases e2 : nuS b T (nn 0) (nn N - nn 1) (skp b T u.2) with
    | error F =>
      dsimp only
      obtain ⟨_, _, _, hF, hF2⟩ := nuS_er hT hq e2
      obtain ⟨v, e, b1, b2⟩ := takeN_er hT hb hq e2
      rw [b1, bs]
      exact fl F u.1 v e _ hF hF2 b2
    | ok v =>
      dsimp only
      obtain ⟨_, _, b1, b2, b3, b4, b5⟩ := nuS_ok hq e2
      have hv := nm1 hN b5
      rw [takeN_ok hT hb hq e2, bs]
      dsimp only
      by_cases eq : u.1 = v.1
      · rw [if_pos eq, if_pos (show nn v.1 = nn u.1 by rw [eq]), xc_fail (by omega), bs, show flt 0 1 (skp b T u.2) = 1 + 8 * skp b T u.2 + 1 from rfl, xc_isFine (by omega), bs, if_pos (show b01 (decide (1 + 8 * skp b T u.2 + 1 = 0) = true) = nn 0 from b01_f (by simp))]
        exact ⟨v.2, rfl, b1⟩
      · rw [if_neg eq, if_neg (show ¬ nn v.1 = nn u.1 by rw [nn_inj (by omega) (by omega)]; exact fun h => eq h.symm), show mCursor_isFine (nn 0) = some (nn 1) from rfl, bs, if_neg (show ¬ nn 1 = nn 0 by decide), cbears_ev (by omega), bs]
        dsimp only
        have keep : ∀ k, ¬ (113 ≤ k ∧ k < 119) → upd rd (113 + u.1) (rd (113 + u.1) ||| bt v.1) k = rd k := fun k hk => upd_o (by omega)
        have hgu := (g5 u.1 hu).2.2.2.2.2.2.2
        by_cases eb : gB (g.2.2.2.2.2.2.2.2.2.2.2.2.1 u.1) v.1 = true
        · rw [if_neg (show ¬ b01 (gB (g.2.2.2.2.2.2.2.2.2.2.2.2.1 u.1) v.1 = true) = nn 0 by rw [b01_0]; exact fun h => h eb)]
          refine ⟨_, _, _, _, rfl, fun s hs => ?_, keep⟩
          by_cases es : s = u.1
          · subst es; rw [upd_s, ← hgu, bit_is (by omega) eb]
          · rw [upd_o (by omega)]; exact (g5 s hs).2.2.2.2.2.2.2
        · rw [if_pos (show b01 (gB (g.2.2.2.2.2.2.2.2.2.2.2.2.1 u.1) v.1 = true) = nn 0 by rw [b01_0]; exact eb)]
          unfold mFair_flipGrudge
          rw [rq_inb (by omega) (by omega), rq_inb (by omega) (by omega), ltp, nn_tn (by omega), li1, show (31 : Int32) = nn 31 from id rfl]
          obtain ⟨se, pr, bo, har⟩ := arr_tot (tongue := g.2.2.2.2.2.2.2.1) (grudges := upd g.2.2.2.2.2.2.2.2.2.2.2.2.1 u.1 (g.2.2.2.2.2.2.2.2.2.2.2.2.1 u.1 ^^^ (nn 1 <<< (nn v.1 &&& nn 31)))) hN (fun s hs => (g5 s hs).2.2.2.2.2.2.1) g.2.2.2.2.2.2.2.2.2.2.2.2.2.2.2.2.1 g.2.2.2.2.2.2.2.2.2.2.2.2.2.2.2.2.2.1 g.2.2.2.2.2.2.2.2.2.2.2.2.2.2.2.2.2.2
          rw [har, bs, bs]
          refine ⟨_, se, pr, bo, rfl, fun s hs => ?_, keep⟩
          dsimp only
          by_cases es : s = u.1
          · subst es
            rw [upd_s, upd_s, ← hgu, bit_on (by omega) (by rw [← Bool.not_eq_true]; exact eb)]
            rfl
          · rw [upd_o es, upd_o (by omega)]; exact (g5 s hs).2.2.2.2.2.2.2
theorem may_ev {k li N B : Nat} (hk : k < 4) (hl : li < 1000) (hN : N ≤ 6) (hB : B ≤ 6) : mFairReader_mayStand (nn k) (nn li) (nn N) (nn B) = some (b01 (decide (¬ noS li k N B) = true)) := by
  unfold mFairReader_mayStand
  rw [show (40 : Int32) = nn 40 from id rfl]
  by_cases e40 : 40 ≤ li
  · rw [ifle_t e40 (by omega), b01_f (by simp; intro h; omega)]
    rfl
  · rw [ifle_f (by omega) (by omega)]
    have hend : (li = 0 ↔ k = 0) → (if nn k = (1 : Int32) then (if (6 : Int32) ≤ nn N then some ((0 : Int32)) else some ((1 : Int32))) else (if nn k = 0 then some ((1 : Int32)) else (if nn k = (2 : Int32) then some ((1 : Int32)) else (if (6 : Int32) ≤ nn B then some ((0 : Int32)) else some ((1 : Int32)))))) = some (b01 (decide (¬ noS li k N B) = true)) := by
      intro hiff
      rw [show (1 : Int32) = nn 1 from id rfl, show (6 : Int32) = nn 6 from id rfl, show (2 : Int32) = nn 2 from id rfl, show (0 : Int32) = nn 0 from id rfl]
      by_cases k1 : k = 1
      · rw [ifeq_t k1]
        by_cases c : 6 ≤ N
        · rw [ifle_t c (by omega), b01_f (by simp only [decide_eq_true_eq]; exact fun h => h (Or.inr (Or.inr (Or.inl ⟨k1, c⟩))))]
        · rw [ifle_f (by omega) (by omega), b01_t (by
            simp only [decide_eq_true_eq]
            rintro (h | h | ⟨_, h⟩ | ⟨h, _⟩)
            · omega
            · exact h hiff
            · omega
            · omega)]
      · rw [ifeq_f k1 (by omega) (by omega)]
        have ok : ¬ (k = 3 ∧ 6 ≤ B) → ¬ noS li k N B := by
          rintro h3 (h | h | ⟨h, _⟩ | h)
          · omega
          · exact h hiff
          · omega
          · exact h3 h
        by_cases k0 : k = 0
        · rw [ifeq_t k0, b01_t (decide_eq_true (ok (by omega)))]
        · rw [ifeq_f k0 (by omega) (by omega)]
          by_cases k2 : k = 2
          · rw [ifeq_t k2, b01_t (decide_eq_true (ok (by omega)))]
          · rw [ifeq_f k2 (by omega) (by omega)]
            by_cases c : 6 ≤ B
            · rw [ifle_t c (by omega), b01_f (by simp only [decide_eq_true_eq]; exact fun h => h (Or.inr (Or.inr (Or.inr ⟨by omega, c⟩))))]
            · rw [ifle_f (by omega) (by omega), b01_t (decide_eq_true (ok (by omega)))]
    have bad : ¬ (li = 0 ↔ k = 0) → some (0 : Int32) = some (b01 (decide (¬ noS li k N B) = true)) := fun h => by
      rw [b01_f (by simp only [decide_eq_true_eq]; exact fun h2 => h2 (Or.inr (Or.inl h)))]
      rfl
    have z0 : ∀ {m : Nat} {α : Type} {x y : α}, m < 1000 → (if nn m = (0 : Int32) then x else y) = if m = 0 then x else y := fun {m} {α} {x} {y} hm => by
      by_cases e : m = 0
      · rw [if_pos e, if_pos (by rw [e]; rfl)]
      · rw [if_neg e, if_neg (by rw [li0, nn_inj (by omega) (by omega)]; exact e)]
    unfold mFairReader_mayStand_j15 mFairReader_mayStand_j24
    by_cases l0 : li = 0
    · by_cases k0 : k = 0
      · rw [z0 hl, if_pos l0, z0 (by omega), if_pos k0, if_pos rfl]
        exact hend (by omega)
      · rw [z0 hl, if_pos l0, z0 (by omega), if_neg k0, if_neg (by decide)]
        exact bad (by omega)
    · by_cases k0 : k = 0
      · rw [z0 hl, if_neg l0, z0 (by omega), if_pos k0, if_neg (by decide)]
        exact bad (by omega)
      · rw [z0 hl, if_neg l0, z0 (by omega), if_neg k0, if_pos rfl]
        exact hend (by omega)
theorem xc_clause (hT : T ≤ 400) (hb : bR T b tx) {li : Nat} {s : FX} {g : tyFair} (hli : li ≤ 40) (hp : s.1 ≤ T) (ho : rdO li s.2.1 s.2.2.1 s.2.2.2) (hg : rdR s.2.1 s.2.2.1 s.2.2.2 g) :
    rsX T (cxS b T li s) (mFairReader_readClause (nn li) tx (nn T) (nn s.1) (nn 0) g.1 g.2.1 g.2.2.1 g.2.2.2.1 g.2.2.2.2.2.1 g.2.2.2.2.2.2.1 g.2.2.2.2.2.2.2.1 g.2.2.2.2.2.2.2.2.1 g.2.2.2.2.2.2.2.2.2.1 g.2.2.2.2.2.2.2.2.2.2.1 g.2.2.2.2.2.2.2.2.2.2.2.1 g.2.2.2.2.2.2.2.2.2.2.2.2.1 g.2.2.2.2.2.2.2.2.2.2.2.2.2.1 g.2.2.2.2.2.2.2.2.2.2.2.2.2.2.1 g.2.2.2.2.2.2.2.2.2.2.2.2.2.2.2.1 g.2.2.2.2.2.2.2.2.2.2.2.2.2.2.2.2.1 g.2.2.2.2.2.2.2.2.2.2.2.2.2.2.2.2.2.1 g.2.2.2.2.2.2.2.2.2.2.2.2.2.2.2.2.2.2) := by
  obtain ⟨p0, N, B, rd⟩ := s
  dsimp only at hp ho hg ⊢
  have hq := skp_le (b := b) hp
  have hqq := skp_skp (b := b) (T := T) (p := p0)
  have hl := run_le (b := b) hq
  have hN := ho.1
  have hB := ho.2.1
  have hg0 := hg
  obtain ⟨⟨g1, g2, g3, g4⟩, g5, g6, g7⟩ := hg
  have ha : arO g := ⟨N, hN, g3, fun s hs => (g5 s hs).2.2.2.2.2.2.1⟩
  unfold mFairReader_readClause cxS
  rw [xc_see hT hb hp, bs]
  dsimp only
  rw [xc_takeWord hT hb okS_0 WF_let (by decide) hq, hqq, bs, twS_wx]
  generalize skp b T p0 = q at hq hqq hl
  cases hk : wx WF (run b T q) 0 with
  | none =>
    dsimp only
    rw [if_pos (show -nn 1 = (-1 : Int32) from rfl), li0, xc_fail (by omega), bs, show flt 0 0 q = 1 + 8 * q from rfl]
    exact ⟨q, g, rfl, hq, ha⟩
  | some k =>
    have hk4 := wx_lt _ _ _ _ hk
    have hWl : WF.length = 4 := rfl
    dsimp only
    rw [if_neg (show ¬ nn k = (-1 : Int32) by rw [li1]; exact nn_ne_m1 (by omega)), g3, g4, may_ev (by omega) (by omega) hN hB, bs]
    by_cases hno : noS li k N B
    · rw [if_pos hno, ifb_f (by simp only [decide_eq_true_eq]; exact fun h => h hno), show (4 : Int32) = nn 4 from id rfl, xc_fail (by omega), bs, show flt 0 4 q = 1 + 8 * q + 4 from rfl, ← g3, ← g4]
      exact ⟨_, g, rfl, hl, ha⟩
    · rw [if_neg hno, ifb_t (decide_eq_true hno), ← g3, ← g4]
      generalize q + (run b T q).length = p at hl
      unfold cxK
      by_cases k0 : k = 0
      · rw [if_pos k0, if_pos (show nn k = (0 : Int32) by rw [k0]; rfl)]
        unfold f0S adX
        rw [li0, li1, show (20 : Int32) = nn 20 from id rfl, show (9 : Int32) = nn 9 from id rfl]
        cases e1 : nuS b T (nn 1) (nn 20) p with
        | error F =>
          dsimp only
          obtain ⟨_, _, _, hF, hF2⟩ := nuS_er hT hl e1
          obtain ⟨v, e, a1, a2⟩ := takeN_er hT hb hl e1
          rw [a1, bs]
          dsimp only
          obtain ⟨v2, e2, b1, b2⟩ := takeN_f hT hb (nn 0) (nn 9) a2 hF hF2
          rw [b1, bs]
          exact ⟨e2, (nn v, nn v2, g.2.2), rfl, b2, ⟨N, hN, g3, fun s hs => (g5 s hs).2.2.2.2.2.2.1⟩⟩
        | ok v =>
          dsimp only
          obtain ⟨_, _, a1, a2, a3, a4, a5⟩ := nuS_ok hl e1
          rw [takeN_ok hT hb hl e1, bs]
          dsimp only
          cases e2 : nuS b T (nn 0) (nn 9) v.2 with
          | error F =>
            dsimp only
            obtain ⟨v2, e, b1, b2⟩ := takeN_er hT hb a1 e2
            rw [b1, bs]
            exact ⟨e, (nn v.1, nn v2, g.2.2), rfl, b2, ⟨N, hN, g3, fun s hs => (g5 s hs).2.2.2.2.2.2.1⟩⟩
          | ok w =>
            dsimp only
            rw [takeN_ok hT hb a1 e2, bs]
            refine ⟨(nn v.1, nn w.1, g.2.2), rfl, ⟨?_, ?_, g3, g4⟩, fun s hs => ?_, fun k hk => ?_, g7⟩
            · dsimp only; rw [upd_o (by omega), upd_o (by omega), upd_s]
            · dsimp only; rw [upd_o (by omega), upd_s]
            · dsimp only at hs ⊢
              rw [upd_o (by omega), upd_o (by omega), upd_o (by omega), upd_o (by omega), upd_o (by omega), upd_o (by omega), upd_o (by omega), upd_o (by omega), upd_o (by omega), upd_o (by omega), upd_o (by omega), upd_o (by omega)]
              exact g5 s hs
            · dsimp only at hk ⊢
              rw [upd_o (by omega), upd_o (by omega), upd_o (by omega), upd_o (by omega), upd_o (by omega), upd_o (by omega)]
              exact g6 k hk
      rw [if_neg k0, if_neg (show ¬ nn k = (0 : Int32) by rw [li0, nn_inj (by omega) (by omega)]; exact k0)]
      by_cases k1 : k = 1
      · have hN6 : N < 6 := Decidable.byContradiction fun c => hno (Or.inr (Or.inr (Or.inl ⟨k1, by omega⟩)))
        rw [if_pos k1, if_pos (show nn k = (1 : Int32) by rw [k1]; rfl)]
        have hv := xc_f1 hT hb (li := li) (B := B) hl hN6 ho hg0
        unfold adX
        cases e1 : f1S b T N p rd with
        | error F =>
          rw [e1] at hv
          obtain ⟨p', v1, v2⟩ := hv
          dsimp only
          rw [v1, bs]
          exact ⟨p', g, rfl, v2, ha⟩
        | ok y =>
          rw [e1] at hv
          obtain ⟨go, pc, to, ti, we, so, ri, gr, v1, v2⟩ := hv
          dsimp only
          rw [v1, bs]
          unfold f1S at e1
          have hkeep : ∀ k, ¬ k = 101 + N → ¬ k = 107 + N → ¬ k = 89 + N → ¬ k = 3 → y.2 k = rd k := by
            intro k c1 c2 c3 c4
            revert e1
            cases nuS b T (nn 0) (nn 20) p with
            | error F => intro e1; cases e1
            | ok u =>
              dsimp only
              cases nuS b T (nn 1) (nn 40) u.2 with
              | error F => intro e1; cases e1
              | ok v =>
                dsimp only
                cases nuS b T (nn 0) (nn 20) v.2 with
                | error F => intro e1; cases e1
                | ok w =>
                  intro e1
                  cases e1
                  dsimp only
                  rw [upd_o c4, upd_o c3, upd_o c2, upd_o c1]
          refine ⟨(g.1, g.2.1, nn (N + 1), g.2.2.2.1, g.2.2.2.2.1, go, pc, to, ti, we, so, ri, gr, g.2.2.2.2.2.2.2.2.2.2.2.2.2.1, g.2.2.2.2.2.2.2.2.2.2.2.2.2.2.1, g.2.2.2.2.2.2.2.2.2.2.2.2.2.2.2.1, g.2.2.2.2.2.2.2.2.2.2.2.2.2.2.2.2.1, g.2.2.2.2.2.2.2.2.2.2.2.2.2.2.2.2.2.1, g.2.2.2.2.2.2.2.2.2.2.2.2.2.2.2.2.2.2), rfl, ⟨?_, ?_, rfl, g4⟩, v2, fun k hk => ?_, g7⟩
          · dsimp only; rw [hkeep 1 (by omega) (by omega) (by omega) (by omega)]; exact g1
          · dsimp only; rw [hkeep 2 (by omega) (by omega) (by omega) (by omega)]; exact g2
          · dsimp only at hk ⊢
            rw [hkeep _ (by omega) (by omega) (by omega) (by omega), hkeep _ (by omega) (by omega) (by omega) (by omega)]
            exact g6 k hk
      rw [if_neg k1, if_neg (show ¬ nn k = (1 : Int32) by rw [li1, nn_inj (by omega) (by omega)]; exact k1)]
      by_cases k2 : k = 2
      · rw [if_pos k2, if_pos (show nn k = (2 : Int32) by rw [k2]; rfl)]
        have hv := xc_f2 hT hb (B := B) (rd := rd) hl hN hg0
        unfold adX
        cases e1 : f2S b T N p rd with
        | error F =>
          rw [e1] at hv
          obtain ⟨p', v1, v2⟩ := hv
          dsimp only
          rw [v1, bs]
          exact ⟨p', g, rfl, v2, ha⟩
        | ok y =>
          rw [e1] at hv
          obtain ⟨gr, se, pr, bo, v1, v2, v3⟩ := hv
          dsimp only
          rw [v1, bs]
          refine ⟨(g.1, g.2.1, g.2.2.1, g.2.2.2.1, g.2.2.2.2.1, g.2.2.2.2.2.1, g.2.2.2.2.2.2.1, g.2.2.2.2.2.2.2.1, g.2.2.2.2.2.2.2.2.1, g.2.2.2.2.2.2.2.2.2.1, g.2.2.2.2.2.2.2.2.2.2.1, g.2.2.2.2.2.2.2.2.2.2.2.1, gr, g.2.2.2.2.2.2.2.2.2.2.2.2.2.1, g.2.2.2.2.2.2.2.2.2.2.2.2.2.2.1, g.2.2.2.2.2.2.2.2.2.2.2.2.2.2.2.1, se, pr, bo), rfl, ⟨?_, ?_, g3, g4⟩, fun s hs => ?_, fun k hk => ?_, g7⟩
          · dsimp only; rw [v3 _ (by omega)]; exact g1
          · dsimp only; rw [v3 _ (by omega)]; exact g2
          · dsimp only at hs ⊢
            obtain ⟨d1, d2, d3, d4, d5, d6, d7, d8⟩ := g5 s hs
            rw [v3 (101 + s) (by omega), v3 (107 + s) (by omega), v3 (89 + s) (by omega)]
            exact ⟨d1, d2, d3, d4, d5, d6, d7, v2 s hs⟩
          · dsimp only at hk ⊢
            rw [v3 _ (by omega), v3 _ (by omega)]
            exact g6 k hk
      rw [if_neg k2, if_neg (show ¬ nn k = (2 : Int32) by rw [show (2 : Int32) = nn 2 from id rfl, nn_inj (by omega) (by omega)]; exact k2)]
      have k3 : k = 3 := by omega
      have hB6 : B < 6 := Decidable.byContradiction fun c => hno (Or.inr (Or.inr (Or.inr ⟨k3, by omega⟩)))
      have hv := xc_f3 hT hb (rd := rd) hl hN hB6 hg0
      unfold adX
      cases e1 : f3S b T N B p rd with
      | error F =>
        rw [e1] at hv
        obtain ⟨p', v1, v2⟩ := hv
        dsimp only
        rw [v1, bs]
        exact ⟨p', g, rfl, v2, ha⟩
      | ok y =>
        rw [e1] at hv
        obtain ⟨pu, ca, hd, v1, v2, v3⟩ := hv
        dsimp only
        rw [v1, bs]
        unfold f3S at e1
        have hkeep : ∀ k, ¬ k = 119 + B → ¬ k = 95 + B → ¬ k = 4 → y.2 k = rd k := by
          intro k c1 c2 c3
          revert e1
          cases nuS b T (nn 0) (nn 99) p with
          | error F => intro e1; cases e1
          | ok u =>
            dsimp only
            cases nuS b T (nn 0) (nn N - nn 1) u.2 with
            | error F => intro e1; cases e1
            | ok v =>
              intro e1
              cases e1
              dsimp only
              rw [upd_o c3, upd_o c2, upd_o c1]
        refine ⟨(g.1, g.2.1, g.2.2.1, nn (B + 1), g.2.2.2.2.1, g.2.2.2.2.2.1, g.2.2.2.2.2.2.1, g.2.2.2.2.2.2.2.1, g.2.2.2.2.2.2.2.2.1, g.2.2.2.2.2.2.2.2.2.1, g.2.2.2.2.2.2.2.2.2.2.1, g.2.2.2.2.2.2.2.2.2.2.2.1, g.2.2.2.2.2.2.2.2.2.2.2.2.1, pu, ca, hd, g.2.2.2.2.2.2.2.2.2.2.2.2.2.2.2.2.1, g.2.2.2.2.2.2.2.2.2.2.2.2.2.2.2.2.2.1, g.2.2.2.2.2.2.2.2.2.2.2.2.2.2.2.2.2.2), rfl, ⟨?_, ?_, g3, rfl⟩, fun s hs => ?_, v2, v3⟩
        · dsimp only; rw [hkeep 1 (by omega) (by omega) (by omega)]; exact g1
        · dsimp only; rw [hkeep 2 (by omega) (by omega) (by omega)]; exact g2
        · dsimp only at hs ⊢
          rw [hkeep (101 + s) (by omega) (by omega) (by omega), hkeep (107 + s) (by omega) (by omega) (by omega), hkeep (89 + s) (by omega) (by omega) (by omega), hkeep (113 + s) (by omega) (by omega) (by omega)]
          exact g5 s hs
abbrev ER : Type := Int32 × Int32 × Int32 × Int32 × Int32 × Int32 × Int32 × (Nat → Int32) × (Nat → Int32) × (Nat → Int32) × (Nat → Int32) × (Nat → Int32) × (Nat → Int32) × (Nat → Int32) × (Nat → Int32) × (Nat → Int32) × (Nat → Int32) × (Nat → Int32) × (Nat → Int32) × (Nat → Int32) × (Nat → Int32)
/-- all is read, and arranged -/
def rsY (mi : Int32) (x : Except Nat FX) (r : Option ER) : Prop :=
  match x with
  | .ok z => ∃ (p' : Int32) (g : tyFair), r = some (p', nn 0, g) ∧ g.2.2.2.2.1 = mi ∧ rdR z.2.1 z.2.2.1 z.2.2.2 g ∧ ∀ d : Nat → Int32, (∀ s, s < z.2.1 → d (89 + s) = g.2.2.2.2.2.2.2.1 s ∧ d (41 + s) = g.2.2.2.2.2.2.2.2.2.2.2.2.1 s) → (∀ t, t < z.2.1 → g.2.2.2.2.2.2.2.2.2.2.2.2.2.2.2.2.1 t = nn (slr z.2.1 (fun k => k) (fun k => k) t) ∧ g.2.2.2.2.2.2.2.2.2.2.2.2.2.2.2.2.2.1 t = prS z.2.1 (fun k => k) (fun k => k) d t ∧ g.2.2.2.2.2.2.2.2.2.2.2.2.2.2.2.2.2.2 t = b01 (brS z.2.1 (fun k => k) (fun k => k) d t = true))
  | .error F => ∃ (p' : Int32) (g : tyFair), r = some (p', nn F, g)
theorem fl8_0 {n : Nat} {x3 at' F' mi : Int32} {g : tyFair} : mFairReader_read_l8 tx (nn T) mi (n + 1) (0 : Int32) x3 at' F' g.1 g.2.1 g.2.2.1 g.2.2.2.1 g.2.2.2.2.2.1 g.2.2.2.2.2.2.1 g.2.2.2.2.2.2.2.1 g.2.2.2.2.2.2.2.2.1 g.2.2.2.2.2.2.2.2.2.1 g.2.2.2.2.2.2.2.2.2.2.1 g.2.2.2.2.2.2.2.2.2.2.2.1 g.2.2.2.2.2.2.2.2.2.2.2.2.1 g.2.2.2.2.2.2.2.2.2.2.2.2.2.1 g.2.2.2.2.2.2.2.2.2.2.2.2.2.2.1 g.2.2.2.2.2.2.2.2.2.2.2.2.2.2.2.1 g.2.2.2.2.2.2.2.2.2.2.2.2.2.2.2.2.1 g.2.2.2.2.2.2.2.2.2.2.2.2.2.2.2.2.2.1 g.2.2.2.2.2.2.2.2.2.2.2.2.2.2.2.2.2.2 = (mFair_arrange g.2.2.1 g.2.2.2.2.2.2.2.1 g.2.2.2.2.2.2.2.2.2.2.2.1 g.2.2.2.2.2.2.2.2.2.2.2.2.1 g.2.2.2.2.2.2.2.2.2.2.2.2.2.2.2.2.1 g.2.2.2.2.2.2.2.2.2.2.2.2.2.2.2.2.2.1 g.2.2.2.2.2.2.2.2.2.2.2.2.2.2.2.2.2.2).bind (fun q5 => some (at', F', g.1, g.2.1, g.2.2.1, g.2.2.2.1, mi, g.2.2.2.2.2.1, g.2.2.2.2.2.2.1, g.2.2.2.2.2.2.2.1, g.2.2.2.2.2.2.2.2.1, g.2.2.2.2.2.2.2.2.2.1, g.2.2.2.2.2.2.2.2.2.2.1, g.2.2.2.2.2.2.2.2.2.2.2.1, g.2.2.2.2.2.2.2.2.2.2.2.2.1, g.2.2.2.2.2.2.2.2.2.2.2.2.2.1, g.2.2.2.2.2.2.2.2.2.2.2.2.2.2.1, g.2.2.2.2.2.2.2.2.2.2.2.2.2.2.2.1, q5.1, q5.2.1, q5.2.2)) := by
  unfold mFairReader_read_l8
  by_cases e : (40 : Int32) < x3
  · rw [if_pos e]
  · rw [if_neg e, if_pos rfl]
theorem xc_fairs (hT : T ≤ 400) (hb : bR T b tx) {mi : Int32} : ∀ (n li : Nat) (s : FX) (g : tyFair) (M : Nat), li ≤ 40 → 40 < li + n → n < M → s.1 ≤ T → rdO li s.2.1 s.2.2.1 s.2.2.2 → rdR s.2.1 s.2.2.1 s.2.2.2 g →
    rsY mi (fxS b T n li s) (mFairReader_read_l8 tx (nn T) mi M (nn 1) (nn li) (nn s.1) (nn 0) g.1 g.2.1 g.2.2.1 g.2.2.2.1 g.2.2.2.2.2.1 g.2.2.2.2.2.2.1 g.2.2.2.2.2.2.2.1 g.2.2.2.2.2.2.2.2.1 g.2.2.2.2.2.2.2.2.2.1 g.2.2.2.2.2.2.2.2.2.2.1 g.2.2.2.2.2.2.2.2.2.2.2.1 g.2.2.2.2.2.2.2.2.2.2.2.2.1 g.2.2.2.2.2.2.2.2.2.2.2.2.2.1 g.2.2.2.2.2.2.2.2.2.2.2.2.2.2.1 g.2.2.2.2.2.2.2.2.2.2.2.2.2.2.2.1 g.2.2.2.2.2.2.2.2.2.2.2.2.2.2.2.2.1 g.2.2.2.2.2.2.2.2.2.2.2.2.2.2.2.2.2.1 g.2.2.2.2.2.2.2.2.2.2.2.2.2.2.2.2.2.2) := by
  intro n
  induction n with
  | zero => intro li s g M h1 h2; omega
  | succ n ih =>
    intro li s g M h1 h2 h3 hp ho hg
    match M, h3 with
    | M + 2, h3 =>
    have hv := xc_clause hT hb h1 hp ho hg
    conv => rhs; unfold mFairReader_read_l8
    rw [show (40 : Int32) = nn 40 from id rfl, iflt_f (by omega) (by omega), ifn1]
    unfold fxS
    cases hc : cxS b T li s with
    | error F =>
      have hF := cs_er hT hp hc
      rw [hc] at hv
      obtain ⟨p', g', v1, v2, N', w1, w2, w3⟩ := hv
      rw [v1, bs]
      dsimp only
      rw [xc_isFine hF.2, bs, ifb_f (by simp; omega), fl8_0]
      obtain ⟨se, pr, bo, har⟩ := arr_tot (tongue := g'.2.2.2.2.2.2.2.1) (grudges := g'.2.2.2.2.2.2.2.2.2.2.2.2.1) w1 w3 g'.2.2.2.2.2.2.2.2.2.2.2.2.2.2.2.2.1 g'.2.2.2.2.2.2.2.2.2.2.2.2.2.2.2.2.2.1 g'.2.2.2.2.2.2.2.2.2.2.2.2.2.2.2.2.2.2
      rw [w2, har, bs]
      exact ⟨_, _, rfl⟩
    | ok z =>
      obtain ⟨a1, a2, a3, a4⟩ := cs_ok hp ho hc
      rw [hc] at hv
      obtain ⟨g', v1, v2⟩ := hv
      rw [v1, bs]
      dsimp only
      rw [show mCursor_isFine (nn 0) = some (nn 1) from rfl, bs, ifn1, xc_next hT hb a1, bs, li1, nn_add]
      have hz := skp_le (b := b) a1
      have hN := a3.1
      obtain ⟨⟨g1, g2, g3, g4⟩, g5, g6, g7⟩ := v2
      generalize skp b T z.1 = q at hz
      by_cases e59 : seB b T q = nn 59
      · have hlt := seB_lt (b := b) (by omega) e59
        rw [if_pos e59, if_pos e59]
        dsimp only
        rw [ifn1]
        exact ih (li + 1) (q + 1, z.2) g' (M + 1) (by omega) (by omega) (by omega) (by dsimp only; omega) a3 ⟨⟨g1, g2, g3, g4⟩, g5, g6, g7⟩
      · rw [if_neg e59, if_neg e59]
        by_cases eT : q < T
        · rw [if_pos eT, if_pos eT]
          dsimp only
          rw [ifn0, fl8_0]
          obtain ⟨se, pr, bo, har⟩ := arr_tot (tongue := g'.2.2.2.2.2.2.2.1) (grudges := g'.2.2.2.2.2.2.2.2.2.2.2.2.1) hN (fun s hs => (g5 s hs).2.2.2.2.2.2.1) g'.2.2.2.2.2.2.2.2.2.2.2.2.2.2.2.2.1 g'.2.2.2.2.2.2.2.2.2.2.2.2.2.2.2.2.2.1 g'.2.2.2.2.2.2.2.2.2.2.2.2.2.2.2.2.2.2
          rw [g3, har, bs]
          exact ⟨_, _, rfl⟩
        · rw [if_neg eT, if_neg eT]
          dsimp only
          rw [ifn0, fl8_0]
          obtain ⟨se, pr, bo, har, k1, k2, k3⟩ := arrange_ev (N := z.2.1) (rg := fun k => k) (pl := fun k => k) (d := fun k => if k < 60 then g'.2.2.2.2.2.2.2.2.2.2.2.2.1 (k - 41) else g'.2.2.2.2.2.2.2.1 (k - 89)) (stalls := nn z.2.1) (tongue := g'.2.2.2.2.2.2.2.1) (ring := g'.2.2.2.2.2.2.2.2.2.2.2.1) (grudges := g'.2.2.2.2.2.2.2.2.2.2.2.2.1) hN (id_rOK _) rfl (fun s hs => by
            show g'.2.2.2.2.2.2.2.1 s = if 89 + s < 60 then g'.2.2.2.2.2.2.2.2.2.2.2.2.1 (89 + s - 41) else g'.2.2.2.2.2.2.2.1 (89 + s - 89)
            rw [if_neg (by omega), show 89 + s - 89 = s by omega]) (fun s hs => (g5 s hs).2.2.2.2.2.2.1) (fun s hs => by
            show g'.2.2.2.2.2.2.2.2.2.2.2.2.1 s = if 41 + s < 60 then g'.2.2.2.2.2.2.2.2.2.2.2.2.1 (41 + s - 41) else g'.2.2.2.2.2.2.2.1 (41 + s - 89)
            rw [if_pos (by omega), show 41 + s - 41 = s by omega]) g'.2.2.2.2.2.2.2.2.2.2.2.2.2.2.2.2.1 g'.2.2.2.2.2.2.2.2.2.2.2.2.2.2.2.2.2.1 g'.2.2.2.2.2.2.2.2.2.2.2.2.2.2.2.2.2.2
          rw [g3, har, bs]
          refine ⟨_, (g'.1, g'.2.1, nn z.2.1, g'.2.2.2.1, mi, g'.2.2.2.2.2.1, g'.2.2.2.2.2.2.1, g'.2.2.2.2.2.2.2.1, g'.2.2.2.2.2.2.2.2.1, g'.2.2.2.2.2.2.2.2.2.1, g'.2.2.2.2.2.2.2.2.2.2.1, g'.2.2.2.2.2.2.2.2.2.2.2.1, g'.2.2.2.2.2.2.2.2.2.2.2.2.1, g'.2.2.2.2.2.2.2.2.2.2.2.2.2.1, g'.2.2.2.2.2.2.2.2.2.2.2.2.2.2.1, g'.2.2.2.2.2.2.2.2.2.2.2.2.2.2.2.1, se, pr, bo), rfl, rfl, ⟨⟨g1, g2, rfl, g4⟩, g5, g6, g7⟩, fun d hd t ht => ?_⟩
          have hsl := slr_lt (id_rOK z.2.1) ht
          have hbr : brS z.2.1 (fun k => k) (fun k => k) (fun k => if k < 60 then g'.2.2.2.2.2.2.2.2.2.2.2.2.1 (k - 41) else g'.2.2.2.2.2.2.2.1 (k - 89)) t = brS z.2.1 (fun k => k) (fun k => k) d t := by
            unfold brS
            rw [(hd _ hsl).2]
            show gB (if 41 + slr z.2.1 (fun k => k) (fun k => k) t < 60 then g'.2.2.2.2.2.2.2.2.2.2.2.2.1 (41 + slr z.2.1 (fun k => k) (fun k => k) t - 41) else _) t = _
            rw [if_pos (by omega), show 41 + slr z.2.1 (fun k => k) (fun k => k) t - 41 = slr z.2.1 (fun k => k) (fun k => k) t by omega]
          have hpr : prS z.2.1 (fun k => k) (fun k => k) (fun k => if k < 60 then g'.2.2.2.2.2.2.2.2.2.2.2.2.1 (k - 41) else g'.2.2.2.2.2.2.2.1 (k - 89)) t = prS z.2.1 (fun k => k) (fun k => k) d t := by
            unfold brS at hbr
            unfold prS
            rw [hbr, (hd _ hsl).1]
            show (if _ then (if 89 + slr z.2.1 (fun k => k) (fun k => k) t < 60 then _ else g'.2.2.2.2.2.2.2.1 (89 + slr z.2.1 (fun k => k) (fun k => k) t - 89)) / nn 2 else (if 89 + slr z.2.1 (fun k => k) (fun k => k) t < 60 then _ else g'.2.2.2.2.2.2.2.1 (89 + slr z.2.1 (fun k => k) (fun k => k) t - 89))) = _
            rw [if_neg (show ¬ 89 + slr z.2.1 (fun k => k) (fun k => k) t < 60 by omega), show 89 + slr z.2.1 (fun k => k) (fun k => k) t - 89 = slr z.2.1 (fun k => k) (fun k => k) t by omega]
          exact ⟨k1 t ht, by rw [← hpr]; exact k2 t ht, by rw [← hbr]; exact k3 t ht⟩
end fairc
