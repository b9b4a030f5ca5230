section go
variable {N B L : Nat} {rg pl : Nat → Nat} {ac : Nat → Bool} {lasts keeps stalls buyers minute : Int32} {price came seller praise borne goods till wealth sold purse had : Nat → Int32}
/-- all that going on needs -/
def goR (N B L : Nat) (rg pl : Nat → Nat) (d : Nat → Int32) (lasts keeps stalls buyers minute : Int32) (goods price till wealth sold purse came had seller praise borne : Nat → Int32) : Prop :=
  stR N B rg pl d lasts stalls buyers minute price came seller praise borne ∧ dyR N B d goods till sold purse had ∧ weR N d wealth ∧ keeps = d 2 ∧ fxR N B L rg d ∧ tgR N d ∧ prR N d
theorem stR_tr {ru : Option RU} {d : Nat → Int32} (hr : rOK N rg pl) (hN : N ≤ 6) (hB : B ≤ 6) : ∀ (k b : Nat) (d : Nat → Int32) (p : Int32), b + k ≤ B → stR N B rg pl d lasts stalls buyers minute price came seller praise borne → weR N d wealth → keeps = d 2 → fxR N B L rg d → tgR N d → prR N d →
    stR N B rg pl (trS ru N rg pl ac k b d p).1 lasts stalls buyers minute price came seller praise borne ∧ weR N (trS ru N rg pl ac k b d p).1 wealth ∧ keeps = (trS ru N rg pl ac k b d p).1 2 ∧ fxR N B L rg (trS ru N rg pl ac k b d p).1 ∧ tgR N (trS ru N rg pl ac k b d p).1 ∧ prR N (trS ru N rg pl ac k b d p).1
  | 0, _, _, _, _, h1, h2, h3, h4, h5, h6 => ⟨h1, h2, h3, h4, h5, h6⟩
  | k + 1, b, d, p, hb, h1, h2, h3, h4, h5, h6 => by
    unfold trS
    split
    · exact stR_tr (d := d) hr hN hB k (b + 1) d p (by omega) h1 h2 h3 h4 h5 h6
    · rename_i s hs
      have hs' : s < N := by
        split at hs
        · exact pick_lt hs
        · cases hs
      have hb6 : b < 6 := by omega
      exact stR_tr (d := d) hr hN hB k (b + 1) _ _ (by omega) (stR_buy h1 hr hN hB hs' (by omega)) (fun q hq => by rw [buyD_3 hr hN hs' hb6 (by omega)]; exact h2 q hq) (by rw [buyD_o hN hr hs' hb6 (by omega)]; exact h3) (fx_buy hr h4 hs' hb6) (tgR_buy h5 hr hN hs' hb6) (prR_buy h6 hr hN hs' hb6)
theorem tg_tEq {d d2 : Nat → Int32} (h : tEq d d2) (hN : N ≤ 6) (h1 : tgR N d) : tgR N d2 := fun s hs => by rw [h _ (by omega) (by omega)]; exact h1 s hs
theorem pr_tEq2 {d d2 : Nat → Int32} (h : tEq d d2) (hN : N ≤ 6) (h1 : prR N d) : prR N d2 := fun s hs => by rw [h _ (by omega) (by omega)]; exact h1 s hs
theorem gor_l9_ev {x3 : Int32} {steps sumFrom testFrom testTo : Nat → Int32} {size clauses readsTime : Int32} {r : RU} {len : Nat} (hR : rcR steps size sumFrom testFrom testTo clauses readsTime r len) (hac : acR x3 (nn 0) ac) (hr : rOK N rg pl) (M : Nat) (hM : M < 4000) :
    ∀ (k i n : Nat) (d : Nat → Int32) (p ov minute : Int32) (goods till wealth sold purse had : Nat → Int32) (wd z : Nat → Int64), goR N B L rg pl d lasts keeps stalls buyers minute goods price till wealth sold purse came had seller praise borne → (ov = nn 0 ∨ (ov = nn 1 ∧ Qt (some r) N rg pl ac B d)) → i + k = M → k < n →
      ∃ m' g' t' w' s' p' h' wd' z', mFair_gor_l9 lasts keeps stalls buyers price came seller praise borne steps size sumFrom testFrom testTo clauses readsTime (nn M) x3 n p ov (nn i) minute goods till wealth sold purse had wd z = some ((minsS (some r) N rg pl ac B k d p).2, m', g', t', w', s', p', h', wd', z') ∧
        goR N B L rg pl (minsS (some r) N rg pl ac B k d p).1 lasts keeps stalls buyers m' g' price t' w' s' p' came h' seller praise borne := by
  intro k
  induction k with
  | zero =>
    intro i n d p ov minute goods till wealth sold purse had wd z hG hO h1 h2
    match n, h2 with
    | n + 1, _ =>
    refine ⟨minute, goods, till, wealth, sold, purse, had, wd, z, ?_, hG⟩
    unfold mFair_gor_l9
    rw [ifle_t (by omega) (by omega)]
    rfl
  | succ k ih =>
    intro i n d p ov minute goods till wealth sold purse had wd z hG hO h1 h2
    match n, h2 with
    | n + 1, h2 =>
    have hG' := hG
    obtain ⟨hS, hD, hW, hK, hf, ht, hp⟩ := hG'
    have hf' := hf
    obtain ⟨hN, hB, hL, hL2, h3, h4, h5, h8⟩ := hf'
    have fin : ∀ (d1 : Nat → Int32) (ov' q : Int32) (goods till sold purse had : Nat → Int32) (wd z : Nat → Int64), stR N B rg pl d1 lasts stalls buyers minute price came seller praise borne → dyR N B d1 goods till sold purse had → weR N d1 wealth → keeps = d1 2 → fxR N B L rg d1 → tgR N d1 → prR N d1 → minS (some r) N rg pl ac B d = (clsD N rg pl d1, q) → (ov' = nn 0 ∨ (ov' = nn 1 ∧ Qt (some r) N rg pl ac B d1)) →
        ∃ m' g' t' w' s' p' h' wd' z', (mFair_closeMinute lasts keeps stalls minute till wealth seller).bind (fun q6 => mFair_gor_l9 lasts keeps stalls buyers price came seller praise borne steps size sumFrom testFrom testTo clauses readsTime (nn M) x3 n (p + q) ov' (nn (i + 1)) q6.1 goods q6.2.1 q6.2.2 sold purse had wd z) = some ((minsS (some r) N rg pl ac B (k + 1) d p).2, m', g', t', w', s', p', h', wd', z') ∧
          goR N B L rg pl (minsS (some r) N rg pl ac B (k + 1) d p).1 lasts keeps stalls buyers m' g' price t' w' s' p' came h' seller praise borne := by
      intro d1 ov' q goods till sold purse had wd z hS hD hW hK hf ht hp hm hO
      obtain ⟨t', w', hc, hD', hW', hS'⟩ := closeMinute_ev hS hD hW hK hf hr
      rw [hc, bs]
      unfold minsS
      rw [hm]
      have hq := tEq_cls (rg := rg) (pl := pl) (d := d1) hN
      exact ih (i + 1) n _ _ _ _ _ _ _ _ _ _ wd z ⟨hS', hD', hW', hK.trans (hq 2 (by omega) (by omega)).symm, fx_cls hf, tg_tEq hq hN ht, pr_tEq2 hq hN hp⟩ (hO.imp id (fun h => ⟨h.1, h.2.mono hq⟩)) (by omega) (by omega)
    have j30 : ∀ (d1 : Nat → Int32) (q : Int32) (goods till sold purse had : Nat → Int32) (wd z : Nat → Int64), stR N B rg pl d1 lasts stalls buyers minute price came seller praise borne → dyR N B d1 goods till sold purse had → weR N d1 wealth → keeps = d1 2 → fxR N B L rg d1 → tgR N d1 → prR N d1 → minS (some r) N rg pl ac B d = (clsD N rg pl d1, q) → (q = nn 0 → ∀ b, b < B → ac b = true → pick (some r) N rg pl d1 b = none) →
        ∃ m' g' t' w' s' p' h' wd' z', mFair_gor_j30 (mFair_gor_l9 lasts keeps stalls buyers price came seller praise borne steps size sumFrom testFrom testTo clauses readsTime (nn M) x3 n) (nn M) x3 p (nn i) lasts keeps stalls buyers minute goods price till wealth sold purse came had seller praise borne steps size sumFrom testFrom testTo clauses readsTime wd z q = some ((minsS (some r) N rg pl ac B (k + 1) d p).2, m', g', t', w', s', p', h', wd', z') ∧
          goR N B L rg pl (minsS (some r) N rg pl ac B (k + 1) d p).1 lasts keeps stalls buyers m' g' price t' w' s' p' came h' seller praise borne := by
      intro d1 q goods till sold purse had wd z hS hD hW hK hf ht hp hm hq
      unfold mFair_gor_j30
      simp only [lt, li0, li1]
      rw [nn_add]
      by_cases e : q = nn 0
      · rw [if_pos e]
        obtain ⟨v, hv, hv2⟩ := staysSor_ev (readsTime := readsTime) hS hD hf
        rw [hv, bs]
        rcases hv2 with hv2 | ⟨hv2, hv3⟩
        · rw [if_pos hv2]
          exact fin d1 (nn 0) q goods till sold purse had wd z hS hD hW hK hf ht hp hm (Or.inl rfl)
        · rw [hv2, ifeq_f (by omega) (by omega) (by omega)]
          refine fin d1 (nn 1) q goods till sold purse had wd z hS hD hW hK hf ht hp hm (Or.inr ⟨rfl, Qt.of hr hN hB (hq e) ?_⟩)
          rcases hv3 with h | h
          · exact Or.inl ⟨len, hR.1, hR.2.2.2.2.2 h⟩
          · exact Or.inr h
      · rw [if_neg e]
        exact fin d1 (nn 0) q goods till sold purse had wd z hS hD hW hK hf ht hp hm (Or.inl rfl)
    unfold mFair_gor_l9
    rw [ifle_f (by omega) (by omega), li0]
    rcases hO with hO | ⟨hO, hQ⟩
    · rw [if_pos hO]
      obtain ⟨g', t', s', p', h', w', z', hz, hD'⟩ := trader_l5_ev hR hac hr B 0 FU d (nn 0) goods till sold purse had wd z hS hD hf ht (by omega) (by unfold FU; omega)
      obtain ⟨a1, a2, a3, a4, a5, a6⟩ := stR_tr (ru := (some r)) (ac := ac) (d := d) hr hN hB B 0 d (nn 0) (by omega) hS hW hK hf ht hp
      unfold mFair_trader
      rw [li0, hz, bs]
      refine j30 _ _ _ _ _ _ _ _ _ a1 hD' a2 a3 a4 a5 a6 rfl (fun e b hb ha => ?_)
      have h6 := trS_zero (ru := (some r)) (ac := ac) hr hN B 0 d hp (by omega) e
      rw [h6.1]
      exact h6.2 b (by omega) (by omega) ha
    · rw [hO, ifeq_f (by omega) (by omega) (by omega)]
      exact j30 d (nn 0) goods till sold purse had wd z hS hD hW hK hf ht hp hQ.min (fun _ b hb ha => hQ d tEq.refl b hb ha)
theorem gor_ev {x3 : Int32} {d : Nat → Int32} {steps sumFrom testFrom testTo : Nat → Int32} {size clauses readsTime : Int32} {r : RU} {len : Nat} (hR : rcR steps size sumFrom testFrom testTo clauses readsTime r len) (hac : acR x3 (nn 0) ac) (hr : rOK N rg pl) {M : Nat} (hM : M < 4000)
    (hG : goR N B L rg pl d lasts keeps stalls buyers minute goods price till wealth sold purse came had seller praise borne) (wd z : Nat → Int64) :
    ∃ m' g' t' w' s' p' h' wd' z', mFair_gor (nn M) x3 lasts keeps stalls buyers minute goods price till wealth sold purse came had seller praise borne steps size sumFrom testFrom testTo clauses readsTime wd z = some ((minsS (some r) N rg pl ac B M d (nn 0)).2, m', g', t', w', s', p', h', wd', z') ∧
        goR N B L rg pl (minsS (some r) N rg pl ac B M d (nn 0)).1 lasts keeps stalls buyers m' g' price t' w' s' p' came h' seller praise borne :=
  gor_l9_ev hR hac hr M hM M 0 FU d (nn 0) (nn 0) minute goods till wealth sold purse had wd z hG (Or.inl rfl) (by omega) (by unfold FU; omega)
theorem gon_l9_ev {x3 : Int32}  (hac : acR x3 (nn 0) ac) (hr : rOK N rg pl) (M : Nat) (hM : M < 4000) :
    ∀ (k i n : Nat) (d : Nat → Int32) (p ov minute : Int32) (goods till wealth sold purse had : Nat → Int32) , goR N B L rg pl d lasts keeps stalls buyers minute goods price till wealth sold purse came had seller praise borne → (ov = nn 0 ∨ (ov = nn 1 ∧ Qt none N rg pl ac B d)) → i + k = M → k < n →
      ∃ m' g' t' w' s' p' h' , mFair_gon_l9 lasts keeps stalls buyers price came seller praise  (nn M) x3 n p ov (nn i) minute goods till wealth sold purse had  = some ((minsS none N rg pl ac B k d p).2, m', g', t', w', s', p', h') ∧
        goR N B L rg pl (minsS none N rg pl ac B k d p).1 lasts keeps stalls buyers m' g' price t' w' s' p' came h' seller praise borne := by
  intro k
  induction k with
  | zero =>
    intro i n d p ov minute goods till wealth sold purse had  hG hO h1 h2
    match n, h2 with
    | n + 1, _ =>
    refine ⟨minute, goods, till, wealth, sold, purse, had,  ?_, hG⟩
    unfold mFair_gon_l9
    rw [ifle_t (by omega) (by omega)]
    rfl
  | succ k ih =>
    intro i n d p ov minute goods till wealth sold purse had  hG hO h1 h2
    match n, h2 with
    | n + 1, h2 =>
    have hG' := hG
    obtain ⟨hS, hD, hW, hK, hf, ht, hp⟩ := hG'
    have hf' := hf
    obtain ⟨hN, hB, hL, hL2, h3, h4, h5, h8⟩ := hf'
    have fin : ∀ (d1 : Nat → Int32) (ov' q : Int32) (goods till sold purse had : Nat → Int32) , stR N B rg pl d1 lasts stalls buyers minute price came seller praise borne → dyR N B d1 goods till sold purse had → weR N d1 wealth → keeps = d1 2 → fxR N B L rg d1 → tgR N d1 → prR N d1 → minS none N rg pl ac B d = (clsD N rg pl d1, q) → (ov' = nn 0 ∨ (ov' = nn 1 ∧ Qt none N rg pl ac B d1)) →
        ∃ m' g' t' w' s' p' h' , (mFair_closeMinute lasts keeps stalls minute till wealth seller).bind (fun q6 => mFair_gon_l9 lasts keeps stalls buyers price came seller praise  (nn M) x3 n (p + q) ov' (nn (i + 1)) q6.1 goods q6.2.1 q6.2.2 sold purse had ) = some ((minsS none N rg pl ac B (k + 1) d p).2, m', g', t', w', s', p', h') ∧
          goR N B L rg pl (minsS none N rg pl ac B (k + 1) d p).1 lasts keeps stalls buyers m' g' price t' w' s' p' came h' seller praise borne := by
      intro d1 ov' q goods till sold purse had  hS hD hW hK hf ht hp hm hO
      obtain ⟨t', w', hc, hD', hW', hS'⟩ := closeMinute_ev hS hD hW hK hf hr
      rw [hc, bs]
      unfold minsS
      rw [hm]
      have hq := tEq_cls (rg := rg) (pl := pl) (d := d1) hN
      exact ih (i + 1) n _ _ _ _ _ _ _ _ _ _  ⟨hS', hD', hW', hK.trans (hq 2 (by omega) (by omega)).symm, fx_cls hf, tg_tEq hq hN ht, pr_tEq2 hq hN hp⟩ (hO.imp id (fun h => ⟨h.1, h.2.mono hq⟩)) (by omega) (by omega)
    have j30 : ∀ (d1 : Nat → Int32) (q : Int32) (goods till sold purse had : Nat → Int32) , stR N B rg pl d1 lasts stalls buyers minute price came seller praise borne → dyR N B d1 goods till sold purse had → weR N d1 wealth → keeps = d1 2 → fxR N B L rg d1 → tgR N d1 → prR N d1 → minS none N rg pl ac B d = (clsD N rg pl d1, q) → (q = nn 0 → ∀ b, b < B → ac b = true → pick none N rg pl d1 b = none) →
        ∃ m' g' t' w' s' p' h' , mFair_gon_j30 (mFair_gon_l9 lasts keeps stalls buyers price came seller praise  (nn M) x3 n) (nn M) x3 p (nn i) lasts keeps stalls buyers minute goods price till wealth sold purse came had seller praise  q = some ((minsS none N rg pl ac B (k + 1) d p).2, m', g', t', w', s', p', h') ∧
          goR N B L rg pl (minsS none N rg pl ac B (k + 1) d p).1 lasts keeps stalls buyers m' g' price t' w' s' p' came h' seller praise borne := by
      intro d1 q goods till sold purse had  hS hD hW hK hf ht hp hm hq
      unfold mFair_gon_j30
      simp only [lt, li0, li1]
      rw [nn_add]
      by_cases e : q = nn 0
      · rw [if_pos e]
        unfold mFair_staysSon
        rw [bs, li1, ifeq_f (by omega) (by omega) (by omega)]
        exact fin d1 (nn 1) q goods till sold purse had hS hD hW hK hf ht hp hm (Or.inr ⟨rfl, Qt.of hr hN hB (hq e) (Or.inl trivial)⟩)
      · rw [if_neg e]
        exact fin d1 (nn 0) q goods till sold purse had  hS hD hW hK hf ht hp hm (Or.inl rfl)
    unfold mFair_gon_l9
    rw [ifle_f (by omega) (by omega), li0]
    rcases hO with hO | ⟨hO, hQ⟩
    · rw [if_pos hO]
      obtain ⟨g', t', s', p', h',  hz, hD'⟩ := traden_l5_ev  hac hr B 0 FU d (nn 0) goods till sold purse had  hS hD hf ht (by omega) (by unfold FU; omega)
      obtain ⟨a1, a2, a3, a4, a5, a6⟩ := stR_tr (ru := none) (ac := ac) (d := d) hr hN hB B 0 d (nn 0) (by omega) hS hW hK hf ht hp
      unfold mFair_traden
      rw [li0, hz, bs]
      refine j30 _ _ _ _ _ _ _  a1 hD' a2 a3 a4 a5 a6 rfl (fun e b hb ha => ?_)
      have h6 := trS_zero (ru := none) (ac := ac) hr hN B 0 d hp (by omega) e
      rw [h6.1]
      exact h6.2 b (by omega) (by omega) ha
    · rw [hO, ifeq_f (by omega) (by omega) (by omega)]
      exact j30 d (nn 0) goods till sold purse had  hS hD hW hK hf ht hp hQ.min (fun _ b hb ha => hQ d tEq.refl b hb ha)
theorem gon_ev {x3 : Int32} {d : Nat → Int32}  (hac : acR x3 (nn 0) ac) (hr : rOK N rg pl) {M : Nat} (hM : M < 4000)
    (hG : goR N B L rg pl d lasts keeps stalls buyers minute goods price till wealth sold purse came had seller praise borne)  :
    ∃ m' g' t' w' s' p' h' , mFair_gon (nn M) x3 lasts keeps stalls buyers minute goods price till wealth sold purse came had seller praise  = some ((minsS none N rg pl ac B M d (nn 0)).2, m', g', t', w', s', p', h') ∧
        goR N B L rg pl (minsS none N rg pl ac B M d (nn 0)).1 lasts keeps stalls buyers m' g' price t' w' s' p' came h' seller praise borne :=
  gon_l9_ev  hac hr M hM M 0 FU d (nn 0) (nn 0) minute goods till wealth sold purse had  hG (Or.inl rfl) (by omega) (by unfold FU; omega)
end go
