/-! asks: rings, who stays away -/
/-- the places in an order, by search -/
def invF (o : Nat → Nat) (s : Nat) : Nat → Nat
  | 0 => 0
  | k + 1 => if o k = s then k else invF o s k
theorem invF_eq {N : Nat} {o pl : Nat → Nat} (h : rOK N o pl) {s : Nat} (hs : s < N) : ∀ k, k ≤ N → pl s < k → invF o s k = pl s
  | 0, _, h2 => by omega
  | k + 1, h1, h2 => by
    unfold invF
    have hk := h k (by omega)
    by_cases e : o k = s
    · rw [if_pos e, ← e, hk.2.2.1]
    · rw [if_neg e]
      have : pl s ≠ k := fun e2 => e (by rw [← e2, (h s hs).2.2.2])
      exact invF_eq h hs k (by omega) (by omega)
theorem invF_ok {N : Nat} {o pl : Nat → Nat} (h : rOK N o pl) : rOK N o (fun s => invF o s N) := by
  have e := fun s (hs : s < N) => invF_eq h hs N (Nat.le_refl _) (h s hs).2.1
  intro k hk
  obtain ⟨h1, h2, h3, h4⟩ := h k hk
  exact ⟨h1, by show invF o k N < N; rw [e k hk]; exact h2, by show invF o (o k) N = k; rw [e _ h1]; exact h3, by show o (invF o k N) = k; rw [e k hk]; exact h4⟩
section paid
variable {ru : Option RU} {N B L : Nat} {rg pl : Nat → Nat} {ac : Nat → Bool}
theorem mins_paid (hr : rOK N rg pl) (hN : N ≤ 6) (hB : B ≤ 6) : ∀ (k p : Nat) (d : Nat → Int32), prR N d → ∃ m, (minsS ru N rg pl ac B k d (nn p)).2 = nn m ∧ m ≤ p + 240 * k
  | 0, p, _, _ => ⟨p, rfl, by omega⟩
  | k + 1, p, d, h => by
    obtain ⟨m, h1, h2, h3⟩ := trS_ge (ru := ru) (ac := ac) hr hN B 0 0 d h (by omega)
    have hp : prR N (minS ru N rg pl ac B d).1 := by
      have h6 : ∀ (k b : Nat) (d : Nat → Int32) (p : Int32), b + k ≤ 6 → prR N d → prR N (trS ru N rg pl ac k b d p).1 := by
        intro k
        induction k with
        | zero => intro b d p _ h; exact h
        | succ k ih =>
          intro b d p hb h
          unfold trS
          split
          · exact ih (b + 1) d p (by omega) h
          · rename_i s hs
            have hs' : s < N := by
              split at hs
              · exact pick_lt hs
              · cases hs
            exact ih (b + 1) _ _ (by omega) (prR_buy h hr hN hs' (by omega))
      exact pr_tEq2 (tEq_cls hN) hN (h6 B 0 d (nn 0) (by omega) h)
    obtain ⟨m', h4, h5⟩ := mins_paid hr hN hB k (p + m) (minS ru N rg pl ac B d).1 hp
    refine ⟨m', ?_, by omega⟩
    unfold minsS
    rw [show (minS ru N rg pl ac B d).2 = nn m from h1, nn_add]
    exact h4
end paid
/-- the best of the orders from o on -/
def boS (N : Nat) (F : (Nat → Nat) → Int32) : Nat → (Nat → Nat) → Int32 → (Nat → Nat) → Int32 × (Nat → Nat)
  | 0, _, m, b => (m, b)
  | f + 1, o, m, b =>
    match nextO N o with
    | none => if m < F o then (F o, o) else (m, b)
    | some o' => if m < F o then boS N F f o' (F o) o else boS N F f o' m b
/-- what is taken by an order -/
def brF (ru : Option RU) (N B M : Nat) (d : Nat → Int32) (o : Nat → Nat) : Int32 := (minsS ru N o (fun s => invF o s N) acA B M (stdD N o d) (nn 0)).2
theorem std_o {N k : Nat} {o : Nat → Nat} {d : Nat → Int32} (h : k < 35 ∨ 35 + N ≤ k) : stdD N o d k = d k := by unfold stdD; rw [if_neg (by omega)]
theorem std_i {N k : Nat} {o : Nat → Nat} {d : Nat → Int32} (h : k < N) : stdD N o d (35 + k) = nn (o k) := by
  unfold stdD; rw [if_pos (by omega), show 35 + k - 35 = k by omega]
theorem fx_std {N B L : Nat} {rg o : Nat → Nat} {d : Nat → Int32} (hf : fxR N B L rg d) : fxR N B L o (stdD N o d) := by
  obtain ⟨h1, h2, h3, h4, h5, h6, h7, h8⟩ := hf
  exact ⟨h1, h2, h3, h4, by rw [std_o (by omega), h5], by rw [std_o (by omega), h6], by rw [std_o (by omega), h7], fun k hk => std_i hk⟩
theorem oEq_std {N : Nat} {o : Nat → Nat} {d : Nat → Int32} (hN : N ≤ 6) : oEq d (stdD N o d) := fun k hk => std_o (by omega)
theorem pr_std {N : Nat} {o : Nat → Nat} {d : Nat → Int32} (hN : N ≤ 6) (h : prR N d) : prR N (stdD N o d) := fun s hs => by rw [std_o (by omega)]; exact h s hs
theorem brF_val {ru : Option RU} {N B L M f : Nat} {rg o : Nat → Nat} {d : Nat → Int32} (hf : fxR N B L rg d) (hp : prR N d) (ho : oL N f o) (hM : M < 4000) : -nn 1 < brF ru N B M d o := by
  obtain ⟨pl', hpl⟩ := oL_ok ho
  obtain ⟨m, h1, h2⟩ := mins_paid (ru := ru) (ac := acA) (invF_ok hpl) hf.1 hf.2.1 M 0 _ (pr_std (o := o) hf.1 hp)
  unfold brF
  rw [h1, Int32.lt_iff_toInt_lt, nn_toInt (by omega), show (-nn 1).toInt = -1 from by decide]
  omega
section mring
variable {sign clause clauses : Nat → Int32} {force : Int32} {ru : Option RU} {d kp : Nat → Int32} {N B L : Nat} {rg pl : Nat → Nat} {M : Nat}
/-- the best order so far stands in a row -/
def bOK (N : Nat) (m : Int32) (b : Nat → Nat) (w : Nat → Int32) : Prop := m = -nn 1 ∨ ∀ k, k < N → w k = nn (b k)
theorem bestRing_l49_ev (hfr : frR sign clause clauses force ru) (hf : fxR N B L rg d) (hp : prR N d) (hM : M < 4000) (hk : ∀ k, k < 79 → kp k = d (10 + k)) (x2 : Int32) :
    ∀ (f n : Nat) (o : Nat → Nat) (m : Int32) (b : Nat → Nat) (z : Nat → Int64) (tp : Int32) (wd : Nat → Int64) (w wb : Nat → Int32), f + 1 < n → oL N f o → orR N o w → bOK N m b wb →
      ∃ z' tp' wd' w' wb', m_bestRing_l49 sign clause clauses force (-nn 1) kp (nn M) x2 n m (nn 1) z tp wd d (nn 0) w wb = some (if x2 = -nn 1 then (boS N (brF ru N B M d) f o m b).1 else if wi x2 0 ((N : Int) - 1) = true then wb' x2.toNatClampNeg else -nn 2, z', tp', wd', d, nn 0, kp, w', wb') ∧ (∀ k, k < N → wb' k = nn ((boS N (brF ru N B M d) f o m b).2 k)) := by
  have hN := hf.1
  have fin : ∀ (n : Nat) (m : Int32) (z : Nat → Int64) (tp : Int32) (wd : Nat → Int64) (w wb : Nat → Int32), 0 < n → m_bestRing_l49 sign clause clauses force (-nn 1) kp (nn M) x2 n m (nn 0) z tp wd d (nn 0) w wb = some (if x2 = -nn 1 then m else if wi x2 0 ((N : Int) - 1) = true then wb x2.toNatClampNeg else -nn 2, z, tp, wd, d, nn 0, kp, w, wb) := by
    intro n m z tp wd w wb hn
    match n, hn with
    | n + 1, _ =>
    unfold m_bestRing_l49
    rw [li0, ifeq_t rfl, show (-1 : Int32) = -nn 1 from id rfl]
    by_cases e : x2 = -nn 1
    · rw [if_pos e, if_pos e]
    · rw [if_neg e, if_neg e, misStall_ev (by omega) hf.2.2.2.2.1, bs]
      by_cases e2 : wi x2 0 ((N : Int) - 1) = true
      · obtain ⟨k, hk, ek⟩ := wi_st e2
        rw [if_neg (by rw [b01_0]; exact fun h => h e2), if_pos e2, ek, rq_inb (by omega) (by omega)]
      · rw [if_pos (by rw [b01_0]; exact e2), if_neg e2]
        rfl
  intro f
  induction f with
  | zero => intro n o m b z tp wd w wb h1 h2; exact absurd (oL_pos h2) (by omega)
  | succ f ih =>
    intro n o m b z tp wd w wb h1 h2 h3 h4
    match n, h1 with
    | n + 1, h1 =>
    obtain ⟨pl', hpl⟩ := oL_ok h2
    have hv := brF_val (ru := ru) (M := M) hf hp h2 hM
    obtain ⟨z', tp', wd', hz⟩ := takenIn_ev (d := stdD N o d) (d0 := d) hfr acR_all (invF_ok hpl) (fx_std hf) hM (oEq_std hN) hk z tp wd
    obtain ⟨wk, hwk, ewk⟩ := keepsOrder_ev (w := w) wb
    unfold m_bestRing_l49
    rw [li0, ifeq_f (by omega) (by omega) (by omega), stands_ev hN h3 hf.2.2.2.2.1, bs, hz, bs]
    show ∃ z' tp' wd' w' wb', (if brF ru N B M d o ≤ m then _ else _) = _ ∧ _
    have hnx := m_next_ev (d := d) hN h3 hf.2.2.2.2.1
    unfold boS
    by_cases e : m < brF ru N B M d o
    · rw [if_neg (by rw [Int32.le_iff_toInt_le]; rw [Int32.lt_iff_toInt_lt] at e; omega), hwk, bs]
      have hb' : bOK N (brF ru N B M d o) o wk := Or.inr (fun k hk => (ewk k (by omega)).trans (h3 k hk).1)
      rcases hnx with ⟨h5, h6⟩ | ⟨o', w', h5, h6, h7⟩
      · rw [h6, bs, h5]
        refine ⟨z', tp', wd', w, wk, ?_, ?_⟩
        · show m_bestRing_l49 sign clause clauses force (-nn 1) kp (nn M) x2 n (brF ru N B M d o) (nn 0) z' tp' wd' d (nn 0) w wk = _
          rw [fin n _ z' tp' wd' w wk (by omega), if_pos e]
        · rw [if_pos e]; exact fun k hk => (ewk k (by omega)).trans (h3 k hk).1
      · rw [h6, bs, h5]
        simp only [if_pos e]
        exact ih n o' _ o z' tp' wd' w' wk (by omega) (oL_next hN h2 h5) h7 hb'
    · rw [if_pos (by rw [Int32.le_iff_toInt_le]; rw [Int32.lt_iff_toInt_lt] at e; omega)]
      have hb' : ∀ k, k < N → wb k = nn (b k) := by
        rcases h4 with h4 | h4
        · rw [h4] at e; exact absurd hv e
        · exact h4
      rcases hnx with ⟨h5, h6⟩ | ⟨o', w', h5, h6, h7⟩
      · rw [h6, bs, h5]
        refine ⟨z', tp', wd', w, wb, ?_, ?_⟩
        · show m_bestRing_l49 sign clause clauses force (-nn 1) kp (nn M) x2 n m (nn 0) z' tp' wd' d (nn 0) w wb = _
          rw [fin n _ z' tp' wd' w wb (by omega), if_neg e]
        · rw [if_neg e]; exact hb'
      · rw [h6, bs, h5]
        simp only [if_neg e]
        exact ih n o' m b z' tp' wd' w' wb (by omega) (oL_next hN h2 h5) h7 (Or.inr hb')
end mring
section cring
variable {d : Nat → Int32} {N B L : Nat} {rg pl : Nat → Nat} {M : Nat} {g4 : tyFair}
theorem stand_ev {o pl' : Nat → Nat} {w : Nat → Int32} {g : tyFair} (hF : fR N B L rg pl d g) (ho : orR N o w) (hr' : rOK N o pl') :
    ∃ ri se pr bo, mFair_stand_who g.2.2.1 g.2.2.2.2.2.2.2.1 g.2.2.2.2.2.2.2.2.2.2.2.1 g.2.2.2.2.2.2.2.2.2.2.2.2.1 g.2.2.2.2.2.2.2.2.2.2.2.2.2.2.2.2.1 g.2.2.2.2.2.2.2.2.2.2.2.2.2.2.2.2.2.1 g.2.2.2.2.2.2.2.2.2.2.2.2.2.2.2.2.2.2 w = some (ri, se, pr, bo) ∧
      fR N B L o pl' (stdD N o d) (g.1, g.2.1, g.2.2.1, g.2.2.2.1, g.2.2.2.2.1, g.2.2.2.2.2.1, g.2.2.2.2.2.2.1, g.2.2.2.2.2.2.2.1, g.2.2.2.2.2.2.2.2.1, g.2.2.2.2.2.2.2.2.2.1, g.2.2.2.2.2.2.2.2.2.2.1, ri, g.2.2.2.2.2.2.2.2.2.2.2.2.1, g.2.2.2.2.2.2.2.2.2.2.2.2.2.1, g.2.2.2.2.2.2.2.2.2.2.2.2.2.2.1, g.2.2.2.2.2.2.2.2.2.2.2.2.2.2.2.1, se, pr, bo) := by
  have hN := hF.1.2.2.2.2.1.1
  have hst : g.2.2.1 = nn N := by rw [hF.1.1.2.1, hF.1.2.2.2.2.1.2.2.2.2.1]
  have hri : ∀ k, k < N → va_cpy w g.2.2.2.2.2.2.2.2.2.2.2.1 0 0 6 k = nn (o k) := fun k hk => by rw [cpy_lt (by omega)]; exact (ho k hk).1
  have hgr : ∀ s, s < N → g.2.2.2.2.2.2.2.2.2.2.2.2.1 s = stdD N o d (41 + s) := fun s hs => by rw [std_o (by omega)]; exact hF.2.2.2 s hs
  obtain ⟨se, pr, bo, h1, h2, h3, h4⟩ := arrange_ev (d := stdD N o d) (tongue := g.2.2.2.2.2.2.2.1) hN hr' hst (fun s hs => by rw [std_o (by omega)]; exact hF.2.1 s hs) hri hgr g.2.2.2.2.2.2.2.2.2.2.2.2.2.2.2.2.1 g.2.2.2.2.2.2.2.2.2.2.2.2.2.2.2.2.2.1 g.2.2.2.2.2.2.2.2.2.2.2.2.2.2.2.2.2.2
  refine ⟨va_cpy w g.2.2.2.2.2.2.2.2.2.2.2.1 0 0 6, se, pr, bo, ?_, ?_⟩
  · unfold mFair_stand_who
    rw [show mFair_copyRow_who_ring w g.2.2.2.2.2.2.2.2.2.2.2.1 = some (va_cpy w g.2.2.2.2.2.2.2.2.2.2.2.1 0 0 6) from rfl, bs, h1]
    rfl
  · exact fR_arr hF (fun k hk => std_o (by omega)) (fun k hk => std_i hk) (fun k hk => by rw [hri k hk, std_i hk]) hgr h2 h3 h4
theorem c_brr {r : RU} {len : Nat} {q0 : tyRule} (hR : rcR q0.1 q0.2.1 q0.2.2.1 q0.2.2.2.1 q0.2.2.2.2.1 q0.2.2.2.2.2.1 q0.2.2.2.2.2.2.2.1 r len) (hF : fR N B L rg pl d g4) (hM : M < 4000) :
    ∀ (f i n : Nat) (o : Nat → Nat) (m : Int32) (b : Nat → Nat) (g1 : tyFair) (g2 g3 : tyOrder) (q : tyRule), i + f = 120 → f + 1 < n → oL N f o → orR N o g2.1 → g2.2 = nn N → (m = -nn 1 ∨ (orR N b g3.1 ∧ g3.2 = nn N)) → rqE q0 q →
      ∃ g1' g2' g3' q', mTrials_findBestRingrr_l20 g4 (nn M) n m (nn 1) (nn i) g1 g2 g3 q = some ((boS N (brF (some r) N B M d) f o m b).1, g1', g2', g3', q') ∧ orR N (boS N (brF (some r) N B M d) f o m b).2 g3'.1 ∧ g3'.2 = nn N ∧ rqE q0 q' := by
  have hN := hF.1.2.2.2.2.1.1
  intro f
  induction f with
  | zero => intro i n o m b g1 g2 g3 q h0 h1 h2; exact absurd (oL_pos h2) (by omega)
  | succ f ih =>
    intro i n o m b g1 g2 g3 q h0 h1 h2 h3 hsz h4 hq
    match n, h1 with
    | n + 1, h1 =>
    obtain ⟨pl', hpl⟩ := oL_ok h2
    have hi := invF_ok hpl
    have hv := brF_val (ru := (some r)) (M := M) hF.1.2.2.2.2.1 hF.1.2.2.2.2.2.2 h2 hM
    obtain ⟨gf, hgf, egf⟩ := from_ev g1 g4
    have hF3 := fR_gEq hF egf
    obtain ⟨ri, se, pr, bo, hst, hF4⟩ := stand_ev hF3 h3 hi
    obtain ⟨mi, go, ti, we, so, pu, ha, wd', z', hgo, hF5⟩ := gor_g (rcR_E hR hq) acR_all hi hM hF4 q.2.2.2.2.2.2.2.2.1 q.2.2.2.2.2.2.2.2.2
    dsimp only at hgo
    obtain ⟨wc, hwc, ewc⟩ := copyOrder_ev g3.1 g3.2 g2.2 hN h3
    have hnx := c_next_ev hN h3
    have fin : ∀ (n i : Nat) (m : Int32) (g1 : tyFair) (g2 g3 : tyOrder) (q : tyRule), 0 < n → mTrials_findBestRingrr_l20 g4 (nn M) n m (nn 0) (nn i) g1 g2 g3 q = some (m, g1, g2, g3, q) := by
      intro n i m g1 g2 g3 q hn
      match n, hn with
      | n + 1, _ =>
      unfold mTrials_findBestRingrr_l20
      rw [li0]
      split
      · rfl
      · rw [ifeq_t rfl]
    unfold mTrials_findBestRingrr_l20
    rw [show (120 : Int32) = nn 120 from id rfl, ifle_f (by omega) (by omega), li0, ifeq_f (by omega) (by omega) (by omega), hgf, bs, hst, bs, show (-1 : Int32) = -nn 1 from id rfl]
    dsimp only
    rw [hgo, bs, li1, nn_add, hsz] 
    show ∃ g1' g2' g3' q', (if brF (some r) N B M d o ≤ m then _ else _) = _ ∧ _
    unfold boS
    by_cases e : m < brF (some r) N B M d o
    · rw [if_neg (by rw [Int32.le_iff_toInt_le]; rw [Int32.lt_iff_toInt_lt] at e; omega), ← hsz, hwc, bs, hsz]
      rcases hnx with ⟨h5, h6⟩ | ⟨o', w', h5, h6, h7⟩
      · rw [h6, bs, h5]
        simp only [if_pos e]
        refine ⟨_, _, _, _, fin n _ _ _ _ _ _ (by omega), ewc, rfl, hq.up⟩
      · rw [h6, bs, h5]
        simp only [if_pos e]
        exact ih (i + 1) n o' _ o _ (w', nn N) (wc, nn N) (qUp q wd' z') (by omega) (by omega) (oL_next hN h2 h5) h7 rfl (Or.inr ⟨ewc, rfl⟩) hq.up
    · rw [if_pos (by rw [Int32.le_iff_toInt_le]; rw [Int32.lt_iff_toInt_lt] at e; omega)]
      have hb' : orR N b g3.1 ∧ g3.2 = nn N := by
        rcases h4 with h4 | h4
        · rw [h4] at e; exact absurd hv e
        · exact h4
      rcases hnx with ⟨h5, h6⟩ | ⟨o', w', h5, h6, h7⟩
      · rw [h6, bs, h5]
        simp only [if_neg e]
        refine ⟨_, _, _, _, fin n _ _ _ _ _ _ (by omega), hb'.1, hb'.2, hq.up⟩
      · rw [h6, bs, h5]
        simp only [if_neg e]
        exact ih (i + 1) n o' m b _ (w', nn N) g3 (qUp q wd' z') (by omega) (by omega) (oL_next hN h2 h5) h7 rfl (Or.inr hb') hq.up
theorem c_brn  (hF : fR N B L rg pl d g4) (hM : M < 4000) :
    ∀ (f i n : Nat) (o : Nat → Nat) (m : Int32) (b : Nat → Nat) (g1 : tyFair) (g2 g3 : tyOrder) , i + f = 120 → f + 1 < n → oL N f o → orR N o g2.1 → g2.2 = nn N → (m = -nn 1 ∨ (orR N b g3.1 ∧ g3.2 = nn N)) → 
      ∃ g1' g2' g3' , mTrials_findBestRingrn_l20 g4 (nn M) n m (nn 1) (nn i) g1 g2 g3  = some ((boS N (brF none N B M d) f o m b).1, g1', g2', g3') ∧ orR N (boS N (brF none N B M d) f o m b).2 g3'.1 ∧ g3'.2 = nn N  := by
  have hN := hF.1.2.2.2.2.1.1
  intro f
  induction f with
  | zero => intro i n o m b g1 g2 g3  h0 h1 h2; exact absurd (oL_pos h2) (by omega)
  | succ f ih =>
    intro i n o m b g1 g2 g3  h0 h1 h2 h3 hsz h4 
    match n, h1 with
    | n + 1, h1 =>
    obtain ⟨pl', hpl⟩ := oL_ok h2
    have hi := invF_ok hpl
    have hv := brF_val (ru := none) (M := M) hF.1.2.2.2.2.1 hF.1.2.2.2.2.2.2 h2 hM
    obtain ⟨gf, hgf, egf⟩ := from_ev g1 g4
    have hF3 := fR_gEq hF egf
    obtain ⟨ri, se, pr, bo, hst, hF4⟩ := stand_ev hF3 h3 hi
    obtain ⟨mi, go, ti, we, so, pu, ha,  hgo, hF5⟩ := gon_g  acR_all hi hM hF4 
    dsimp only at hgo
    obtain ⟨wc, hwc, ewc⟩ := copyOrder_ev g3.1 g3.2 g2.2 hN h3
    have hnx := c_next_ev hN h3
    have fin : ∀ (n i : Nat) (m : Int32) (g1 : tyFair) (g2 g3 : tyOrder) , 0 < n → mTrials_findBestRingrn_l20 g4 (nn M) n m (nn 0) (nn i) g1 g2 g3  = some (m, g1, g2, g3) := by
      intro n i m g1 g2 g3  hn
      match n, hn with
      | n + 1, _ =>
      unfold mTrials_findBestRingrn_l20
      rw [li0]
      split
      · rfl
      · rw [ifeq_t rfl]
    unfold mTrials_findBestRingrn_l20
    rw [show (120 : Int32) = nn 120 from id rfl, ifle_f (by omega) (by omega), li0, ifeq_f (by omega) (by omega) (by omega), hgf, bs, hst, bs, show (-1 : Int32) = -nn 1 from id rfl]
    dsimp only
    rw [hgo, bs, li1, nn_add, hsz] 
    show ∃ g1' g2' g3' , (if brF none N B M d o ≤ m then _ else _) = _ ∧ _
    unfold boS
    by_cases e : m < brF none N B M d o
    · rw [if_neg (by rw [Int32.le_iff_toInt_le]; rw [Int32.lt_iff_toInt_lt] at e; omega), ← hsz, hwc, bs, hsz]
      rcases hnx with ⟨h5, h6⟩ | ⟨o', w', h5, h6, h7⟩
      · rw [h6, bs, h5]
        simp only [if_pos e]
        refine ⟨_, _, _,  fin n _ _ _ _ _  (by omega), ewc, rfl⟩
      · rw [h6, bs, h5]
        simp only [if_pos e]
        exact ih (i + 1) n o' _ o _ (w', nn N) (wc, nn N)  (by omega) (by omega) (oL_next hN h2 h5) h7 rfl (Or.inr ⟨ewc, rfl⟩) 
    · rw [if_pos (by rw [Int32.le_iff_toInt_le]; rw [Int32.lt_iff_toInt_lt] at e; omega)]
      have hb' : orR N b g3.1 ∧ g3.2 = nn N := by
        rcases h4 with h4 | h4
        · rw [h4] at e; exact absurd hv e
        · exact h4
      rcases hnx with ⟨h5, h6⟩ | ⟨o', w', h5, h6, h7⟩
      · rw [h6, bs, h5]
        simp only [if_neg e]
        refine ⟨_, _, _,  fin n _ _ _ _ _  (by omega), hb'.1, hb'.2⟩
      · rw [h6, bs, h5]
        simp only [if_neg e]
        exact ih (i + 1) n o' m b _ (w', nn N) g3  (by omega) (by omega) (oL_next hN h2 h5) h7 rfl (Or.inr hb') 
end cring
