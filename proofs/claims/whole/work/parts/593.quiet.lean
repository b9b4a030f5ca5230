/-! asks: the quiet ring, who stays away; sums -/
def sI (f : Nat → Int32) : Nat → Nat → Int32 → Int32
  | 0, _, x => x
  | k + 1, i, x => sI f k (i + 1) (x + f i)
theorem sI_congr {f g : Nat → Int32} : ∀ (k i : Nat) (x : Int32), (∀ j, i ≤ j → j < i + k → f j = g j) → sI f k i x = sI g k i x
  | 0, _, _, _ => rfl
  | k + 1, i, x, h => by
    unfold sI
    rw [h i (by omega) (by omega)]
    exact sI_congr k (i + 1) _ (fun j h1 h2 => h j (by omega) (by omega))
theorem sm_shift {f : Nat → Nat} : ∀ (k i : Nat), sm (k + 1) (fun j => f (i + j)) = f i + sm k (fun j => f (i + 1 + j))
  | 0, i => by show 0 + f (i + 0) = f i + 0; rw [Nat.add_zero, Nat.zero_add, Nat.add_zero]
  | k + 1, i => by
    show sm (k + 1) (fun j => f (i + j)) + f (i + (k + 1)) = f i + (sm k (fun j => f (i + 1 + j)) + f (i + 1 + k))
    rw [sm_shift k i, show i + (k + 1) = i + 1 + k by omega, Nat.add_assoc]
theorem sI_nn {f : Nat → Nat} : ∀ (k i x : Nat), sI (fun j => nn (f j)) k i (nn x) = nn (x + sm k (fun j => f (i + j)))
  | 0, _, _ => rfl
  | k + 1, i, x => by
    unfold sI
    rw [nn_add, sI_nn k (i + 1) (x + f i), sm_shift k i, Nat.add_assoc]
section sums
variable {N : Nat} {d : Nat → Int32}
theorem sum_g {stalls : Int32} {row : Nat → Int32} (hN : N ≤ 6) (hst : stalls = nn N) : mFair_sumOf_goods stalls row = some (sI row N 0 (nn 0)) := by
  subst hst
  have loop : ∀ (k i n : Nat) (x : Int32), i + k = N → k < n → mFair_sumOf_goods_l4 (nn N) row n x (nn i) = some (sI row k i x) := by
    intro k
    induction k with
    | zero =>
      intro i n x h1 h2
      match n, h2 with
      | n + 1, _ =>
      unfold mFair_sumOf_goods_l4
      rw [ifle_t (by omega) (by omega)]
      rfl
    | succ k ih =>
      intro i n x h1 h2
      match n, h2 with
      | n + 1, h2 =>
      unfold mFair_sumOf_goods_l4
      simp only [lt]
      rw [ifle_f (by omega) (by omega), rq_inb (by omega) (by omega), nn_tn (by omega), li1, nn_add]
      exact ih (i + 1) n _ (by omega) (by omega)
  exact loop N 0 FU (nn 0) (by omega) (by unfold FU; omega)
theorem sum_t {stalls : Int32} {row : Nat → Int32} (hN : N ≤ 6) (hst : stalls = nn N) : mFair_sumOf_till stalls row = some (sI row N 0 (nn 0)) := by
  subst hst
  have loop : ∀ (k i n : Nat) (x : Int32), i + k = N → k < n → mFair_sumOf_till_l4 (nn N) row n x (nn i) = some (sI row k i x) := by
    intro k
    induction k with
    | zero =>
      intro i n x h1 h2
      match n, h2 with
      | n + 1, _ =>
      unfold mFair_sumOf_till_l4
      rw [ifle_t (by omega) (by omega)]
      rfl
    | succ k ih =>
      intro i n x h1 h2
      match n, h2 with
      | n + 1, h2 =>
      unfold mFair_sumOf_till_l4
      simp only [lt]
      rw [ifle_f (by omega) (by omega), rq_inb (by omega) (by omega), nn_tn (by omega), li1, nn_add]
      exact ih (i + 1) n _ (by omega) (by omega)
  exact loop N 0 FU (nn 0) (by omega) (by unfold FU; omega)
theorem sum_w {stalls : Int32} {row : Nat → Int32} (hN : N ≤ 6) (hst : stalls = nn N) : mFair_sumOf_wealth stalls row = some (sI row N 0 (nn 0)) := by
  subst hst
  have loop : ∀ (k i n : Nat) (x : Int32), i + k = N → k < n → mFair_sumOf_wealth_l4 (nn N) row n x (nn i) = some (sI row k i x) := by
    intro k
    induction k with
    | zero =>
      intro i n x h1 h2
      match n, h2 with
      | n + 1, _ =>
      unfold mFair_sumOf_wealth_l4
      rw [ifle_t (by omega) (by omega)]
      rfl
    | succ k ih =>
      intro i n x h1 h2
      match n, h2 with
      | n + 1, h2 =>
      unfold mFair_sumOf_wealth_l4
      simp only [lt]
      rw [ifle_f (by omega) (by omega), rq_inb (by omega) (by omega), nn_tn (by omega), li1, nn_add]
      exact ih (i + 1) n _ (by omega) (by omega)
  exact loop N 0 FU (nn 0) (by omega) (by unfold FU; omega)
theorem sum_b {stalls : Int32} {row : Nat → Int32} (hN : N ≤ 6) (hst : stalls = nn N) : mFair_sumOf_borne stalls row = some (sI row N 0 (nn 0)) := by
  subst hst
  have loop : ∀ (k i n : Nat) (x : Int32), i + k = N → k < n → mFair_sumOf_borne_l4 (nn N) row n x (nn i) = some (sI row k i x) := by
    intro k
    induction k with
    | zero =>
      intro i n x h1 h2
      match n, h2 with
      | n + 1, _ =>
      unfold mFair_sumOf_borne_l4
      rw [ifle_t (by omega) (by omega)]
      rfl
    | succ k ih =>
      intro i n x h1 h2
      match n, h2 with
      | n + 1, h2 =>
      unfold mFair_sumOf_borne_l4
      simp only [lt]
      rw [ifle_f (by omega) (by omega), rq_inb (by omega) (by omega), nn_tn (by omega), li1, nn_add]
      exact ih (i + 1) n _ (by omega) (by omega)
  exact loop N 0 FU (nn 0) (by omega) (by unfold FU; omega)
theorem sumAll_ev {w : Nat} (hN : N ≤ 6) (hw : w < 4) (h3 : d 3 = nn N) : m_sumOfAll (nn w) d = some (sI (fun s => d (11 + 4 * s + w)) N 0 (nn 0)) := by
  have loop : ∀ (k i n : Nat) (x : Int32), i + k = N → k < n → m_sumOfAll_l4 d (nn w) n x (nn i) = some (sI (fun s => d (11 + 4 * s + w)) k i x) := by
    intro k
    induction k with
    | zero =>
      intro i n x h1 h2
      match n, h2 with
      | n + 1, _ =>
      unfold m_sumOfAll_l4
      rw [li3, rq_inb (by omega) (by omega), nn_tn (by omega), h3, ifle_t (by omega) (by omega)]
      rfl
    | succ k ih =>
      intro i n x h1 h2
      match n, h2 with
      | n + 1, h2 =>
      unfold m_sumOfAll_l4
      simp only [lt]
      rw [li3, rq_inb (by omega) (by omega), nn_tn (by omega), h3, ifle_f (by omega) (by omega), li11, li4, li1, nn_mul, nn_add, nn_add, nn_add, rq_inb (by omega) (by omega), nn_tn (by omega)]
      exact ih (i + 1) n _ (by omega) (by omega)
  exact loop N 0 FU (nn 0) (by omega) (by unfold FU; omega)
end sums
/-- how many sell goods of one against whom they bear a grudge -/
def quN (N : Nat) (d : Nat → Int32) (o : Nat → Nat) : Nat := sm N (fun k => if gB (d (41 + o k)) (o (nx N k)) = true then 1 else 0)
theorem quN_le {N : Nat} {d : Nat → Int32} {o : Nat → Nat} : quN N d o ≤ N := by
  unfold quN
  have h1 := sm_mono (n := N) (f := fun k => if gB (d (41 + o k)) (o (nx N k)) = true then 1 else 0) (g := fun _ => 1) (fun s _ => by show (if _ then 1 else 0) ≤ 1; split <;> omega)
  have h2 : ∀ n, sm n (fun _ => 1) = n := by
    intro n; induction n with
    | zero => rfl
    | succ n ih => show sm n (fun _ => 1) + 1 = n + 1; rw [ih]
  rw [h2] at h1
  exact h1
def qoS (N : Nat) (d : Nat → Int32) : Nat → (Nat → Nat) → Nat → (Nat → Nat) → Nat × (Nat → Nat)
  | 0, _, m, b => (m, b)
  | f + 1, o, m, b =>
    match nextO N o with
    | none => if quN N d o < m then (quN N d o, o) else (m, b)
    | some o' => if quN N d o < m then qoS N d f o' (quN N d o) o else qoS N d f o' m b
section mquiet
variable {d : Nat → Int32} {N B L : Nat} {rg pl : Nat → Nat}
theorem grudges_ev {o : Nat → Nat} {w : Nat → Int32} (hN : N ≤ 6) (ho : orR N o w) (hlt : ∀ k, k < N → o k < N) (h3 : d 3 = nn N) : m_grudgesInOrder d w = some (nn (quN N d o)) := by
  have loop : ∀ (k i n x : Nat), i + k = N → k < n → x ≤ i → m_grudgesInOrder_l4 d w n (nn x) (nn i) = some (nn (x + sm k (fun j => if gB (d (41 + o (i + j))) (o (nx N (i + j))) = true then 1 else 0))) := by
    intro k
    induction k with
    | zero =>
      intro i n x h1 h2 hx
      match n, h2 with
      | n + 1, _ =>
      unfold m_grudgesInOrder_l4
      rw [li3, rq_inb (by omega) (by omega), nn_tn (by omega), h3, ifle_t (by omega) (by omega)]
      rfl
    | succ k ih =>
      intro i n x h1 h2 hx
      match n, h2 with
      | n + 1, h2 =>
      have hi : i < N := by omega
      have hnx := nx_lt hi
      have hN0 : ¬ nn N = nn 0 := by rw [nn_inj (by omega) (by omega)]; omega
      have e1 : nn (i + 1) - nn (i + 1) / nn N * nn N = nn (nx N i) := by
        rw [nn_mod (by omega) (by omega) (by omega)]; unfold nx; rw [Nat.add_mod_right]
      have ha := hlt i hi
      unfold m_grudgesInOrder_l4
      simp only [lt, li0, li1, li3]
      rw [rq_inb (by omega) (by omega), nn_tn (by omega), h3, ifle_f (by omega) (by omega), rq_inb (by omega) (by omega), rq_inb (by omega) (by omega), rq_dec hN0, nn_add, e1, rq_inb (by omega) (by omega), nn_tn (by omega), nn_tn (by omega), (ho i hi).1, (ho _ hnx).1, bears_ev (by omega), bs]
      rw [sm_shift (f := fun j => if gB (d (41 + o j)) (o (nx N j)) = true then 1 else 0) k i]
      by_cases e : gB (d (41 + o i)) (o (nx N i)) = true
      · rw [if_neg (by rw [b01_0]; exact fun h => h e), nn_add, ih (i + 1) n (x + 1) (by omega) (by omega) (by omega), if_pos e, Nat.add_assoc]
      · rw [if_pos (by rw [b01_0]; exact e), nn_add, ih (i + 1) n (x + 0) (by omega) (by omega) (by omega), if_neg e, Nat.add_assoc]
  have h := loop N 0 FU 0 (by omega) (by unfold FU; omega) (by omega)
  unfold m_grudgesInOrder
  rw [li0, h]
  unfold quN
  simp only [Nat.zero_add]
theorem oL_lt {f : Nat} {o : Nat → Nat} (h : oL N f o) : ∀ k, k < N → o k < N := by
  obtain ⟨pl', hpl⟩ := oL_ok h
  exact fun k hk => (hpl k hk).1
theorem quiet_l32_ev (hN : N ≤ 6) (h3 : d 3 = nn N) (x1 : Int32) :
    ∀ (f n : Nat) (o : Nat → Nat) (x2 : Int32) (m : Nat) (b : Nat → Nat) (w wb : Nat → Int32), f + 1 < n → oL N f o → orR N o w → ((x2 = -nn 1 ∧ m = 7) ∨ (x2 = nn m ∧ m ≤ 6 ∧ ∀ k, k < N → wb k = nn (b k))) →
      ∃ w' wb', m_quietRing_l32 d x1 n x2 (nn 1) w wb = some (if x1 = -nn 1 then nn (qoS N d f o m b).1 else if wi x1 0 ((N : Int) - 1) = true then wb' x1.toNatClampNeg else -nn 2, w', wb') ∧ (∀ k, k < N → wb' k = nn ((qoS N d f o m b).2 k)) := by
  have fin : ∀ (n : Nat) (m : Int32) (w wb : Nat → Int32), 0 < n → m_quietRing_l32 d x1 n m (nn 0) w wb = some (if x1 = -nn 1 then m else if wi x1 0 ((N : Int) - 1) = true then wb x1.toNatClampNeg else -nn 2, w, wb) := by
    intro n m w wb hn
    match n, hn with
    | n + 1, _ =>
    unfold m_quietRing_l32
    rw [li0, ifeq_t rfl, show (-1 : Int32) = -nn 1 from id rfl]
    by_cases e : x1 = -nn 1
    · rw [if_pos e, if_pos e]
    · rw [if_neg e, if_neg e, misStall_ev (by omega) h3, bs]
      by_cases e2 : wi x1 0 ((N : Int) - 1) = true
      · obtain ⟨k, hk, ek⟩ := wi_st e2
        rw [if_neg (by rw [b01_0]; exact fun h => h e2), if_pos e2, ek, rq_inb (by omega) (by omega)]
      · rw [if_pos (by rw [b01_0]; exact e2), if_neg e2]
        rfl
  intro f
  induction f with
  | zero => intro n o x2 m b w wb h1 h2; exact absurd (oL_pos h2) (by omega)
  | succ f ih =>
    intro n o x2 m b w wb h1 h2 h4 h5
    match n, h1 with
    | n + 1, h1 =>
    have hq := quN_le (N := N) (d := d) (o := o)
    obtain ⟨wk, hwk, ewk⟩ := keepsOrder_ev (w := w) wb
    have hnx := m_next_ev (d := d) hN h4 h3
    have upd1 : quN N d o < m → ∃ w' wb', ((m_keepsOrder w wb).bind (fun q => (m_nextOrder d w).bind (fun q14 => m_quietRing_l32 d x1 n (nn (quN N d o)) q14.1 q14.2 q))) = some (if x1 = -nn 1 then nn (qoS N d (f + 1) o m b).1 else if wi x1 0 ((N : Int) - 1) = true then wb' x1.toNatClampNeg else -nn 2, w', wb') ∧ (∀ k, k < N → wb' k = nn ((qoS N d (f + 1) o m b).2 k)) := by
      intro e
      rw [hwk, bs]
      unfold qoS
      rcases hnx with ⟨h6, h7⟩ | ⟨o', w', h6, h7, h8⟩
      · rw [h7, bs, h6]
        simp only [if_pos e]
        exact ⟨w, wk, fin n _ w wk (by omega), fun k hk => (ewk k (by omega)).trans (h4 k hk).1⟩
      · rw [h7, bs, h6]
        simp only [if_pos e]
        exact ih n o' _ _ o w' wk (by omega) (oL_next hN h2 h6) h8 (Or.inr ⟨rfl, by omega, fun k hk => (ewk k (by omega)).trans (h4 k hk).1⟩)
    unfold m_quietRing_l32
    rw [li0, ifeq_f (by omega) (by omega) (by omega), grudges_ev hN h4 (oL_lt h2) h3, bs]
    rcases h5 with ⟨h5, h6⟩ | ⟨h5, h6, h7⟩
    · rw [h5, if_pos neg1_lt]
      exact upd1 (by omega)
    · rw [h5, iflt_f (by omega) (by omega)]
      by_cases e : quN N d o < m
      · rw [ifle_f e (by omega)]
        exact upd1 e
      · rw [ifle_t (by omega) (by omega)]
        unfold qoS
        rcases hnx with ⟨h8, h9⟩ | ⟨o', w', h8, h9, h10⟩
        · rw [h9, bs, h8]
          simp only [if_neg e]
          exact ⟨w, wb, fin n _ w wb (by omega), h7⟩
        · rw [h9, bs, h8]
          simp only [if_neg e]
          exact ih n o' _ m b w' wb (by omega) (oL_next hN h2 h8) h10 (Or.inr ⟨rfl, h6, h7⟩)
end mquiet
section cquiet
variable {d : Nat → Int32} {N B L : Nat} {rg pl : Nat → Nat} {g4 : tyFair}
theorem borne_sum {o pl' bo : Nat → Nat} {row : Nat → Int32} {d' : Nat → Int32} (hr : rOK N o pl') (hd : ∀ s, s < N → d' (41 + s) = d (41 + s)) (h : ∀ t, t < N → row t = b01 (brS N o pl' d' t = true)) : sI row N 0 (nn 0) = nn (quN N d o) := by
  have e1 : sI row N 0 (nn 0) = sI (fun t => nn (if gB (d (41 + slr N o pl' t)) t = true then 1 else 0)) N 0 (nn 0) := by
    refine sI_congr N 0 _ (fun j _ hj => ?_)
    rw [h j (by omega)]
    unfold brS
    rw [hd _ (slr_lt hr (by omega))]
    unfold b01
    split <;> rfl
  rw [e1, sI_nn]
  unfold quN
  congr 1
  rw [Nat.zero_add]
  have e2 := sm_perm (N := N) (f := fun k => o (nx N k)) (f' := fun s => pv N (pl' s)) (g := fun t => if gB (d (41 + slr N o pl' t)) t = true then 1 else 0) (fun s hs => by
    have h1 := nx_lt hs
    have h2 := hr _ h1
    have h3 := hr s hs
    refine ⟨h2.1, pv_lt h3.2.1, ?_, ?_⟩
    · show pv N (pl' (o (nx N s))) = s
      rw [h2.2.2.1, pv_nx hs]
    · show o (nx N (pv N (pl' s))) = s
      rw [nx_pv h3.2.1, h3.2.2.2])
  simp only [Nat.zero_add]
  rw [← e2]
  refine sm_congr (fun k hk => ?_)
  have : slr N o pl' (o (nx N k)) = o k := by
    unfold slr
    rw [(hr _ (nx_lt hk)).2.2.1, pv_nx hk]
  rw [this]
theorem c_quiet (hF : fR N B L rg pl d g4) :
    ∀ (f i n : Nat) (o : Nat → Nat) (m : Nat) (b rg' pl' : Nat → Nat) (d' : Nat → Int32) (g1 : tyFair) (g2 g3 : tyOrder), i + f = 120 → f + 1 < n → oL N f o → orR N o g2.1 → g2.2 = nn N → (m = 7 ∨ (m ≤ 6 ∧ orR N b g3.1 ∧ g3.2 = nn N)) → fR N B L rg' pl' d' g1 → (∀ s, s < N → d' (41 + s) = d (41 + s)) →
      ∃ g1' g2' g3', mTrials_findQuietRing_l25 g4 n (nn m) (nn 1) (nn i) g1 g2 g3 = some (nn (qoS N d f o m b).1, g1', g2', g3') ∧ orR N (qoS N d f o m b).2 g3'.1 ∧ g3'.2 = nn N := by
  have hN := hF.1.2.2.2.2.1.1
  have fin : ∀ (n i : Nat) (m : Int32) (g1 : tyFair) (g2 g3 : tyOrder), 0 < n → mTrials_findQuietRing_l25 g4 n m (nn 0) (nn i) g1 g2 g3 = some (m, g1, g2, g3) := by
    intro n i m g1 g2 g3 hn
    match n, hn with
    | n + 1, _ =>
    unfold mTrials_findQuietRing_l25
    rw [li0]
    split
    · rfl
    · rw [ifeq_t rfl]
  intro f
  induction f with
  | zero => intro i n o m b rg' pl' d' g1 g2 g3 h0 h1 h2; exact absurd (oL_pos h2) (by omega)
  | succ f ih =>
    intro i n o m b rg' pl' d' g1 g2 g3 h0 h1 h2 h3 hsz h4 hF1 hd'
    match n, h1 with
    | n + 1, h1 =>
    obtain ⟨pl1, hpl⟩ := oL_ok h2
    obtain ⟨ri, se, pr, bo, hst, hF4⟩ := stand_ev hF1 h3 hpl
    have hq := quN_le (N := N) (d := d) (o := o)
    have hd2 : ∀ s, s < N → stdD N o d' (41 + s) = d (41 + s) := fun s hs => by rw [std_o (by omega)]; exact hd' s hs
    have hbs := borne_sum (d := d) (bo := o) hpl hd2 hF4.1.1.2.2.2.2.2.2.2.2
    obtain ⟨wc, hwc, ewc⟩ := copyOrder_ev g3.1 g3.2 g2.2 hN h3
    have hnx := c_next_ev hN h3
    have hsts : g1.2.2.1 = nn N := by rw [hF1.1.1.2.1, hF1.1.2.2.2.2.1.2.2.2.2.1]
    unfold mTrials_findQuietRing_l25
    rw [show (120 : Int32) = nn 120 from id rfl, ifle_f (by omega) (by omega), li0, ifeq_f (by omega) (by omega) (by omega), hst, bs]
    dsimp only at hbs ⊢
    rw [sum_b hN hsts, bs, hbs, li1, nn_add, hsz]
    unfold qoS
    by_cases e : quN N d o < m
    · rw [ifle_f e (by omega), ← hsz, hwc, bs, hsz]
      rcases hnx with ⟨h5, h6⟩ | ⟨o', w', h5, h6, h7⟩
      · rw [h6, bs, h5]
        simp only [if_pos e]
        exact ⟨_, _, _, fin n _ _ _ _ _ (by omega), ewc, rfl⟩
      · rw [h6, bs, h5]
        simp only [if_pos e]
        exact ih (i + 1) n o' _ o _ _ _ _ (w', nn N) (wc, nn N) (by omega) (by omega) (oL_next hN h2 h5) h7 rfl (Or.inr ⟨by omega, ewc, rfl⟩) hF4 hd2
    · have h4' : m ≤ 6 ∧ orR N b g3.1 ∧ g3.2 = nn N := by
        rcases h4 with h4 | h4
        · omega
        · exact h4
      rw [ifle_t (by omega) (by omega)]
      rcases hnx with ⟨h5, h6⟩ | ⟨o', w', h5, h6, h7⟩
      · rw [h6, bs, h5]
        simp only [if_neg e]
        exact ⟨_, _, _, fin n _ _ _ _ _ (by omega), h4'.2⟩
      · rw [h6, bs, h5]
        simp only [if_neg e]
        exact ih (i + 1) n o' m b _ _ _ _ (w', nn N) g3 (by omega) (by omega) (oL_next hN h2 h5) h7 rfl (Or.inr h4') hF4 hd2
end cquiet
