/-! asks: rings that fit the notes -/
def rgB (ru : Option RU) (N B : Nat) (d : Nat → Int32) (nr : Nat → Nt) (n : Nat) (o : Nat → Nat) : Bool := ftB ru N B o (fun s => invF o s N) (stdD N o (begD d)) nr n
def rnS (N : Nat) (p : (Nat → Nat) → Bool) : Nat → (Nat → Nat) → Nat → (Nat → Nat) → Nat × (Nat → Nat)
  | 0, _, m, b => (m, b)
  | f + 1, o, m, b =>
    match nextO N o with
    | none => if p o = true then (m + 1, if m = 0 then o else b) else (m, b)
    | some o' => if p o = true then rnS N p f o' (m + 1) (if m = 0 then o else b) else rnS N p f o' m b
section mrings
variable {sign clause clauses : Nat → Int32} {force : Int32} {ru : Option RU} {d kp : Nat → Int32} {N B L n : Nat} {rg : Nat → Nat} {nr : Nat → Nt}
theorem rings_l36_ev (hfr : frR sign clause clauses force ru) (hf : fxR N B L rg d) (hn : nrR N n nr d) (hk : ∀ k, k < 79 → kp k = d (10 + k)) (x1 : Int32) :
    ∀ (f g : Nat) (o : Nat → Nat) (m : Nat) (b : Nat → Nat) (z : Nat → Int64) (tp : Int32) (wd : Nat → Int64) (said w wb tt : Nat → Int32), f + 1 < g → m + f < 1000 → oL N f o → orR N o w → oEq d said → (0 < m → ∀ k, k < N → wb k = nn (b k)) →
      ∃ z' tp' wd' w' wb' tt', m_rings_l36 sign clause clauses force (-nn 1) kp x1 g (nn m) (nn 1) z tp wd said (nn 0) w wb tt = some (if x1 = -nn 1 then nn (rnS N (rgB ru N B d nr n) f o m b).1 else if 0 < (rnS N (rgB ru N B d nr n) f o m b).1 ∧ wi x1 0 ((N : Int) - 1) = true then wb' x1.toNatClampNeg else -nn 2, z', tp', wd', d, nn 0, kp, w', wb', tt') ∧ (0 < (rnS N (rgB ru N B d nr n) f o m b).1 → ∀ k, k < N → wb' k = nn ((rnS N (rgB ru N B d nr n) f o m b).2 k)) := by
  have hN := hf.1
  have fin : ∀ (g m : Nat) (z : Nat → Int64) (tp : Int32) (wd : Nat → Int64) (said w wb tt : Nat → Int32), 0 < g → m < 1001 → oEq d said → m_rings_l36 sign clause clauses force (-nn 1) kp x1 g (nn m) (nn 0) z tp wd said (nn 0) w wb tt = some (if x1 = -nn 1 then nn m else if 0 < m ∧ wi x1 0 ((N : Int) - 1) = true then wb x1.toNatClampNeg else -nn 2, z, tp, wd, d, nn 0, kp, w, wb, tt) := by
    intro g m z tp wd said w wb tt hg hm ho
    match g, hg with
    | g + 1, _ =>
    unfold m_rings_l36
    rw [li0, ifeq_t rfl, laysBack_ev ho hk, bs, show (-1 : Int32) = -nn 1 from id rfl]
    by_cases e : x1 = -nn 1
    · rw [if_pos e, if_pos e]
    · rw [if_neg e, if_neg e]
      by_cases e1 : 0 < m
      · rw [ifle_f e1 (by omega), misStall_ev (by omega) hf.2.2.2.2.1, bs]
        by_cases e2 : wi x1 0 ((N : Int) - 1) = true
        · obtain ⟨k, hk, ek⟩ := wi_st e2
          rw [if_neg (by rw [b01_0]; exact fun h => h e2), if_pos ⟨e1, e2⟩, ek, rq_inb (by omega) (by omega)]
        · rw [if_pos (by rw [b01_0]; exact e2), if_neg (fun h => e2 h.2)]
          rfl
      · rw [ifle_t (by omega) (by omega), if_neg (fun h => e1 h.1)]
        rfl
  intro f
  induction f with
  | zero => intro g o m b z tp wd said w wb tt h1 _ h2; exact absurd (oL_pos h2) (by omega)
  | succ f ih =>
    intro g o m b z tp wd said w wb tt h1 hmf h2 h3 ho h4
    match g, h1 with
    | g + 1, h1 =>
    obtain ⟨pl', hpl⟩ := oL_ok h2
    have hi := invF_ok hpl
    have hfb := begin_fx hf
    have hfs : fxR N B L o (stdD N o (begD d)) := fx_std hfb
    have hns : nrR N n nr (stdD N o (begD d)) := nr_oEq hn (fun k h _ => by rw [std_o (by omega), beg_o (by omega)])
    obtain ⟨z', tp', wd', tt', hz, _, _⟩ := areAllSo_ev (r := 0) hfr hi hfs hns (by omega) (-nn 1) z tp wd tt
    obtain ⟨wk, hwk, ewk⟩ := keepsOrder_ev (w := w) wb
    have ho2 : oEq d (tjD ru N B o (fun s => invF o s N) (stdD N o (begD d)) 61) := fun k hk2 => by
      rw [show tjD ru N B o (fun s => invF o s N) (stdD N o (begD d)) 61 k = stdD N o (begD d) k from minsS_o hN hf.2.1 hi (by omega) _ _ _, std_o (by omega), beg_o (by omega)]
    have h3' : tjD ru N B o (fun s => invF o s N) (stdD N o (begD d)) 61 3 = nn N := by rw [ho2 3 (by omega)]; exact hf.2.2.2.2.1
    have hnx := m_next_ev (d := tjD ru N B o (fun s => invF o s N) (stdD N o (begD d)) 61) hN h3 h3'
    have h31 : begD d 3 = nn N := by rw [beg_o (by omega)]; exact hf.2.2.2.2.1
    unfold m_rings_l36
    rw [li0, ifeq_f (by omega) (by omega) (by omega), begins_ev, bs, beg_congr ho, stands_ev hN h3 h31, bs, show (-1 : Int32) = -nn 1 from id rfl, hz, bs]
    dsimp only
    rw [li1, nn_add]
    show ∃ z' tp' wd' w' wb' tt', (if b01 (rgB ru N B d nr n o = true) = nn 0 then _ else _) = _ ∧ _
    unfold rnS
    by_cases e : rgB ru N B d nr n o = true
    · rw [if_neg (by rw [b01_0]; exact fun h => h e)]
      by_cases e2 : m = 0
      · rw [ifeq_t e2, hwk, bs]
        have hb' : 0 < m + 1 → ∀ k, k < N → wk k = nn (o k) := fun _ k hk => (ewk k (by omega)).trans (h3 k hk).1
        rcases hnx with ⟨h5, h6⟩ | ⟨o', w', h5, h6, h7⟩
        · rw [h6, bs, h5]
          simp only [if_pos e, if_pos e2]
          exact ⟨z', tp', wd', w, wk, tt', fin g _ z' tp' wd' _ w wk tt' (by omega) (by omega) ho2, hb'⟩
        · rw [h6, bs, h5]
          simp only [if_pos e, if_pos e2]
          exact ih g o' (m + 1) o z' tp' wd' _ w' wk tt' (by omega) (by omega) (oL_next hN h2 h5) h7 ho2 hb'
      · rw [ifeq_f e2 (by omega) (by omega)]
        have hb' : 0 < m + 1 → ∀ k, k < N → wb k = nn (b k) := fun _ => h4 (by omega)
        rcases hnx with ⟨h5, h6⟩ | ⟨o', w', h5, h6, h7⟩
        · rw [h6, bs, h5]
          simp only [if_pos e, if_neg e2]
          exact ⟨z', tp', wd', w, wb, tt', fin g _ z' tp' wd' _ w wb tt' (by omega) (by omega) ho2, hb'⟩
        · rw [h6, bs, h5]
          simp only [if_pos e, if_neg e2]
          exact ih g o' (m + 1) b z' tp' wd' _ w' wb tt' (by omega) (by omega) (oL_next hN h2 h5) h7 ho2 hb'
    · rw [if_pos (by rw [b01_0]; exact e)]
      rcases hnx with ⟨h5, h6⟩ | ⟨o', w', h5, h6, h7⟩
      · rw [h6, bs, h5]
        simp only [if_neg e]
        exact ⟨z', tp', wd', w, wb, tt', fin g _ z' tp' wd' _ w wb tt' (by omega) (by omega) ho2, h4⟩
      · rw [h6, bs, h5]
        simp only [if_neg e]
        exact ih g o' m b z' tp' wd' _ w' wb tt' (by omega) (by omega) (oL_next hN h2 h5) h7 ho2 h4
end mrings
section crings
variable {d : Nat → Int32} {N B L n : Nat} {nr nc : Nat → Nt} {g5 : tyFair} {g7 : tyNotes}
theorem c_ringsr {r : RU} {len : Nat} {q0 : tyRule} (hR : rcR q0.1 q0.2.1 q0.2.2.1 q0.2.2.2.1 q0.2.2.2.2.1 q0.2.2.2.2.2.1 q0.2.2.2.2.2.2.2.1 r len) (hn : ntE N n nr nc g7) (hF : fR N B L (fun k => k) (fun k => k) (begD d) g5) :
    ∀ (f i g : Nat) (o : Nat → Nat) (m : Nat) (b : Nat → Nat) (g1 : tyFair) (g2 g3 : tyOrder) (q : tyRule), i + f = 120 → f + 1 < g → m ≤ i → oL N f o → orR N o g2.1 → g2.2 = nn N → ((m = 0 ∧ g3.2 = nn 0) ∨ (0 < m ∧ orR N b g3.1 ∧ g3.2 = nn N)) → rqE q0 q →
      ∃ g1' g2' g3' q', mTrials_findRingsrr_l30 g5 g7 g (nn m) (nn 1) (nn i) g1 g2 g3 q = some (nn (rnS N (rgB (some r) N B d nr n) f o m b).1, g1', g2', g3', q') ∧ (((rnS N (rgB (some r) N B d nr n) f o m b).1 = 0 ∧ g3'.2 = nn 0) ∨ (0 < (rnS N (rgB (some r) N B d nr n) f o m b).1 ∧ orR N (rnS N (rgB (some r) N B d nr n) f o m b).2 g3'.1 ∧ g3'.2 = nn N)) ∧ rqE q0 q' := by
  have hN := hF.1.2.2.2.2.1.1
  have fin : ∀ (g i : Nat) (m : Int32) (g1 : tyFair) (g2 g3 : tyOrder) (q : tyRule), 0 < g → mTrials_findRingsrr_l30 g5 g7 g m (nn 0) (nn i) g1 g2 g3 q = some (m, g1, g2, g3, q) := by
    intro g i m g1 g2 g3 q hg
    match g, hg with
    | g + 1, _ =>
    unfold mTrials_findRingsrr_l30
    rw [li0]
    split
    · rfl
    · rw [ifeq_t rfl]
  intro f
  induction f with
  | zero => intro i g o m b g1 g2 g3 q h0 h1 _ h2; exact absurd (oL_pos h2) (by omega)
  | succ f ih =>
    intro i g o m b g1 g2 g3 q h0 h1 hmi h2 h3 hsz h4 hq
    match g, h1 with
    | g + 1, h1 =>
    obtain ⟨pl', hpl⟩ := oL_ok h2
    have hi := invF_ok hpl
    obtain ⟨gf, hgf, egf⟩ := from_ev g1 g5
    have hF3 := fR_gEq hF egf
    obtain ⟨ri, se, pr, bo, hst, hF4⟩ := stand_ev hF3 h3 hi
    have hm0 : stdD N o (begD d) 10 = nn 0 := std_o (by omega)
    obtain ⟨g', q', hz, hq'⟩ := fitr_ev (rcR_E hR hq) hi hn hm0 hF4
    obtain ⟨wc, hwc, ewc⟩ := copyOrder_ev g3.1 g3.2 g2.2 hN h3
    have hnx := c_next_ev hN h3
    unfold mTrials_findRingsrr_l30
    rw [show (120 : Int32) = nn 120 from id rfl, ifle_f (by omega) (by omega), li0, ifeq_f (by omega) (by omega) (by omega), hgf, bs, hst, bs]
    dsimp only
    rw [hz, bs, li1, nn_add, nn_add, hsz]
    show ∃ g1' g2' g3' q', (if b01 (rgB (some r) N B d nr n o = true) = nn 0 then _ else _) = _ ∧ _
    unfold rnS
    by_cases e : rgB (some r) N B d nr n o = true
    · rw [if_neg (by rw [b01_0]; exact fun h => h e)]
      by_cases e2 : m = 0
      · rw [ifeq_t e2, ← hsz, hwc, bs, hsz]
        rcases hnx with ⟨h5, h6⟩ | ⟨o', w', h5, h6, h7⟩
        · rw [h6, bs, h5]
          simp only [if_pos e, if_pos e2]
          exact ⟨_, _, _, _, fin g _ _ _ _ _ _ (by omega), Or.inr ⟨by omega, ewc, rfl⟩, hq.trans hq'⟩
        · rw [h6, bs, h5]
          simp only [if_pos e, if_pos e2]
          exact ih (i + 1) g o' (m + 1) o _ (w', nn N) (wc, nn N) q' (by omega) (by omega) (by omega) (oL_next hN h2 h5) h7 rfl (Or.inr ⟨by omega, ewc, rfl⟩) (hq.trans hq')
      · have h4' : 0 < m ∧ orR N b g3.1 ∧ g3.2 = nn N := by
          rcases h4 with h4 | h4
          · exact absurd h4.1 e2
          · exact h4
        rw [ifeq_f e2 (by omega) (by omega)]
        rcases hnx with ⟨h5, h6⟩ | ⟨o', w', h5, h6, h7⟩
        · rw [h6, bs, h5]
          simp only [if_pos e, if_neg e2]
          exact ⟨_, _, _, _, fin g _ _ _ _ _ _ (by omega), Or.inr ⟨by omega, h4'.2⟩, hq.trans hq'⟩
        · rw [h6, bs, h5]
          simp only [if_pos e, if_neg e2]
          exact ih (i + 1) g o' (m + 1) b _ (w', nn N) g3 q' (by omega) (by omega) (by omega) (oL_next hN h2 h5) h7 rfl (Or.inr ⟨by omega, h4'.2⟩) (hq.trans hq')
    · rw [if_pos (by rw [b01_0]; exact e)]
      rcases hnx with ⟨h5, h6⟩ | ⟨o', w', h5, h6, h7⟩
      · rw [h6, bs, h5]
        simp only [if_neg e]
        exact ⟨_, _, _, _, fin g _ _ _ _ _ _ (by omega), h4, hq.trans hq'⟩
      · rw [h6, bs, h5]
        simp only [if_neg e]
        exact ih (i + 1) g o' m b _ (w', nn N) g3 q' (by omega) (by omega) (by omega) (oL_next hN h2 h5) h7 rfl h4 (hq.trans hq')
theorem c_ringsn  (hn : ntE N n nr nc g7) (hF : fR N B L (fun k => k) (fun k => k) (begD d) g5) :
    ∀ (f i g : Nat) (o : Nat → Nat) (m : Nat) (b : Nat → Nat) (g1 : tyFair) (g2 g3 : tyOrder) , i + f = 120 → f + 1 < g → m ≤ i → oL N f o → orR N o g2.1 → g2.2 = nn N → ((m = 0 ∧ g3.2 = nn 0) ∨ (0 < m ∧ orR N b g3.1 ∧ g3.2 = nn N)) → 
      ∃ g1' g2' g3' , mTrials_findRingsrn_l30 g5 g7 g (nn m) (nn 1) (nn i) g1 g2 g3  = some (nn (rnS N (rgB none N B d nr n) f o m b).1, g1', g2', g3') ∧ (((rnS N (rgB none N B d nr n) f o m b).1 = 0 ∧ g3'.2 = nn 0) ∨ (0 < (rnS N (rgB none N B d nr n) f o m b).1 ∧ orR N (rnS N (rgB none N B d nr n) f o m b).2 g3'.1 ∧ g3'.2 = nn N))  := by
  have hN := hF.1.2.2.2.2.1.1
  have fin : ∀ (g i : Nat) (m : Int32) (g1 : tyFair) (g2 g3 : tyOrder) , 0 < g → mTrials_findRingsrn_l30 g5 g7 g m (nn 0) (nn i) g1 g2 g3  = some (m, g1, g2, g3) := by
    intro g i m g1 g2 g3  hg
    match g, hg with
    | g + 1, _ =>
    unfold mTrials_findRingsrn_l30
    rw [li0]
    split
    · rfl
    · rw [ifeq_t rfl]
  intro f
  induction f with
  | zero => intro i g o m b g1 g2 g3  h0 h1 _ h2; exact absurd (oL_pos h2) (by omega)
  | succ f ih =>
    intro i g o m b g1 g2 g3  h0 h1 hmi h2 h3 hsz h4 
    match g, h1 with
    | g + 1, h1 =>
    obtain ⟨pl', hpl⟩ := oL_ok h2
    have hi := invF_ok hpl
    obtain ⟨gf, hgf, egf⟩ := from_ev g1 g5
    have hF3 := fR_gEq hF egf
    obtain ⟨ri, se, pr, bo, hst, hF4⟩ := stand_ev hF3 h3 hi
    have hm0 : stdD N o (begD d) 10 = nn 0 := std_o (by omega)
    obtain ⟨g',  hz⟩ := fitn_ev  hi hn hm0 hF4
    obtain ⟨wc, hwc, ewc⟩ := copyOrder_ev g3.1 g3.2 g2.2 hN h3
    have hnx := c_next_ev hN h3
    unfold mTrials_findRingsrn_l30
    rw [show (120 : Int32) = nn 120 from id rfl, ifle_f (by omega) (by omega), li0, ifeq_f (by omega) (by omega) (by omega), hgf, bs, hst, bs]
    dsimp only
    rw [hz, bs, li1, nn_add, nn_add, hsz]
    show ∃ g1' g2' g3' , (if b01 (rgB none N B d nr n o = true) = nn 0 then _ else _) = _ ∧ _
    unfold rnS
    by_cases e : rgB none N B d nr n o = true
    · rw [if_neg (by rw [b01_0]; exact fun h => h e)]
      by_cases e2 : m = 0
      · rw [ifeq_t e2, ← hsz, hwc, bs, hsz]
        rcases hnx with ⟨h5, h6⟩ | ⟨o', w', h5, h6, h7⟩
        · rw [h6, bs, h5]
          simp only [if_pos e, if_pos e2]
          exact ⟨_, _, _,  fin g _ _ _ _ _  (by omega), Or.inr ⟨by omega, ewc, rfl⟩⟩
        · rw [h6, bs, h5]
          simp only [if_pos e, if_pos e2]
          exact ih (i + 1) g o' (m + 1) o _ (w', nn N) (wc, nn N)  (by omega) (by omega) (by omega) (oL_next hN h2 h5) h7 rfl (Or.inr ⟨by omega, ewc, rfl⟩) 
      · have h4' : 0 < m ∧ orR N b g3.1 ∧ g3.2 = nn N := by
          rcases h4 with h4 | h4
          · exact absurd h4.1 e2
          · exact h4
        rw [ifeq_f e2 (by omega) (by omega)]
        rcases hnx with ⟨h5, h6⟩ | ⟨o', w', h5, h6, h7⟩
        · rw [h6, bs, h5]
          simp only [if_pos e, if_neg e2]
          exact ⟨_, _, _,  fin g _ _ _ _ _  (by omega), Or.inr ⟨by omega, h4'.2⟩⟩
        · rw [h6, bs, h5]
          simp only [if_pos e, if_neg e2]
          exact ih (i + 1) g o' (m + 1) b _ (w', nn N) g3  (by omega) (by omega) (by omega) (oL_next hN h2 h5) h7 rfl (Or.inr ⟨by omega, h4'.2⟩) 
    · rw [if_pos (by rw [b01_0]; exact e)]
      rcases hnx with ⟨h5, h6⟩ | ⟨o', w', h5, h6, h7⟩
      · rw [h6, bs, h5]
        simp only [if_neg e]
        exact ⟨_, _, _,  fin g _ _ _ _ _  (by omega), h4⟩
      · rw [h6, bs, h5]
        simp only [if_neg e]
        exact ih (i + 1) g o' m b _ (w', nn N) g3  (by omega) (by omega) (by omega) (oL_next hN h2 h5) h7 rfl h4 
end crings
