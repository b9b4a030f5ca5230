/-! the class: dusk and the end of a minute -/
section cl
variable {N B L : Nat} {rg pl : Nat → Nat} {d : Nat → Int32} {lasts keeps stalls buyers minute : Int32} {price came seller praise borne goods till wealth sold purse had : Nat → Int32} {b s : Nat}
theorem dskD_2 {q : Nat} (h : q < N) : dskD N rg pl d (11 + 4 * q + 2) = nn 0 := by
  unfold dskD; rw [if_pos (by omega), if_pos (by omega)]
theorem dskD_3 {q : Nat} (h : q < N) : dskD N rg pl d (11 + 4 * q + 3) = d (11 + 4 * q + 3) + (kpS d q + (d (11 + 4 * slr N rg pl q + 2) - kpS d (slr N rg pl q))) := by
  have e2 : (11 + 4 * q + 3 - 11) / 4 = q := by omega
  unfold dskD; rw [if_pos (by omega), if_neg (by omega), if_pos (by omega), e2]
theorem dskD_01 {q r : Nat} (h : q < N) (hr : r < 2) : dskD N rg pl d (11 + 4 * q + r) = d (11 + 4 * q + r) := by
  unfold dskD; rw [if_pos (by omega), if_neg (by omega), if_neg (by omega)]
def weR (N : Nat) (d : Nat → Int32) (wealth : Nat → Int32) : Prop := ∀ s, s < N → wealth s = d (11 + 4 * s + 3)
theorem handOn_l2_ev (hN : N ≤ 6) (hr : rOK N rg pl) (hst : stalls = nn N) (hk : keeps = d 2) (hse : ∀ s, s < N → seller s = nn (slr N rg pl s)) :
    ∀ (k i n : Nat) (till wealth : Nat → Int32), i + k = N → k < n → (∀ t, t < N → till t = if bhd N rg pl t < i then nn 0 else d (11 + 4 * t + 2)) →
      (∀ t, t < N → wealth t = d (11 + 4 * t + 3) + ((if bhd N rg pl t < i then kpS d t else nn 0) + (if t < i then d (11 + 4 * slr N rg pl t + 2) - kpS d (slr N rg pl t) else nn 0))) →
      ∃ t' w', mFair_handOn_l2 keeps stalls seller n (nn i) till wealth = some (t', w') ∧ (∀ t, t < N → t' t = nn 0) ∧ (∀ t, t < N → w' t = d (11 + 4 * t + 3) + (kpS d t + (d (11 + 4 * slr N rg pl t + 2) - kpS d (slr N rg pl t)))) := by
  subst hst; subst hk
  intro k
  induction k with
  | zero =>
    intro i n till wealth h1 h2 ht hw
    match n, h2 with
    | n + 1, _ =>
    have : i = N := by omega
    subst this
    refine ⟨till, wealth, ?_, fun t h => ?_, fun t h => ?_⟩
    · unfold mFair_handOn_l2; rw [ifle_t (by omega) (by omega)]
    · rw [ht t h, if_pos (bhd_lt hr h)]
    · rw [hw t h, if_pos (bhd_lt hr h), if_pos h]
  | succ k ih =>
    intro i n till wealth h1 h2 ht hw
    match n, h2 with
    | n + 1, h2 =>
    have hi : i < N := by omega
    have hq := slr_lt hr hi
    have hbq := bhd_slr hr hi
    have etq : till (slr N rg pl i) = d (11 + 4 * slr N rg pl i + 2) := by rw [ht _ hq, hbq, if_neg (by omega)]
    unfold mFair_handOn_l2
    rw [ifle_f (by omega) (by omega), rq_inb (by omega) (by omega), nn_tn (by omega), hse i hi]
    simp only [lt, li10, li0, li1]
    rw [nn_add, nn_tn (by omega), rq_inb (by omega) (by omega), rq_inb (by omega) (by omega), rq_inb (by omega) (by omega), rq_inb (by omega) (by omega), rq_inb (by omega) (by omega), rq_inb (by omega) (by omega), rq_inb (by omega) (by omega), etq]
    have ekp : d (11 + 4 * slr N rg pl i + 2) * d 2 / nn 10 = kpS d (slr N rg pl i) := rfl
    rw [ekp]
    have z0 : ∀ x : Int32, nn 0 + x = x := Int32.zero_add
    have z1 : ∀ x : Int32, x + nn 0 = x := Int32.add_zero
    have hb2 : ∀ t, t < N → (bhd N rg pl t = i ↔ t = slr N rg pl i) := fun t h => ⟨fun e => by rw [← e, slr_bhd hr h], fun e => by rw [e, hbq]⟩
    refine ih (i + 1) n _ _ (by omega) (by omega) (fun t h => ?_) (fun t h => ?_)
    · by_cases e : t = slr N rg pl i
      · rw [e, upd_s, hbq, if_pos (by omega)]
      · have : ¬ bhd N rg pl t = i := fun h' => e ((hb2 t h).1 h')
        rw [upd_o e, ht t h]
        by_cases e2 : bhd N rg pl t < i
        · rw [if_pos e2, if_pos (by omega)]
        · rw [if_neg e2, if_neg (by omega)]
    · by_cases ei : t = i
      · subst ei
        rw [upd_s, if_pos (show t < t + 1 by omega)]
        by_cases e : t = slr N rg pl t
        · have hb3 := (hb2 t h).2 e
          rw [← e, upd_s, hw t h, hb3, if_neg (by omega), if_neg (by omega), if_pos (by omega), z0, z1, Int32.add_assoc]
        · have : ¬ bhd N rg pl t = t := fun h' => e ((hb2 t h).1 h')
          rw [upd_o e, hw t h, if_neg (show ¬ t < t by omega), z1, Int32.add_assoc]
          by_cases e2 : bhd N rg pl t < t
          · rw [if_pos e2, if_pos (by omega)]
          · rw [if_neg e2, if_neg (by omega)]
      · rw [upd_o ei]
        by_cases e : t = slr N rg pl i
        · have hb3 := (hb2 t h).2 e
          rw [← e, upd_s, hw t h, hb3, if_neg (show ¬ i < i by omega), if_pos (show i < i + 1 by omega), z0, Int32.add_assoc, Int32.add_comm _ (kpS d t)]
          by_cases e2 : t < i
          · rw [if_pos e2, if_pos (by omega)]
          · rw [if_neg e2, if_neg (by omega)]
        · have : ¬ bhd N rg pl t = i := fun h' => e ((hb2 t h).1 h')
          rw [upd_o e, hw t h]
          have e4 : (bhd N rg pl t < i) = (bhd N rg pl t < i + 1) := by apply propext; omega
          have e5 : (t < i) = (t < i + 1) := by apply propext; omega
          simp only [e4, e5]
theorem clsD_10 : clsD N rg pl d 10 = d 10 + nn 1 := by
  unfold clsD; split <;> rw [upd_s]
/-- cells that the end of a minute leaves -/
def tEq (d d2 : Nat → Int32) : Prop := ∀ k, ¬ k = 10 → ¬ (11 ≤ k ∧ k < 35 ∧ 2 ≤ (k - 11) % 4) → d2 k = d k
theorem tEq_cls (hN : N ≤ 6) : tEq d (clsD N rg pl d) := by
  intro k h1 h2
  unfold clsD
  split
  · rw [upd_o h1]
    unfold dskD
    by_cases h : 11 ≤ k ∧ k < 11 + 4 * N
    · rw [if_pos h, if_neg (by omega), if_neg (by omega)]
    · rw [if_neg h]
  · rw [upd_o h1]
theorem closeMinute_ev (hS : stR N B rg pl d lasts stalls buyers minute price came seller praise borne) (hD : dyR N B d goods till sold purse had) (hW : weR N d wealth) (hk : keeps = d 2) (hf : fxR N B L rg d) (hr : rOK N rg pl) :
    ∃ t' w', mFair_closeMinute lasts keeps stalls minute till wealth seller = some (clsD N rg pl d 10, t', w') ∧ dyR N B (clsD N rg pl d) goods t' sold purse had ∧ weR N (clsD N rg pl d) w' ∧ stR N B rg pl (clsD N rg pl d) lasts stalls buyers (clsD N rg pl d 10) price came seller praise borne := by
  obtain ⟨hN, hB, hL, hL2, h3, h4, h5, h8⟩ := hf
  have O := tEq_cls (rg := rg) (pl := pl) (d := d) hN
  obtain ⟨g1, g2, g3, g4, g5, g6, g7, g8, g9⟩ := hS
  obtain ⟨e1, e2, e3, e4, e5⟩ := hD
  have hS' : stR N B rg pl (clsD N rg pl d) lasts stalls buyers (clsD N rg pl d 10) price came seller praise borne := by
    refine ⟨?_, ?_, ?_, rfl, fun q hq => ?_, fun q hq => ?_, g7, fun q hq => ?_, fun q hq => ?_⟩
    · rw [O _ (by omega) (by omega), g1]
    · rw [O _ (by omega) (by omega), g2]
    · rw [O _ (by omega) (by omega), g3]
    · rw [O _ (by omega) (by omega), g5 q hq]
    · rw [O _ (by omega) (by omega), g6 q hq]
    · rw [g8 q hq, (prS_congr hr hq (fun k hk => ⟨O _ (by omega) (by omega), O _ (by omega) (by omega)⟩)).1]
    · rw [g9 q hq, (prS_congr hr hq (fun k hk => ⟨O _ (by omega) (by omega), O _ (by omega) (by omega)⟩)).2]
  have hD' : ∀ t', (∀ s, s < N → t' s = clsD N rg pl d (11 + 4 * s + 2)) → dyR N B (clsD N rg pl d) goods t' sold purse had := by
    intro t' ht
    refine ⟨fun q hq => ?_, ht, fun q hq => ?_, fun q hq => ?_, fun q t hq ht => ?_⟩
    · rw [O _ (by omega) (by omega), e1 q hq]
    · rw [O _ (by omega) (by omega), O _ (by omega) (by omega), e3 q hq]
    · rw [O _ (by omega) (by omega), e4 q hq]
    · rw [O _ (by omega) (by omega), e5 q t hq ht]
  have hL0 : ¬ nn L = nn 0 := by rw [nn_inj (by omega) (by omega)]; omega
  unfold mFair_closeMinute
  rw [g1, h5, li0, ifle_f (by omega) (by omega), rq_dec hL0, g4, li1]
  rw [clsD_10]
  simp only [lt]
  by_cases e : d 10 - d 10 / nn L * nn L = nn L - nn 1
  · rw [if_pos e]
    obtain ⟨t', w', hz, ht, hw⟩ := handOn_l2_ev hN hr (show stalls = nn N by rw [g2, h3]) hk g7 N 0 FU till wealth (by omega) (by unfold FU; omega) (fun t h => by rw [e2 t h, if_neg (by omega)]) (fun t h => by
      rw [hW t h, if_neg (by omega), if_neg (by omega)]
      exact (Int32.add_zero _).symm)
    have hc : clsD N rg pl d = upd (dskD N rg pl d) 10 (d 10 + nn 1) := by unfold clsD; rw [h5, if_pos e]
    refine ⟨t', w', ?_, hD' t' (fun s h => ?_), fun s h => ?_, ?_⟩
    · show (mFair_handOn_l2 keeps stalls seller FU (nn 0) till wealth).bind _ = _
      rw [hz, bs]
    · rw [hc, upd_o (by omega), dskD_2 h, ht s h]
    · rw [hc, upd_o (by omega), dskD_3 h, hw s h]
    · rw [clsD_10, g1, h5] at hS'; exact hS'
  · rw [if_neg e]
    have hc : clsD N rg pl d = upd d 10 (d 10 + nn 1) := by unfold clsD; rw [h5, if_neg e]
    refine ⟨till, wealth, rfl, hD' till (fun s h => ?_), fun s h => ?_, ?_⟩
    · rw [hc, upd_o (by omega), e2 s h]
    · rw [hc, upd_o (by omega), hW s h]
    · rw [clsD_10, g1, h5] at hS'; exact hS'
/-! what all can buy -/
def allS (can : Nat → Bool) : Nat → Nat → Int32 → Int32
  | 0, _, x => x
  | k + 1, s, x => allS can k (s + 1) (if can s = true then x ||| (nn 1 <<< (nn s &&& nn 31)) else x)
theorem allS_0 {can : Nat → Bool} : ∀ (k s : Nat) (x : Int32), s + k ≤ 6 → allS can k s x = nn 0 → x = nn 0 ∧ ∀ t, s ≤ t → t < s + k → can t = false
  | 0, _, _, _, h => ⟨h, fun t h1 h2 => by omega⟩
  | k + 1, s, x, hs, h => by
    unfold allS at h
    obtain ⟨h1, h2⟩ := allS_0 k (s + 1) _ (by omega) h
    by_cases e : can s = true
    · rw [if_pos e] at h1
      have h3 := (Int32.or_eq_zero_iff.1 h1).2
      have : s = 0 ∨ s = 1 ∨ s = 2 ∨ s = 3 ∨ s = 4 ∨ s = 5 := by omega
      rcases this with h | h | h | h | h | h <;> subst h <;> exact absurd h3 (by decide)
    · rw [if_neg e] at h1
      refine ⟨h1, fun t h3 h4 => ?_⟩
      by_cases e2 : t = s
      · rw [e2]; simpa using e
      · exact h2 t (by omega) (by omega)
theorem allThatCan_ev (hS : stR N B rg pl d lasts stalls buyers minute price came seller praise borne) (hD : dyR N B d goods till sold purse had) (hf : fxR N B L rg d) (hb : b < B) : mFair_allThatCan (nn b) stalls goods price purse = some (allS (cnS d b) N 0 (nn 0)) := by
  obtain ⟨hN, hB, hL, hL2, h3, h4, h5, h8⟩ := hf
  have hst : stalls = nn N := by rw [hS.2.1, h3]
  have loop : ∀ (k s n : Nat) (x : Int32), s + k = N → k < n → mFair_allThatCan_l4 stalls goods price purse (nn b) n x (nn s) = some (allS (cnS d b) k s x) := by
    intro k
    induction k with
    | zero =>
      intro s n x h1 h2
      match n, h2 with
      | n + 1, _ =>
      unfold mFair_allThatCan_l4
      rw [hst, ifle_t (by omega) (by omega)]
      rfl
    | succ k ih =>
      intro s n x h1 h2
      match n, h2 with
      | n + 1, h2 =>
      unfold mFair_allThatCan_l4
      rw [hst, ifle_f (by omega) (by omega), ← hst, can_ev hS hD hN hB hb (by omega), bs]
      simp only [lt, li0, li1, li31]
      rw [nn_add]
      unfold allS
      by_cases hc : cnS d b s = true
      · rw [if_neg (by rw [b01_0]; exact fun h => h hc), if_pos hc]
        exact ih (s + 1) n _ (by omega) (by omega)
      · rw [if_pos (by rw [b01_0]; exact hc), if_neg hc]
        exact ih (s + 1) n _ (by omega) (by omega)
  exact loop N 0 FU (nn 0) (by omega) (by unfold FU; omega)
theorem staysSor_ev {readsTime : Int32} (hS : stR N B rg pl d lasts stalls buyers minute price came seller praise borne) (hD : dyR N B d goods till sold purse had) (hf : fxR N B L rg d) :
    ∃ v, mFair_staysSor stalls buyers goods price purse readsTime = some v ∧ (v = nn 0 ∨ (v = nn 1 ∧ (readsTime = nn 0 ∨ ∀ b s, b < B → s < N → cnS d b s = false))) := by
  have hf' := hf
  obtain ⟨hN, hB, hL, hL2, h3, h4, h5, h8⟩ := hf'
  have hby : buyers = nn B := by rw [hS.2.2.1, h4]
  have loop : ∀ (k b n : Nat) (x : Int32), b + k = B → k < n → ∃ v, mFair_staysSor_l17 stalls buyers goods price purse readsTime n x (nn b) = some v ∧ (v = nn 0 ∨ (v = nn 1 ∧ x = nn 0 ∧ ∀ b' s, b ≤ b' → b' < B → s < N → cnS d b' s = false)) := by
    intro k
    induction k with
    | zero =>
      intro b n x h1 h2
      match n, h2 with
      | n + 1, _ =>
      unfold mFair_staysSor_l17
      rw [hby, ifle_t (by omega) (by omega), li0, li1]
      by_cases e : x = nn 0
      · rw [if_pos e]; exact ⟨_, rfl, Or.inr ⟨rfl, e, fun b' s h5 h6 => by omega⟩⟩
      · rw [if_neg e]; exact ⟨_, rfl, Or.inl rfl⟩
    | succ k ih =>
      intro b n x h1 h2
      match n, h2 with
      | n + 1, h2 =>
      unfold mFair_staysSor_l17
      rw [hby, ifle_f (by omega) (by omega), ← hby, allThatCan_ev hS hD hf (show b < B by omega), bs, li1, nn_add]
      obtain ⟨v, hv, hv2⟩ := ih (b + 1) n (x ||| allS (cnS d b) N 0 (nn 0)) (by omega) (by omega)
      refine ⟨v, hv, ?_⟩
      rcases hv2 with h | ⟨h6, h7, h8⟩
      · exact Or.inl h
      · have h9 := Int32.or_eq_zero_iff.1 h7
        have h10 := allS_0 N 0 (nn 0) (by omega) h9.2
        refine Or.inr ⟨h6, h9.1, fun b' s h11 h12 h13 => ?_⟩
        by_cases e : b' = b
        · rw [e]; exact h10.2 s (by omega) (by omega)
        · exact h8 b' s (by omega) h12 h13
  unfold mFair_staysSor
  rw [li0, li1]
  by_cases e : readsTime = nn 0
  · rw [if_pos e]; exact ⟨_, rfl, Or.inr ⟨rfl, Or.inl e⟩⟩
  · rw [if_neg e]
    obtain ⟨v, hv, hv2⟩ := loop B 0 FU (nn 0) (by omega) (by unfold FU; omega)
    refine ⟨v, hv, ?_⟩
    rcases hv2 with h | ⟨h6, _, h8⟩
    · exact Or.inl h
    · exact Or.inr ⟨h6, Or.inr (fun b s h1 h2 => h8 b s (by omega) h1 h2)⟩
end cl
