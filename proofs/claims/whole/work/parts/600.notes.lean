/-! notes: the begin, and whether all notes are so -/
def begD (d : Nat → Int32) : Nat → Int32 := fun k =>
  if k < 10 then d k else if k = 10 then nn 0
  else if k < 35 then (if (k - 11) % 4 = 0 then d (101 + (k - 11) / 4) else if (k - 11) % 4 = 1 then d (107 + (k - 11) / 4) else nn 0)
  else if k < 41 then nn (k - 35) else if k < 47 then d (113 + (k - 41)) else if k < 53 then d (119 + (k - 47)) else if k < 89 then nn 0 else d k
theorem beg_o {d : Nat → Int32} {k : Nat} (h : k < 10 ∨ 89 ≤ k) : begD d k = d k := by
  unfold begD
  by_cases e : k < 10
  · rw [if_pos e]
  · rw [if_neg e, if_neg (by omega), if_neg (by omega), if_neg (by omega), if_neg (by omega), if_neg (by omega), if_neg (by omega)]
theorem beg_congr {d d' : Nat → Int32} (h : ∀ k, k < 10 ∨ 89 ≤ k → d' k = d k) : begD d' = begD d := by
  funext k
  unfold begD
  by_cases e1 : k < 10
  · rw [if_pos e1, if_pos e1, h k (by omega)]
  · rw [if_neg e1, if_neg e1]
    by_cases e2 : k = 10
    · rw [if_pos e2, if_pos e2]
    · rw [if_neg e2, if_neg e2]
      by_cases e3 : k < 35
      · rw [if_pos e3, if_pos e3, h (101 + (k - 11) / 4) (by omega), h (107 + (k - 11) / 4) (by omega)]
      · rw [if_neg e3, if_neg e3]
        by_cases e4 : k < 41
        · rw [if_pos e4, if_pos e4]
        · rw [if_neg e4, if_neg e4]
          by_cases e5 : k < 47
          · rw [if_pos e5, if_pos e5, h _ (by omega)]
          · rw [if_neg e5, if_neg e5]
            by_cases e6 : k < 53
            · rw [if_pos e6, if_pos e6, h _ (by omega)]
            · rw [if_neg e6, if_neg e6]
              by_cases e7 : k < 89
              · rw [if_pos e7, if_pos e7]
              · rw [if_neg e7, if_neg e7, h k (by omega)]
theorem begins_ev (d : Nat → Int32) : m_begins d = some (begD d) := by
  have l127 : ∀ (k i n : Nat) (u : Nat → Int32), i + k = 36 → k < n → (∀ j, ¬ (53 + i ≤ j ∧ j < 89) → u j = begD d j) → m_begins_l127 n (nn i) u = some (begD d) := by
    intro k
    induction k with
    | zero =>
      intro i n u h1 h2 h3
      match n, h2 with
      | n + 1, _ =>
      unfold m_begins_l127
      rw [li36, ifle_t (by omega) (by omega)]
      congr 1
      funext j
      exact h3 j (by omega)
    | succ k ih =>
      intro i n u h1 h2 h3
      match n, h2 with
      | n + 1, h2 =>
      unfold m_begins_l127
      simp only [lt, li36, li53, li0, li1, nn_add]
      rw [ifle_f (by omega) (by omega), rq_inb (by omega) (by omega), nn_tn (by omega)]
      refine ih (i + 1) n _ (by omega) (by omega) (fun j hj => ?_)
      by_cases e : j = 53 + i
      · rw [e, upd_s]; unfold begD; rw [if_neg (by omega), if_neg (by omega), if_neg (by omega), if_neg (by omega), if_neg (by omega), if_neg (by omega), if_pos (by omega)]
      · rw [upd_o e]; exact h3 j (by omega)
  have l10 : ∀ (k i n : Nat) (u : Nat → Int32), i + k = 6 → k < n → (∀ j, (j < 11 + 4 * i ∨ (35 ≤ j ∧ j < 35 + i) ∨ (41 ≤ j ∧ j < 41 + i) ∨ (47 ≤ j ∧ j < 47 + i)) → u j = begD d j) → (∀ j, 89 ≤ j → u j = d j) → m_begins_l10 n (nn i) u = some (begD d) := by
    intro k
    induction k with
    | zero =>
      intro i n u h1 h2 h3 h4
      match n, h2 with
      | n + 1, _ =>
      unfold m_begins_l10
      rw [li6, ifle_t (by omega) (by omega), li0]
      refine l127 36 0 FU u (by omega) (by unfold FU; omega) (fun j hj => ?_)
      by_cases e : 89 ≤ j
      · rw [h4 j e, beg_o (by omega)]
      · exact h3 j (by omega)
    | succ k ih =>
      intro i n u h1 h2 h3 h4
      match n, h2 with
      | n + 1, h2 =>
      unfold m_begins_l10
      simp only [lt, li6, li11, li4, li101, li107, li113, li119, li35, li41, li47, li0, li1, li2, li3, nn_mul, nn_add]
      rw [ifle_f (by omega) (by omega)]
      simp (disch := omega) only [rq_inb, nn_tn, upd_o]
      rw [h4 (101 + i) (by omega), h4 (107 + i) (by omega), h4 (113 + i) (by omega), h4 (119 + i) (by omega)]
      refine ih (i + 1) n _ (by omega) (by omega) (fun j hj => ?_) (fun j hj => ?_)
      · by_cases e1 : j = 47 + i
        · rw [e1, upd_s]; unfold begD; rw [if_neg (by omega), if_neg (by omega), if_neg (by omega), if_neg (by omega), if_neg (by omega), if_pos (by omega), show 47 + i - 47 = i by omega]
        rw [upd_o e1]
        by_cases e2 : j = 41 + i
        · rw [e2, upd_s]; unfold begD; rw [if_neg (by omega), if_neg (by omega), if_neg (by omega), if_neg (by omega), if_pos (by omega), show 41 + i - 41 = i by omega]
        rw [upd_o e2]
        by_cases e3 : j = 35 + i
        · rw [e3, upd_s]; unfold begD; rw [if_neg (by omega), if_neg (by omega), if_neg (by omega), if_pos (by omega), show 35 + i - 35 = i by omega]
        rw [upd_o e3]
        by_cases e4 : j = 11 + 4 * i + 3
        · rw [e4, upd_s]; unfold begD; rw [if_neg (by omega), if_neg (by omega), if_pos (by omega), if_neg (by omega), if_neg (by omega)]
        rw [upd_o e4]
        by_cases e5 : j = 11 + 4 * i + 2
        · rw [e5, upd_s]; unfold begD; rw [if_neg (by omega), if_neg (by omega), if_pos (by omega), if_neg (by omega), if_neg (by omega)]
        rw [upd_o e5]
        by_cases e6 : j = 11 + 4 * i + 1
        · rw [e6, upd_s]; unfold begD; rw [if_neg (by omega), if_neg (by omega), if_pos (by omega), if_neg (by omega), if_pos (by omega), show (11 + 4 * i + 1 - 11) / 4 = i by omega]
        rw [upd_o e6]
        by_cases e7 : j = 11 + 4 * i
        · rw [e7, upd_s]; unfold begD; rw [if_neg (by omega), if_neg (by omega), if_pos (by omega), if_pos (by omega), show (11 + 4 * i - 11) / 4 = i by omega]
        rw [upd_o e7]
        exact h3 j (by omega)
      · simp (disch := omega) only [upd_o]
        exact h4 j hj
  unfold m_begins
  simp only [lt]
  rw [li10, rq_inb (by omega) (by omega), nn_tn (by omega), li0]
  refine l10 6 0 FU _ (by omega) (by unfold FU; omega) (fun j hj => ?_) (fun j hj => ?_)
  · by_cases e : j = 10
    · rw [e, upd_s]; rfl
    · rw [upd_o e, beg_o (by omega)]
  · rw [upd_o (by omega)]
section traj
variable {ru : Option RU} {N B L : Nat} {rg pl : Nat → Nat} {ac : Nat → Bool}
theorem mins_app : ∀ (a b : Nat) (d : Nat → Int32) (p : Int32), minsS ru N rg pl ac B (a + b) d p = minsS ru N rg pl ac B b (minsS ru N rg pl ac B a d p).1 (minsS ru N rg pl ac B a d p).2
  | 0, b, d, p => by rw [Nat.zero_add]; rfl
  | a + 1, b, d, p => by
    rw [show a + 1 + b = (a + b) + 1 by omega]
    exact mins_app a b _ _
theorem mins_p : ∀ (k : Nat) (d : Nat → Int32) (p q : Int32), (minsS ru N rg pl ac B k d p).1 = (minsS ru N rg pl ac B k d q).1
  | 0, _, _, _ => rfl
  | k + 1, d, p, q => mins_p k _ _ _
theorem mins_last (k : Nat) (d : Nat → Int32) (p : Int32) : (minsS ru N rg pl ac B (k + 1) d p).1 = (minS ru N rg pl ac B (minsS ru N rg pl ac B k d p).1).1 := by
  rw [mins_app k 1 d p]; rfl
end traj
/-- the fair behind k minutes -/
def tjD (ru : Option RU) (N B : Nat) (rg pl : Nat → Nat) (d : Nat → Int32) (k : Nat) : Nat → Int32 := (minsS ru N rg pl acA B k d (nn 0)).1
theorem tj_s {ru : Option RU} {N B : Nat} {rg pl : Nat → Nat} {d : Nat → Int32} (k : Nat) : (minS ru N rg pl acA B (tjD ru N B rg pl d k)).1 = tjD ru N B rg pl d (k + 1) := (mins_last k d (nn 0)).symm
/-- a note: minute, stall, till -/
abbrev Nt : Type := Nat × Nat × Int32
def nsB (ru : Option RU) (N B : Nat) (rg pl : Nat → Nat) (d : Nat → Int32) (x : Nt) : Bool := decide (tjD ru N B rg pl d (x.1 + 1) (11 + 4 * x.2.1 + 2) = x.2.2)
def allB (p : Nat → Bool) : Nat → Nat → Bool
  | 0, _ => true
  | k + 1, i => if p i = true then allB p k (i + 1) else false
theorem allB_s (p : Nat → Bool) (k i : Nat) : allB p (k + 1) i = if p i = true then allB p k (i + 1) else false := rfl
theorem allB_iff {p : Nat → Bool} : ∀ k i, (allB p k i = true ↔ ∀ j, i ≤ j → j < i + k → p j = true)
  | 0, i => ⟨fun _ j h1 h2 => by omega, fun _ => rfl⟩
  | k + 1, i => by
    unfold allB
    by_cases e : p i = true
    · rw [if_pos e, allB_iff k (i + 1)]
      constructor
      · intro h j h1 h2
        by_cases e2 : j = i
        · rw [e2]; exact e
        · exact h j (by omega) (by omega)
      · intro h j h1 h2; exact h j (by omega) (by omega)
    · rw [if_neg e]
      constructor
      · intro h; cases h
      · intro h; exact absurd (h i (by omega) (by omega)) e
/-- notes as the reference has them -/
def nrR (N n : Nat) (nr : Nat → Nt) (d : Nat → Int32) : Prop := n ≤ 10 ∧ d 155 = nn n ∧ ∀ i, i < n → (nr i).1 ≤ 60 ∧ (nr i).2.1 < N ∧ d (125 + 3 * i) = nn (nr i).1 ∧ d (125 + 3 * i + 1) = nn (nr i).2.1 ∧ d (125 + 3 * i + 2) = (nr i).2.2
section mnotes
variable {sign clause clauses : Nat → Int32} {force : Int32} {ru : Option RU} {d : Nat → Int32} {N B L n : Nat} {rg pl : Nat → Nat} {nr : Nat → Nt}
theorem areNotesSo_ev {m : Nat} (hN : N ≤ 6) (hm : m < 1000) (hn : nrR N n nr d) : m_areNotesSo (nn m) d = some (b01 (allB (fun i => decide ((nr i).1 = m → d (11 + 4 * (nr i).2.1 + 2) = (nr i).2.2)) n 0 = true)) := by
  obtain ⟨h10, h155, hv⟩ := hn
  have loop : ∀ (k i f : Nat), i + k = n → k < f → m_areNotesSo_l2 d (nn m) f (nn (3 * i)) = some (b01 (allB (fun i => decide ((nr i).1 = m → d (11 + 4 * (nr i).2.1 + 2) = (nr i).2.2)) k i = true)) := by
    intro k
    induction k with
    | zero =>
      intro i f h1 h2
      match f, h2 with
      | f + 1, _ =>
      unfold m_areNotesSo_l2
      simp only [li155, li3, li1]
      rw [rq_inb (by omega) (by omega), nn_tn (by omega), h155, nn_mul, ifle_t (by omega) (by omega), b01_t]
      rfl
    | succ k ih =>
      intro i f h1 h2
      match f, h2 with
      | f + 1, h2 =>
      obtain ⟨a1, a2, a3, a4, a5⟩ := hv i (by omega)
      unfold m_areNotesSo_l2
      simp only [li155, li3, li125, li1, li2, li0, nn_add]
      rw [rq_inb (by omega) (by omega), nn_tn (by omega), h155, nn_mul, ifle_f (by omega) (by omega), rq_inb (by omega) (by omega), nn_tn (by omega), a3, rq_inb (by omega) (by omega), nn_tn (by omega), a4, tillOf_ev (by omega), bs, rq_inb (by omega) (by omega), nn_tn (by omega), a5, show 3 * i + 3 = 3 * (i + 1) by omega, ih (i + 1) f (by omega) (by omega), allB_s]
      by_cases e1 : (nr i).1 = m
      · rw [ifeq_t e1]
        by_cases e2 : d (11 + 4 * (nr i).2.1 + 2) = (nr i).2.2
        · rw [if_pos e2]
          congr 1
          rw [if_pos (by rw [decide_eq_true_eq]; exact fun _ => e2)]
        · rw [if_neg e2, b01_f]
          rw [if_neg (by rw [decide_eq_true_eq]; exact fun h => e2 (h e1))]; decide
      · rw [ifeq_f e1 (by omega) (by omega)]
        congr 1
        rw [if_pos (by rw [decide_eq_true_eq]; exact fun h => absurd h e1)]
  exact loop n 0 FU (by omega) (by unfold FU; omega)
end mnotes
