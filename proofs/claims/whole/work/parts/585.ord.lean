/-! orders -/
def fI (o : Nat → Nat) : Nat → Nat
  | 0 => 0
  | i + 1 => if o (i + 2) < o (i + 1) then fI o i else i + 1
def fJ (o : Nat → Nat) (i : Nat) : Nat → Nat
  | 0 => 0
  | j + 1 => if o (j + 1) < o i then fJ o i j else j + 1
def swp (o : Nat → Nat) (a b : Nat) : Nat → Nat := fun k => if k = b then o a else if k = a then o b else o k
def rvL : Nat → Nat → Nat → (Nat → Nat) → (Nat → Nat)
  | 0, _, _, o => o
  | f + 1, lo, hi, o => if lo < hi then rvL f (lo + 1) (hi - 1) (swp o lo hi) else o
def nextO (N : Nat) (o : Nat → Nat) : Option (Nat → Nat) := if fI o (N - 2) = 0 then none else some (rvL 6 (fI o (N - 2) + 1) (N - 1) (swp o (fI o (N - 2)) (fJ o (fI o (N - 2)) (N - 1))))
/-- a row holds an order -/
def orR (N : Nat) (o : Nat → Nat) (w : Nat → Int32) : Prop := ∀ k, k < N → w k = nn (o k) ∧ o k < 6
theorem fI_le (o : Nat → Nat) : ∀ i, fI o i ≤ i
  | 0 => Nat.le_refl _
  | i + 1 => by unfold fI; split; exact Nat.le_succ_of_le (fI_le o i); exact Nat.le_refl _
theorem fJ_le (o : Nat → Nat) (i : Nat) : ∀ j, fJ o i j ≤ j
  | 0 => Nat.le_refl _
  | j + 1 => by unfold fJ; split; exact Nat.le_succ_of_le (fJ_le o i j); exact Nat.le_refl _
theorem orR_swp {N a b : Nat} {o : Nat → Nat} {w : Nat → Int32} (h : orR N o w) (ha : a < N) (hb : b < N) : orR N (swp o a b) (upd (upd w a (w b)) b (w a)) := by
  intro k hk
  unfold swp
  by_cases e1 : k = b
  · subst e1; rw [upd_s, if_pos rfl]; exact h a ha
  · rw [upd_o e1, if_neg e1]
    by_cases e2 : k = a
    · subst e2; rw [upd_s, if_pos rfl]; exact h b hb
    · rw [upd_o e2, if_neg e2]; exact h k hk
section ord
variable {N : Nat} {d : Nat → Int32}
theorem m_swap_ev {a b : Nat} {w : Nat → Int32} (ha : a < 6) (hb : b < 6) : m_swapsOrder (nn a) (nn b) w = some (upd (upd w a (w b)) b (w a)) := by
  unfold m_swapsOrder
  simp only [lt]
  rw [rq_inb (by omega) (by omega), rq_inb (by omega) (by omega), rq_inb (by omega) (by omega), rq_inb (by omega) (by omega), nn_tn (by omega), nn_tn (by omega)]
theorem m_rv_ev {z : Nat → Int32} (hN : N ≤ 6) : ∀ (f lo hi n : Nat) (o : Nat → Nat) (w : Nat → Int32), hi < N → lo + f < 1000 → hi - lo < f → f < n → orR N o w → ∃ w', m_nextOrder_l94 z n (nn lo) (nn hi) w = some (nn 1, w') ∧ orR N (rvL f lo hi o) w' := by
  intro f
  induction f with
  | zero => intro lo hi n o w h1 h0 h2 h3 h4; exfalso; omega
  | succ f ih =>
    intro lo hi n o w h1 h0 h2 h3 h4
    match n, h3 with
    | n + 1, h3 =>
    unfold m_nextOrder_l94 rvL
    by_cases e : lo < hi
    · have em : nn hi + (-1 : Int32) = nn (hi - 1) := by rw [li1, nn_m1 (by omega) (by omega)]
      rw [ifle_f e (by omega), if_pos e, m_swap_ev (by omega) (by omega), bs, em, li1, nn_add]
      exact ih (lo + 1) (hi - 1) n _ _ (by omega) (by omega) (by omega) (by omega) (orR_swp h4 (by omega) h1)
    · rw [if_neg e]
      rw [ifle_t (by omega) (by omega), li1]
      exact ⟨w, rfl, h4⟩
theorem m_J_ev (hN : N ≤ 6) {o : Nat → Nat} {w : Nat → Int32} (ho : orR N o w) {i : Nat} (hi : i < N) (h3 : d 3 = nn N) : ∀ (j n : Nat), i ≤ j → j < N → j - i < n → 1 ≤ i →
    ∃ w', m_nextOrder_l53 d w (nn i) n (nn j) = some (nn 1, w') ∧ orR N (rvL 6 (i + 1) (N - 1) (swp o i (fJ o i j))) w' := by
  have fin : ∀ j, j < N → ∃ w', ((m_swapsOrder (nn i) (nn j) w).bind (fun q => m_nextOrder_l94 d FU (nn (i + 1)) (nn (N - 1)) q)) = some (nn 1, w') ∧ orR N (rvL 6 (i + 1) (N - 1) (swp o i j)) w' := by
    intro j hj
    rw [m_swap_ev (by omega) (by omega), bs]
    exact m_rv_ev hN 6 (i + 1) (N - 1) FU _ _ (by omega) (by omega) (by omega) (by unfold FU; omega) (orR_swp ho hi hj)
  have eN : nn N - nn 1 = nn (N - 1) := nn_sub (by omega) (by omega)
  intro j
  induction j with
  | zero => intro n h1 h2 h4 h5; omega
  | succ j ih =>
    intro n h1 h2 h4 h5
    match n, h4 with
    | n + 1, h4 =>
    have em : nn (j + 1) + (-1 : Int32) = nn j := by rw [li1, nn_m1 (by omega) (by omega), Nat.add_sub_cancel]
    have h6 := ho i hi
    have h7 := ho (j + 1) h2
    unfold m_nextOrder_l53 fJ
    rw [rq_inb (by omega) (by omega), rq_inb (by omega) (by omega), nn_tn (by omega), nn_tn (by omega), h6.1, h7.1, em]
    simp only [lt, li1, li3, rq_inb (show 3 < 156 by omega) (show 156 < 2147483648 by omega), nn_tn (show 3 < 2147483648 by omega), h3, nn_add, eN]
    by_cases e : o (j + 1) < o i
    · rw [ifle_f e (by omega), if_pos e]
      have hne : i ≠ j + 1 := fun e2 => by rw [e2] at e; exact Nat.lt_irrefl _ e
      exact ih n (by omega) (by omega) (by omega) h5
    · rw [ifle_t (by omega) (by omega), if_neg e]
      exact fin (j + 1) h2
theorem m_next_ev (hN : N ≤ 6) {o : Nat → Nat} {w : Nat → Int32} (ho : orR N o w) (h3 : d 3 = nn N) :
    (nextO N o = none ∧ m_nextOrder d w = some (nn 0, w)) ∨ (∃ o' w', nextO N o = some o' ∧ m_nextOrder d w = some (nn 1, w') ∧ orR N o' w') := by
  have loop : ∀ (i n : Nat), i + 1 < N → i < n → (fI o i = 0 ∧ m_nextOrder_l9 d w n (nn i) = some (nn 0, w)) ∨ (¬ fI o i = 0 ∧ ∃ w', m_nextOrder_l9 d w n (nn i) = some (nn 1, w') ∧ orR N (rvL 6 (fI o i + 1) (N - 1) (swp o (fI o i) (fJ o (fI o i) (N - 1)))) w') := by
    intro i
    induction i with
    | zero =>
      intro n h1 h2
      match n, h2 with
      | n + 1, _ =>
      left
      refine ⟨rfl, ?_⟩
      unfold m_nextOrder_l9
      simp only [li0, li1]
      rw [iflt_t (by omega) (by omega), ifle_f (by omega) (by omega)]
    | succ i ih =>
      intro n h1 h2
      match n, h2 with
      | n + 1, h2 =>
      have em : nn (i + 1) + (-1 : Int32) = nn i := by rw [li1, nn_m1 (by omega) (by omega), Nat.add_sub_cancel]
      have h6 := ho (i + 1) (by omega)
      have h7 := ho (i + 2) (by omega)
      have eN : nn N - nn 1 = nn (N - 1) := nn_sub (by omega) (by omega)
      unfold m_nextOrder_l9 fI
      rw [em]
      simp only [lt, li0, li1, li3]
      rw [nn_add]
      rw [iflt_f (by omega) (by omega)]
      rw [rq_inb (by omega) (by omega), rq_inb (by omega) (by omega), nn_tn (by omega), nn_tn (by omega), h6.1, h7.1]
      by_cases e : o (i + 2) < o (i + 1)
      · rw [if_pos e, ifle_f e (by omega)]
        exact ih n (by omega) (by omega)
      · rw [if_neg e, ifle_t (by omega) (by omega)]
        right
        refine ⟨by omega, ?_⟩
        rw [ifle_t (by omega) (by omega), rq_inb (by omega) (by omega), nn_tn (by omega), h3, eN]
        exact m_J_ev hN ho (by omega) h3 (N - 1) FU (by omega) (by omega) (by unfold FU; omega) (by omega)
  unfold m_nextOrder nextO
  simp only [lt, li2]
  rw [li3, rq_inb (by omega) (by omega), nn_tn (by omega), h3]
  by_cases h2 : 2 ≤ N
  · rw [nn_sub h2 (by omega)]
    rcases loop (N - 2) FU (by omega) (by unfold FU; omega) with ⟨h4, h5⟩ | ⟨h4, w', h5, h6⟩
    · left; rw [if_pos h4]; exact ⟨rfl, h5⟩
    · right; rw [if_neg h4]; exact ⟨_, w', rfl, h5, h6⟩
  · left
    have : N - 2 = 0 := by omega
    rw [this]
    refine ⟨if_pos rfl, ?_⟩
    show m_nextOrder_l9 _ _ (4999 + 1) _ = _
    unfold m_nextOrder_l9
    have h8 : N = 0 ∨ N = 1 := by omega
    rcases h8 with h8 | h8 <;> subst h8 <;> rw [if_pos (by decide), if_neg (by decide)] <;> rfl
theorem m_begin_ev (hN : N ≤ 6) (w : Nat → Int32)  : ∃ w', m_beginsOrder w = some w' ∧ orR N (fun k => k) w' := by
  have loop : ∀ (k i n : Nat) (w : Nat → Int32), i + k = 6 → k < n → (∀ j, j < i → w j = nn j) → ∃ w', m_beginsOrder_l2 n (nn i) w = some w' ∧ ∀ j, j < 6 → w' j = nn j := by
    intro k
    induction k with
    | zero =>
      intro i n w h1 h2 h3
      match n, h2 with
      | n + 1, _ =>
      unfold m_beginsOrder_l2
      rw [li6, ifle_t (by omega) (by omega)]
      exact ⟨w, rfl, fun j hj => h3 j (by omega)⟩
    | succ k ih =>
      intro i n w h1 h2 h3
      match n, h2 with
      | n + 1, h2 =>
      unfold m_beginsOrder_l2
      rw [li6, ifle_f (by omega) (by omega), rq_inb (by omega) (by omega), nn_tn (by omega), li1, nn_add]
      refine ih (i + 1) n _ (by omega) (by omega) (fun j hj => ?_)
      by_cases e : j = i
      · rw [e, upd_s]
      · rw [upd_o e]; exact h3 j (by omega)
  obtain ⟨w', h1, h2⟩ := loop 6 0 FU w (by omega) (by unfold FU; omega) (fun j hj => by omega)
  exact ⟨w', h1, fun k hk => ⟨h2 k (by omega), show k < 6 by omega⟩⟩
theorem c_swap_ev {a b : Nat} {w : Nat → Int32} (ha : a < 6) (hb : b < 6) : mOrder_swap (nn a) (nn b) w = some (upd (upd w a (w b)) b (w a)) := by
  unfold mOrder_swap
  simp only [lt]
  rw [rq_inb (by omega) (by omega), rq_inb (by omega) (by omega), rq_inb (by omega) (by omega), rq_inb (by omega) (by omega), nn_tn (by omega), nn_tn (by omega)]
theorem c_rv_ev {z : Int32} (hN : N ≤ 6) : ∀ (f lo hi n : Nat) (o : Nat → Nat) (w : Nat → Int32), hi < N → lo + f < 1000 → hi - lo < f → f < n → orR N o w → ∃ w', mOrder_goOn_l91 z n (nn lo) (nn hi) w = some (nn 1, w') ∧ orR N (rvL f lo hi o) w' := by
  intro f
  induction f with
  | zero => intro lo hi n o w h1 h0 h2 h3 h4; exfalso; omega
  | succ f ih =>
    intro lo hi n o w h1 h0 h2 h3 h4
    match n, h3 with
    | n + 1, h3 =>
    unfold mOrder_goOn_l91 rvL
    by_cases e : lo < hi
    · have em : nn hi + (-1 : Int32) = nn (hi - 1) := by rw [li1, nn_m1 (by omega) (by omega)]
      rw [ifle_f e (by omega), if_pos e, c_swap_ev (by omega) (by omega), bs, em, li1, nn_add]
      exact ih (lo + 1) (hi - 1) n _ _ (by omega) (by omega) (by omega) (by omega) (orR_swp h4 (by omega) h1)
    · rw [if_neg e]
      rw [ifle_t (by omega) (by omega), li1]
      exact ⟨w, rfl, h4⟩
theorem c_J_ev (hN : N ≤ 6) {o : Nat → Nat} {w : Nat → Int32} (ho : orR N o w) {i : Nat} (hi : i < N)  : ∀ (j n : Nat), i ≤ j → j < N → j - i < n → 1 ≤ i →
    ∃ w', mOrder_goOn_l47 w (nn N) (nn i) n (nn j) = some (nn 1, w') ∧ orR N (rvL 6 (i + 1) (N - 1) (swp o i (fJ o i j))) w' := by
  have fin : ∀ j, j < N → ∃ w', ((mOrder_swap (nn i) (nn j) w).bind (fun q => mOrder_goOn_l91 (nn N) FU (nn (i + 1)) (nn (N - 1)) q)) = some (nn 1, w') ∧ orR N (rvL 6 (i + 1) (N - 1) (swp o i j)) w' := by
    intro j hj
    rw [c_swap_ev (by omega) (by omega), bs]
    exact c_rv_ev hN 6 (i + 1) (N - 1) FU _ _ (by omega) (by omega) (by omega) (by unfold FU; omega) (orR_swp ho hi hj)
  have eN : nn N - nn 1 = nn (N - 1) := nn_sub (by omega) (by omega)
  intro j
  induction j with
  | zero => intro n h1 h2 h4 h5; omega
  | succ j ih =>
    intro n h1 h2 h4 h5
    match n, h4 with
    | n + 1, h4 =>
    have em : nn (j + 1) + (-1 : Int32) = nn j := by rw [li1, nn_m1 (by omega) (by omega), Nat.add_sub_cancel]
    have h6 := ho i hi
    have h7 := ho (j + 1) h2
    unfold mOrder_goOn_l47 fJ
    rw [em, li1, nn_add]
    simp only [lt]
    rw [eN]
    by_cases e3 : j + 1 ≤ i
    · have e4 : i = j + 1 := by omega
      rw [ifle_t e3 (by omega), if_neg (by rw [e4]; omega)]
      exact fin (j + 1) h2
    · rw [ifle_f (by omega) (by omega), rq_inb (by omega) (by omega), rq_inb (by omega) (by omega), nn_tn (by omega), nn_tn (by omega), h6.1, h7.1]
      by_cases e : o (j + 1) < o i
      · rw [ifle_f e (by omega), if_pos e]
        exact ih n (by omega) (by omega) (by omega) h5
      · rw [ifle_t (by omega) (by omega), if_neg e]
        exact fin (j + 1) h2
theorem c_next_ev (hN : N ≤ 6) {o : Nat → Nat} {w : Nat → Int32} (ho : orR N o w)  :
    (nextO N o = none ∧ mOrder_goOn w (nn N) = some (nn 0, w)) ∨ (∃ o' w', nextO N o = some o' ∧ mOrder_goOn w (nn N) = some (nn 1, w') ∧ orR N o' w') := by
  have loop : ∀ (i n : Nat), i + 1 < N → i < n → (fI o i = 0 ∧ mOrder_goOn_l7 w (nn N) n (nn i) = some (nn 0, w)) ∨ (¬ fI o i = 0 ∧ ∃ w', mOrder_goOn_l7 w (nn N) n (nn i) = some (nn 1, w') ∧ orR N (rvL 6 (fI o i + 1) (N - 1) (swp o (fI o i) (fJ o (fI o i) (N - 1)))) w') := by
    intro i
    induction i with
    | zero =>
      intro n h1 h2
      match n, h2 with
      | n + 1, _ =>
      left
      refine ⟨rfl, ?_⟩
      unfold mOrder_goOn_l7
      simp only [li0, li1]
      rw [ifle_t (by omega) (by omega), iflt_f (by omega) (by omega)]
    | succ i ih =>
      intro n h1 h2
      match n, h2 with
      | n + 1, h2 =>
      have em : nn (i + 1) + (-1 : Int32) = nn i := by rw [li1, nn_m1 (by omega) (by omega), Nat.add_sub_cancel]
      have h6 := ho (i + 1) (by omega)
      have h7 := ho (i + 2) (by omega)
      have eN : nn N - nn 1 = nn (N - 1) := nn_sub (by omega) (by omega)
      unfold mOrder_goOn_l7 fI
      rw [em]
      simp only [lt, li0, li1, ]
      rw [nn_add]
      rw [ifle_f (by omega) (by omega)]
      rw [rq_inb (by omega) (by omega), rq_inb (by omega) (by omega), nn_tn (by omega), nn_tn (by omega), h6.1, h7.1]
      by_cases e : o (i + 2) < o (i + 1)
      · rw [if_pos e, ifle_f e (by omega)]
        exact ih n (by omega) (by omega)
      · rw [if_neg e, ifle_t (by omega) (by omega)]
        right
        refine ⟨by omega, ?_⟩
        rw [iflt_t (by omega) (by omega), eN]
        exact c_J_ev hN ho (by omega) (N - 1) FU (by omega) (by omega) (by unfold FU; omega) (by omega)
  unfold mOrder_goOn nextO
  simp only [lt, li2]
  
  by_cases h2 : 2 ≤ N
  · rw [nn_sub h2 (by omega)]
    rcases loop (N - 2) FU (by omega) (by unfold FU; omega) with ⟨h4, h5⟩ | ⟨h4, w', h5, h6⟩
    · left; rw [if_pos h4]; exact ⟨rfl, h5⟩
    · right; rw [if_neg h4]; exact ⟨_, w', rfl, h5, h6⟩
  · left
    have : N - 2 = 0 := by omega
    rw [this]
    refine ⟨if_pos rfl, ?_⟩
    show mOrder_goOn_l7 _ _ (4999 + 1) _ = _
    unfold mOrder_goOn_l7
    have h8 : N = 0 ∨ N = 1 := by omega
    rcases h8 with h8 | h8 <;> subst h8 <;> rw [if_pos (by decide), if_neg (by decide)] <;> rfl
theorem c_begin_ev (hN : N ≤ 6) (w : Nat → Int32) (sz : Int32) : ∃ w', mOrder_begin (nn N) w sz = some (w', nn N) ∧ orR N (fun k => k) w' := by
  have loop : ∀ (k i n : Nat) (w : Nat → Int32), i + k = N → k < n → (∀ j, j < i → w j = nn j) → ∃ w', mOrder_begin_l12 (nn N) n (nn i) w = some (w', nn N) ∧ ∀ j, j < N → w' j = nn j := by
    intro k
    induction k with
    | zero =>
      intro i n w h1 h2 h3
      match n, h2 with
      | n + 1, _ =>
      unfold mOrder_begin_l12
      rw [ifle_t (by omega) (by omega)]
      exact ⟨w, rfl, fun j hj => h3 j (by omega)⟩
    | succ k ih =>
      intro i n w h1 h2 h3
      match n, h2 with
      | n + 1, h2 =>
      unfold mOrder_begin_l12
      rw [ifle_f (by omega) (by omega), rq_inb (by omega) (by omega), nn_tn (by omega), li1, nn_add]
      refine ih (i + 1) n _ (by omega) (by omega) (fun j hj => ?_)
      by_cases e : j = i
      · rw [e, upd_s]
      · rw [upd_o e]; exact h3 j (by omega)
  obtain ⟨w', h1, h2⟩ := loop N 0 FU w (by omega) (by unfold FU; omega) (fun j hj => by omega)
  unfold mOrder_begin
  rw [li6, iflt_f (by omega) (by omega), lt, li0]
  exact ⟨w', h1, fun k hk => ⟨h2 k (by omega), show k < 6 by omega⟩⟩
theorem copyOrder_ev {o : Nat → Nat} {w : Nat → Int32} (w0 : Nat → Int32) (s0 sz : Int32) (hN : N ≤ 6) (h : orR N o w) : ∃ w', mOrder_copyFrom w0 s0 w sz = some (w', sz) ∧ orR N o w' :=
  ⟨_, rfl, fun k hk => by show va_cpy w w0 0 0 6 k = _ ∧ _; rw [cpy_lt (by omega)]; exact h k hk⟩
theorem keepsOrder_ev {w : Nat → Int32} (w0 : Nat → Int32) : ∃ w', m_keepsOrder w w0 = some w' ∧ ∀ k, k < 6 → w' k = w k := by
  have loop : ∀ (k i n : Nat) (u : Nat → Int32), i + k = 6 → k < n → (∀ j, j < i → u j = w j) → ∃ w', m_keepsOrder_l2 w n (nn i) u = some w' ∧ ∀ j, j < 6 → w' j = w j := by
    intro k
    induction k with
    | zero =>
      intro i n u h1 h2 h3
      match n, h2 with
      | n + 1, _ =>
      unfold m_keepsOrder_l2
      rw [li6, ifle_t (by omega) (by omega)]
      exact ⟨u, rfl, fun j hj => h3 j (by omega)⟩
    | succ k ih =>
      intro i n u h1 h2 h3
      match n, h2 with
      | n + 1, h2 =>
      unfold m_keepsOrder_l2
      rw [li6, ifle_f (by omega) (by omega), rq_inb (by omega) (by omega), rq_inb (by omega) (by omega), nn_tn (by omega), li1, nn_add]
      refine ih (i + 1) n _ (by omega) (by omega) (fun j hj => ?_)
      by_cases e : j = i
      · rw [e, upd_s]
      · rw [upd_o e]; exact h3 j (by omega)
  exact loop 6 0 FU w0 (by omega) (by unfold FU; omega) (fun j hj => by omega)
/-- the ring as an order says -/
def stdD (N : Nat) (o : Nat → Nat) (d : Nat → Int32) : Nat → Int32 := fun k => if 35 ≤ k ∧ k < 35 + N then nn (o (k - 35)) else d k
theorem stands_ev {o : Nat → Nat} {w : Nat → Int32} (hN : N ≤ 6) (h : orR N o w) (h3 : d 3 = nn N) : m_standsAsOrder d w = some (stdD N o d) := by
  have loop : ∀ (k i n : Nat) (u : Nat → Int32), i + k = N → k < n → u 3 = nn N → (∀ j, 35 + i ≤ j ∨ j < 35 → u j = d j) → (∀ j, j < i → u (35 + j) = nn (o j)) → m_standsAsOrder_l2 w n (nn i) u = some (stdD N o d) := by
    intro k
    induction k with
    | zero =>
      intro i n u h1 h2 h3 h4 h5
      match n, h2 with
      | n + 1, _ =>
      unfold m_standsAsOrder_l2
      rw [li3, rq_inb (by omega) (by omega), nn_tn (by omega), h3, ifle_t (by omega) (by omega)]
      congr 1
      funext j
      unfold stdD
      by_cases e : 35 ≤ j ∧ j < 35 + N
      · rw [if_pos e]
        have := h5 (j - 35) (by omega)
        rw [show 35 + (j - 35) = j by omega] at this
        exact this
      · rw [if_neg e]; exact h4 j (by omega)
    | succ k ih =>
      intro i n u h1 h2 h3 h4 h5
      match n, h2 with
      | n + 1, h2 =>
      unfold m_standsAsOrder_l2
      rw [li3, rq_inb (by omega) (by omega), nn_tn (by omega), h3, ifle_f (by omega) (by omega), li35, li1, nn_add, nn_add, rq_inb (by omega) (by omega), rq_inb (by omega) (by omega), nn_tn (by omega), nn_tn (by omega), (h i (by omega)).1]
      refine ih (i + 1) n _ (by omega) (by omega) (by rw [upd_o (by omega), h3]) (fun j hj => ?_) (fun j hj => ?_)
      · rw [upd_o (by omega)]; exact h4 j (by omega)
      · by_cases e : j = i
        · rw [e, upd_s]
        · rw [upd_o (by omega)]; exact h5 j (by omega)
  exact loop N 0 FU d (by omega) (by unfold FU; omega) h3 (fun j _ => rfl) (fun j hj => by omega)
end ord
