/-! a note is added -/
def insN (nc : Nat → Nt) (k : Nat) (v : Nt) : Nat → Nt := fun i => if i < k then nc i else if i = k then v else nc (i - 1)
theorem insN_lo {nc : Nat → Nt} {k i : Nat} {v : Nt} (h : i < k) : insN nc k v i = nc i := if_pos h
theorem insN_at {nc : Nat → Nt} {k : Nat} {v : Nt} : insN nc k v k = v := by unfold insN; rw [if_neg (by omega), if_pos rfl]
theorem insN_hi {nc : Nat → Nt} {k i : Nat} {v : Nt} (h : k < i) : insN nc k v i = nc (i - 1) := by unfold insN; rw [if_neg (by omega), if_neg (by omega)]
section addn
variable {n m s : Nat} {x3 : Int32} {nc : Nat → Nt}
theorem put_ev (hn : n < 10) {k : Nat} (hk : k ≤ n) {g : tyNotes} (hg : g.2.2.2 = nn n) (hlo : ∀ i, i < k → g.1 i = nn (nc i).1 ∧ g.2.1 i = nn (nc i).2.1 ∧ g.2.2.1 i = (nc i).2.2) (hhi : ∀ i, k < i → i ≤ n → g.1 i = nn (nc (i - 1)).1 ∧ g.2.1 i = nn (nc (i - 1)).2.1 ∧ g.2.2.1 i = (nc (i - 1)).2.2) :
    ∀ i, i < n + 1 → upd g.1 k (nn m) i = nn (insN nc k (m, s, x3) i).1 ∧ upd g.2.1 k (nn s) i = nn (insN nc k (m, s, x3) i).2.1 ∧ upd g.2.2.1 k x3 i = (insN nc k (m, s, x3) i).2.2 := by
  intro i hi
  by_cases e : i = k
  · subst e
    rw [insN_at, upd_s, upd_s, upd_s]
    exact ⟨rfl, rfl, rfl⟩
  · rw [upd_o e, upd_o e, upd_o e]
    by_cases e2 : i < k
    · rw [insN_lo e2]; exact hlo i e2
    · rw [insN_hi (by omega)]; exact hhi i (by omega) (by omega)
theorem add_l16_ev (hn : n < 10) (hm : m ≤ 60) (hc : ∀ i, i < n → (nc i).1 ≤ 60) (hs : ∀ i j, i ≤ j → j < n → (nc i).1 ≤ (nc j).1) : ∀ (k f : Nat) (g : tyNotes), k ≤ n → k < f → g.2.2.2 = nn n →
    (∀ i, i < k → g.1 i = nn (nc i).1 ∧ g.2.1 i = nn (nc i).2.1 ∧ g.2.2.1 i = (nc i).2.2) → (∀ i, k < i → i ≤ n → g.1 i = nn (nc (i - 1)).1 ∧ g.2.1 i = nn (nc (i - 1)).2.1 ∧ g.2.2.1 i = (nc (i - 1)).2.2) → (∀ i, k ≤ i → i < n → m < (nc i).1) →
    ∃ k0 g', k0 ≤ n ∧ mNotes_add_l16 (nn m) (nn s) x3 f (nn k) g = some g' ∧ g'.2.2.2 = nn (n + 1) ∧ (∀ i, i < n + 1 → g'.1 i = nn (insN nc k0 (m, s, x3) i).1 ∧ g'.2.1 i = nn (insN nc k0 (m, s, x3) i).2.1 ∧ g'.2.2.1 i = (insN nc k0 (m, s, x3) i).2.2) ∧ (∀ i, i < k0 → (nc i).1 ≤ m) ∧ (∀ i, k0 ≤ i → i < n → m < (nc i).1) := by
  intro k
  induction k with
  | zero =>
    intro f g hk hf hg hlo hhi hgt
    match f, hf with
    | f + 1, _ =>
      rw [mNotes_add_l16, li0, ifle_t (by omega) (by omega), rq_inb (by omega) (by omega), ltp, rq_inb (by omega) (by omega), ltp, rq_inb (by omega) (by omega), ltp, ltp, nn_tn (by omega), hg, li1, nn_add]
      exact ⟨0, _, by omega, rfl, rfl, put_ev hn hk hg hlo hhi, fun i hi => by omega, hgt⟩
  | succ k ih =>
    intro f g hk hf hg hlo hhi hgt
    match f, hf with
    | f + 1, hf =>
      rw [mNotes_add_l16, li0, ifle_f (by omega) (by omega), li1, nn_sub (by omega) (by omega), Nat.add_sub_cancel, rq_inb (by omega) (by omega), nn_tn (show k < 2147483648 by omega), (hlo k (by omega)).1]
      by_cases e : (nc k).1 ≤ m
      · rw [ifle_t e (by omega), rq_inb (by omega) (by omega), ltp, rq_inb (by omega) (by omega), ltp, rq_inb (by omega) (by omega), ltp, ltp, nn_tn (by omega), hg, nn_add]
        exact ⟨k + 1, _, by omega, rfl, rfl, put_ev hn hk hg hlo hhi, fun i hi => Nat.le_trans (hs i k (by omega) (by omega)) e, hgt⟩
      · rw [ifle_f (by omega) (by have := hc k (by omega); omega), rq_inb (by omega) (by omega), rq_inb (by omega) (by omega), ltp, rq_inb (by omega) (by omega), rq_inb (by omega) (by omega), ltp, rq_inb (by omega) (by omega), rq_inb (by omega) (by omega), ltp, nn_m1 (by omega) (by omega), Nat.add_sub_cancel, nn_tn (by omega)]
        refine ih f _ (by omega) (by omega) hg (fun i hi => ?_) (fun i hi hi2 => ?_) (fun i hi hi2 => ?_)
        · dsimp only
          rw [upd_o (by omega), upd_o (by omega), upd_o (by omega)]
          exact hlo i (by omega)
        · dsimp only
          by_cases e2 : i = k + 1
          · subst e2
            rw [upd_s, upd_s, upd_s, Nat.add_sub_cancel]
            exact ⟨rfl, (hlo k (by omega)).2.1, (hlo k (by omega)).2.2⟩
          · rw [upd_o e2, upd_o e2, upd_o e2]
            exact hhi i (by omega) hi2
        · by_cases e2 : i = k
          · subst e2; omega
          · exact hgt i (by omega) hi2
end addn
