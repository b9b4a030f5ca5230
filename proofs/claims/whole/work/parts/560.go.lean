/-! the class goes on: it stops trading once nothing was bought and nothing will be -/
section quiet
variable {ru : Option RU} {N B L : Nat} {rg pl : Nat → Nat} {ac : Nat → Bool} {d d2 : Nat → Int32} {b s : Nat}
/-- prices -/
def prR (N : Nat) (d : Nat → Int32) : Prop := ∀ s, s < N → ∃ k, 1 ≤ k ∧ k ≤ 40 ∧ d (11 + 4 * s + 1) = nn k
theorem prR_buy (h : prR N d) (hr : rOK N rg pl) (hN : N ≤ 6) (hs : s < N) (hb : b < 6) : prR N (buyD N rg pl d b s) := by
  intro q hq
  rw [buyD_1 hr hN hs hb (by omega)]
  exact h q hq
theorem trS_ge (hr : rOK N rg pl) (hN : N ≤ 6) : ∀ (k b m : Nat) (d : Nat → Int32), prR N d → b + k ≤ 6 → ∃ m', (trS ru N rg pl ac k b d (nn m)).2 = nn m' ∧ m ≤ m' ∧ m' ≤ m + 40 * k
  | 0, _, m, _, _, _ => ⟨m, rfl, by omega, by omega⟩
  | k + 1, b, m, d, hp, hb => by
    unfold trS
    split
    · obtain ⟨m', h1, h2, h3⟩ := trS_ge hr hN k (b + 1) m d hp (by omega)
      exact ⟨m', h1, h2, by omega⟩
    · rename_i s hs
      have hs' : s < N := by
        split at hs
        · exact pick_lt hs
        · cases hs
      obtain ⟨q, hq1, hq2, hq⟩ := hp s hs'
      rw [hq, nn_add]
      obtain ⟨m', h1, h2, h3⟩ := trS_ge hr hN k (b + 1) (m + q) _ (prR_buy hp hr hN hs' (show b < 6 by omega)) (by omega)
      exact ⟨m', h1, by omega, by omega⟩
theorem trS_zero (hr : rOK N rg pl) (hN : N ≤ 6) : ∀ (k b : Nat) (d : Nat → Int32), prR N d → b + k ≤ 6 → (trS ru N rg pl ac k b d (nn 0)).2 = nn 0 → trS ru N rg pl ac k b d (nn 0) = (d, nn 0) ∧ ∀ b', b ≤ b' → b' < b + k → ac b' = true → pick ru N rg pl d b' = none
  | 0, _, _, _, _, _ => ⟨rfl, fun b' h1 h2 => by omega⟩
  | k + 1, b, d, hp, hb, h => by
    unfold trS at h ⊢
    split at h
    · rename_i hn
      obtain ⟨h1, h2⟩ := trS_zero hr hN k (b + 1) d hp (by omega) h
      refine ⟨h1, fun b' h3 h4 h5 => ?_⟩
      by_cases e : b' = b
      · subst e; rw [if_pos h5] at hn; exact hn
      · exact h2 b' (by omega) (by omega) h5
    · rename_i s hs
      have hs' : s < N := by
        split at hs
        · exact pick_lt hs
        · cases hs
      obtain ⟨q, hq1, hq2, hq⟩ := hp s hs'
      rw [hq, nn_add] at h
      obtain ⟨m', h1, h2, h3⟩ := trS_ge (ru := ru) (ac := ac) hr hN k (b + 1) (0 + q) _ (prR_buy hp hr hN hs' (show b < 6 by omega)) (by omega)
      rw [h1, nn_inj (by omega) (by omega)] at h
      omega
theorem trS_quiet : ∀ (k b : Nat) (p : Int32), (∀ b', b ≤ b' → b' < b + k → ac b' = true → pick ru N rg pl d b' = none) → trS ru N rg pl ac k b d p = (d, p)
  | 0, _, _, _ => rfl
  | k + 1, b, p, h => by
    have e : (if ac b = true then pick ru N rg pl d b else none) = none := by
      split
      · rename_i h1; exact h b (by omega) (by omega) h1
      · rfl
    unfold trS
    rw [e]
    exact trS_quiet k (b + 1) p (fun b' h1 h2 => h b' (by omega) (by omega))
theorem chS_none {can : Nat → Bool} {w : Nat → Int64} : ∀ (k s : Nat) (o : Option Nat) (m : Int64), (∀ t, s ≤ t → t < s + k → can t = false) → chS can w k s o m = o
  | 0, _, _, _, _ => rfl
  | k + 1, s, o, m, h => by
    unfold chS
    rw [if_neg (by rw [h s (by omega) (by omega)]; decide)]
    exact chS_none k (s + 1) o m (fun t h1 h2 => h t (by omega) (by omega))
theorem chS_congr {can can' : Nat → Bool} {w w' : Nat → Int64} : ∀ (k s : Nat) (o : Option Nat) (m : Int64), (∀ t, s ≤ t → t < s + k → can t = can' t ∧ w t = w' t) → chS can w k s o m = chS can' w' k s o m
  | 0, _, _, _, _ => rfl
  | k + 1, s, o, m, h => by
    have h0 := h s (by omega) (by omega)
    unfold chS
    rw [h0.1, h0.2, chS_congr k (s + 1) (some s) _ (fun t h1 h2 => h t (by omega) (by omega)), chS_congr k (s + 1) o m (fun t h1 h2 => h t (by omega) (by omega))]
theorem tEq.refl : tEq d d := fun _ _ _ => rfl
theorem tEq.symm (h : tEq d d2) : tEq d2 d := fun k h1 h2 => (h k h1 h2).symm
theorem tEq.trans {d3 : Nat → Int32} (h : tEq d d2) (h' : tEq d2 d3) : tEq d d3 := fun k h1 h2 => (h' k h1 h2).trans (h k h1 h2)
theorem cnS_tEq (h : tEq d d2) (hs : s < 6) (hb : b < 6) : cnS d2 b s = cnS d b s := by
  unfold cnS
  rw [h _ (by omega) (by omega), h _ (by omega) (by omega), h _ (by omega) (by omega)]
theorem pr_tEq (h : tEq d d2) (hr : rOK N rg pl) (hN : N ≤ 6) (hs : s < N) : prS N rg pl d2 s = prS N rg pl d s ∧ brS N rg pl d2 s = brS N rg pl d s :=
  prS_congr hr hs (fun k hk => ⟨h _ (by omega) (by omega), h _ (by omega) (by omega)⟩)
theorem runL_congr2 {pg : Nat → Nat × Nat} {wd wd' : Nat → Int64} : ∀ (k p : Nat) (l : List Int64), (∀ i, p ≤ i → i < p + k → (pg i).1 = 1 → wd (pg i).2 = wd' (pg i).2) → runL pg wd k p l = runL pg wd' k p l
  | 0, _, _, _ => rfl
  | k + 1, p, l, h => by
    show runL pg wd k (p + 1) (ev1 wd (pg p) l) = runL pg wd' k (p + 1) (ev1 wd' (pg p) l)
    have : ev1 wd (pg p) l = ev1 wd' (pg p) l := by
      unfold ev1
      by_cases e : (pg p).1 = 1
      · rw [h p (by omega) (by omega) e]
      · rw [if_neg e, if_neg e]
    rw [this]
    exact runL_congr2 k (p + 1) _ (fun i h1 h2 => h i (by omega) (by omega))
theorem smL_congr2 {r : RU} {len : Nat} {wd wd' : Nat → Int64} (hr : ruOK r len) (hw : ∀ i, i < len → (r.2.2.2.2 i).1 = 1 → wd (r.2.2.2.2 i).2 = wd' (r.2.2.2.2 i).2) : ∀ (k c : Nat), c + k = r.1 → smL r wd k c = smL r wd' k c
  | 0, _, _ => rfl
  | k + 1, c, h => by
    have h1 := hr.2.2.2 c (by omega)
    unfold smL
    have ea : runP r.2.2.2.2 wd (r.2.1 c) (r.2.2.1 c) = runP r.2.2.2.2 wd' (r.2.1 c) (r.2.2.1 c) := congrArg hd0 (runL_congr2 _ _ _ (fun i h2 h3 => hw i (by omega)))
    have eb : runP r.2.2.2.2 wd (r.2.2.1 c) (r.2.2.2.1 c) = runP r.2.2.2.2 wd' (r.2.2.1 c) (r.2.2.2.1 c) := congrArg hd0 (runL_congr2 _ _ _ (fun i h2 h3 => hw i (by omega)))
    rw [ea, eb, smL_congr2 hr hw k (c + 1) (by omega)]
/-- a rule that doesn't read the time says the same at another time -/
def noTime (ru : Option RU) : Prop := match ru with | none => True | some r => ∃ len, ruOK r len ∧ ∀ i, i < len → (r.2.2.2.2 i).1 = 1 → (r.2.2.2.2 i).2 < 10
theorem wS_tEq (hq : noTime ru) (h : tEq d d2) (hr : rOK N rg pl) (hN : N ≤ 6) (hs : s < N) (hb : b < 6) : wS ru N rg pl d2 b s = wS ru N rg pl d b s := by
  have hp := pr_tEq h hr hN hs
  match ru, hq with
  | none, _ =>
    unfold wS
    rw [hp.1, h _ (by omega) (by omega)]
  | some r, ⟨len, h1, h2⟩ =>
    show smL r _ _ _ = smL r _ _ _
    refine smL_congr2 h1 (fun i hi h3 => ?_) r.1 0 (by omega)
    have h4 := h2 i hi h3
    have h5 : ∀ k, k < 10 → wdS N rg pl d2 b s k = wdS N rg pl d b s k := by
      intro k hk
      unfold wdS
      rw [hp.1, hp.2, h (47 + b) (by omega) (by omega), h (11 + 4 * s + 1) (by omega) (by omega), h (95 + b) (by omega) (by omega), h (11 + 4 * s) (by omega) (by omega), h (101 + s) (by omega) (by omega), h (53 + 6 * b + s) (by omega) (by omega)]
      have : k = 0 ∨ k = 1 ∨ k = 2 ∨ k = 3 ∨ k = 4 ∨ k = 5 ∨ k = 6 ∨ k = 7 ∨ k = 8 ∨ k = 9 := by omega
      rcases this with h | h | h | h | h | h | h | h | h | h <;> subst h <;> simp
    exact h5 _ h4
/-- nothing is bought, now and at any later minute -/
def Qt (ru : Option RU) (N : Nat) (rg pl : Nat → Nat) (ac : Nat → Bool) (B : Nat) (d : Nat → Int32) : Prop := ∀ d2, tEq d d2 → ∀ b, b < B → ac b = true → pick ru N rg pl d2 b = none
theorem Qt.min (h : Qt ru N rg pl ac B d) : minS ru N rg pl ac B d = (clsD N rg pl d, nn 0) := by
  unfold minS
  rw [trS_quiet B 0 (nn 0) (fun b' _ h2 h3 => h d tEq.refl b' (by omega) h3)]
theorem Qt.mono (h : Qt ru N rg pl ac B d) (h2 : tEq d d2) : Qt ru N rg pl ac B d2 := fun d3 h3 b hb ha => h d3 (h2.trans h3) b hb ha
theorem Qt.of (hr : rOK N rg pl) (hN : N ≤ 6) (hB : B ≤ 6) (hn : ∀ b, b < B → ac b = true → pick ru N rg pl d b = none) (h : noTime ru ∨ ∀ b s, b < B → s < N → cnS d b s = false) : Qt ru N rg pl ac B d := by
  intro d2 he b hb ha
  rcases h with h | h
  · rw [← hn b hb ha]
    unfold pick
    exact chS_congr N 0 none 0 (fun t h1 h2 => ⟨cnS_tEq he (by omega) (by omega), wS_tEq h he hr hN (by omega) (by omega)⟩)
  · exact chS_none N 0 none 0 (fun t h1 h2 => by rw [cnS_tEq he (by omega) (by omega)]; exact h b t hb (by omega))
end quiet
