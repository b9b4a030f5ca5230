/-! the orders one behind the other: by computation, there are at most 120 -/
def mkO (l : List Nat) : Nat → Nat := fun k => l.getD k 0
def tkO (N : Nat) (o : Nat → Nat) : List Nat := (List.range N).map o
def ixO (l : List Nat) (v : Nat) : Nat := l.findIdx (fun x => x == v)
/-- each number once -/
def pmO (N : Nat) (l : List Nat) : Bool := (List.range N).all (fun k => decide (mkO l k < N) && decide (ixO l k < N) && decide (ixO l (mkO l k) = k) && decide (mkO l (ixO l k) = k)) && decide (1 ≤ N → mkO l 0 = 0)
def gOn (N : Nat) : Nat → List Nat → Bool
  | 0, _ => false
  | f + 1, l => pmO N l && (match nextO N (mkO l) with | none => true | some o' => gOn N f (tkO N o'))
theorem gOn_start : ∀ N, N ≤ 6 → gOn N 120 (List.range N) = true := by
  intro N h
  have : N = 0 ∨ N = 1 ∨ N = 2 ∨ N = 3 ∨ N = 4 ∨ N = 5 ∨ N = 6 := by omega
  rcases this with h | h | h | h | h | h | h <;> subst h <;> decide +kernel
theorem tkO_at {N k : Nat} {o : Nat → Nat} (h : k < N) : mkO (tkO N o) k = o k := by
  unfold mkO tkO
  rw [List.getD_eq_getElem?_getD, List.getElem?_map, List.getElem?_range h]
  rfl
theorem fI_congr {N : Nat} {o o' : Nat → Nat} (h : ∀ k, k < N → o k = o' k) : ∀ i, i + 1 < N ∨ i = 0 → fI o i = fI o' i
  | 0, _ => rfl
  | i + 1, hi => by
    unfold fI
    rw [h (i + 2) (by omega), h (i + 1) (by omega), fI_congr h i (by omega)]
theorem fJ_congr {N : Nat} {o o' : Nat → Nat} {i : Nat} (h : ∀ k, k < N → o k = o' k) (hi : i < N) : ∀ j, j < N → fJ o i j = fJ o' i j
  | 0, _ => rfl
  | j + 1, hj => by
    unfold fJ
    rw [h (j + 1) hj, h i hi, fJ_congr h hi j (by omega)]
theorem swp_congr {N : Nat} {o o' : Nat → Nat} {a b : Nat} (h : ∀ k, k < N → o k = o' k) (ha : a < N) (hb : b < N) : ∀ k, k < N → swp o a b k = swp o' a b k := by
  intro k hk
  unfold swp
  rw [h a ha, h b hb, h k hk]
theorem rvL_congr {N : Nat} : ∀ (f lo hi : Nat) (o o' : Nat → Nat), hi < N → (∀ k, k < N → o k = o' k) → ∀ k, k < N → rvL f lo hi o k = rvL f lo hi o' k
  | 0, _, _, _, _, _, h, k, hk => h k hk
  | f + 1, lo, hi, o, o', hN, h, k, hk => by
    unfold rvL
    by_cases e : lo < hi
    · rw [if_pos e, if_pos e]
      exact rvL_congr f (lo + 1) (hi - 1) _ _ (by omega) (swp_congr h (by omega) hN) k hk
    · rw [if_neg e, if_neg e]; exact h k hk
/-- the order that a list tells, with f more at most -/
def oL (N f : Nat) (o : Nat → Nat) : Prop := ∃ l, gOn N f l = true ∧ ∀ k, k < N → o k = mkO l k
theorem oL_start {N : Nat} (h : N ≤ 6) : oL N 120 (fun k => k) := by
  refine ⟨List.range N, gOn_start N h, fun k hk => ?_⟩
  unfold mkO
  rw [List.getD_eq_getElem?_getD, List.getElem?_range hk]
  rfl
theorem oL_pos {N f : Nat} {o : Nat → Nat} (h : oL N f o) : 1 ≤ f := by
  obtain ⟨l, h1, _⟩ := h
  match f, h1 with
  | f + 1, _ => omega
theorem oL_next {N f : Nat} {o o' : Nat → Nat} (hN : N ≤ 6) (h : oL N (f + 1) o) (hn : nextO N o = some o') : oL N f o' := by
  obtain ⟨l, h1, h2⟩ := h
  unfold gOn at h1
  rw [Bool.and_eq_true] at h1
  unfold nextO at hn
  have eI : fI o (N - 2) = fI (mkO l) (N - 2) := fI_congr h2 _ (by omega)
  split at hn
  · cases hn
  · rename_i h3
    have hle := fI_le o (N - 2)
    have eJ : fJ o (fI o (N - 2)) (N - 1) = fJ (mkO l) (fI o (N - 2)) (N - 1) := fJ_congr h2 (by omega) _ (by omega)
    have hJ := fJ_le o (fI o (N - 2)) (N - 1)
    have e1 : nextO N (mkO l) = some (rvL 6 (fI o (N - 2) + 1) (N - 1) (swp (mkO l) (fI o (N - 2)) (fJ o (fI o (N - 2)) (N - 1)))) := by
      unfold nextO
      rw [← eI, if_neg h3, ← eJ]
    rw [e1] at h1
    refine ⟨_, h1.2, fun k hk => ?_⟩
    rw [tkO_at hk, ← Option.some.inj hn]
    exact rvL_congr 6 _ _ _ _ (by omega) (swp_congr h2 (by omega) (by omega)) k hk
/-- the places in an order -/
theorem oL_ok {N f : Nat} {o : Nat → Nat} (h : oL N f o) : ∃ pl, rOK N o pl := by
  obtain ⟨l, h1, h2⟩ := h
  match f, h1 with
  | f + 1, h1 =>
  unfold gOn at h1
  rw [Bool.and_eq_true] at h1
  have h3 := h1.1
  unfold pmO at h3
  simp only [Bool.and_eq_true, List.all_eq_true, List.mem_range, decide_eq_true_eq] at h3
  refine ⟨ixO l, fun k hk => ?_⟩
  have h4 := h3.1 k hk
  refine ⟨?_, h4.1.1.2, ?_, ?_⟩
  · rw [h2 k hk]; exact h4.1.1.1
  · rw [h2 k hk]; exact h4.1.2
  · rw [h2 _ h4.1.1.2]; exact h4.2
