/-! acts -/
section acts
variable {g0 : tyNextStall} {g1 : tyTape} {g3 : tyWorld} {g4 g5 : tyFair} {g6 : tyNotes} {g7 : tyPast} {pr : Nat → tyRule} {pf : Nat → tyFair} {pw : Nat → tyWorld} {pt pn : Nat → tyFair} {po : Nat → tyNotes}
  {tape : Nat → Int32} {taped rules : Int32} {sign clause clauses said : Nat → Int32} {force x absent rain : Int32} {was : Nat → Int32} {undone : Int32} {images iforce ix made : Nat → Int32}
def nrA (nr : Nat → Nt) (n : Nat) (v : Nt) : Nat → Nt := fun i => if i = n then v else nr i
theorem nrA_at {nr : Nat → Nt} {n : Nat} {v : Nt} : nrA nr n v n = v := if_pos rfl
theorem nrA_o {nr : Nat → Nt} {n i : Nat} {v : Nt} (h : ¬ i = n) : nrA nr n v i = nr i := if_neg h
theorem op_note {N B L : Nat} {rg pl : Nat → Nat} {said said' : Nat → Int32} {told now : tyFair} {no no' : tyNotes} (h : opR N B L rg pl said told now no) (e : ∀ k, k < 125 → said' k = said k) (hn : ∃ n nr nc, nrR N n nr said' ∧ ntE N n nr nc no') : opR N B L rg pl said' told now no' := by
  obtain ⟨h1, h2, h3, ⟨m, hm, h4⟩, h5, h6, _⟩ := h
  exact ⟨h1, fR_low h1 h2 e, bd_low h2.1.2.2.2.2.1.1 h3 e, ⟨m, hm, by rw [e _ (by omega)]; exact h4⟩, fR_low (id_ok _) h5 (beg_low e), bd_low h2.1.2.2.2.2.1.1 h6 (beg_low e), hn⟩
theorem nt_add {N n m s k0 : Nat} {c : Int32} {nr nc : Nat → Nt} {no no' : tyNotes} (hn : n < 10) (hm : m ≤ 60) (hs : s < N) (hk : k0 ≤ n) (h : ntE N n nr nc no) (c1 : no'.2.2.2 = nn (n + 1)) (c2 : ∀ i, i < n + 1 → no'.1 i = nn (insN nc k0 (m, s, c) i).1 ∧ no'.2.1 i = nn (insN nc k0 (m, s, c) i).2.1 ∧ no'.2.2.1 i = (insN nc k0 (m, s, c) i).2.2) (c3 : ∀ i, i < k0 → (nc i).1 ≤ m) (c4 : ∀ i, k0 ≤ i → i < n → m < (nc i).1) :
    ntE N (n + 1) (nrA nr n (m, s, c)) (insN nc k0 (m, s, c)) no' := by
  obtain ⟨_, ⟨_, _, a3⟩, h2, h3, h4⟩ := h
  refine ⟨by omega, ⟨c1, c2, fun i j hij hj => ?_⟩, fun i hi => ?_, fun i hi => ?_, fun j hj => ?_⟩
  · rcases Nat.lt_trichotomy i k0 with e | e | e <;> rcases Nat.lt_trichotomy j k0 with e' | e' | e'
    · rw [insN_lo e, insN_lo e']; exact a3 i j hij (by omega)
    · subst e'; rw [insN_lo e, insN_at]; exact c3 i e
    · rw [insN_lo e, insN_hi e']; exact a3 i (j - 1) (by omega) (by omega)
    · omega
    · subst e; subst e'; exact Nat.le_refl _
    · subst e; rw [insN_at, insN_hi e']; exact Nat.le_of_lt (c4 (j - 1) (by omega) (by omega))
    · omega
    · omega
    · rw [insN_hi e, insN_hi e']; exact a3 (i - 1) (j - 1) (by omega) (by omega)
  · rcases Nat.lt_trichotomy i k0 with e | e | e
    · rw [insN_lo e]; exact h2 i (by omega)
    · subst e; rw [insN_at]; exact ⟨hm, hs⟩
    · rw [insN_hi e]; exact h2 (i - 1) (by omega)
  · rcases Nat.lt_trichotomy i k0 with e | e | e
    · obtain ⟨j, hj, ej⟩ := h3 i (by omega)
      exact ⟨j, by omega, by rw [insN_lo e, nrA_o (by omega)]; exact ej⟩
    · subst e; exact ⟨n, by omega, by rw [insN_at, nrA_at]⟩
    · obtain ⟨j, hj, ej⟩ := h3 (i - 1) (by omega)
      exact ⟨j, by omega, by rw [insN_hi e, nrA_o (by omega)]; exact ej⟩
  · by_cases e : j = n
    · exact ⟨k0, by omega, by rw [insN_at, e, nrA_at]⟩
    · obtain ⟨i, hi, ei⟩ := h4 j (by omega)
      by_cases e2 : i < k0
      · exact ⟨i, by omega, by rw [insN_lo e2, nrA_o e]; exact ei⟩
      · exact ⟨i + 1, by omega, by rw [insN_hi (by omega), nrA_o e, Nat.add_sub_cancel]; exact ei⟩
def ntD (said : Nat → Int32) (n m s : Nat) (c : Int32) : Nat → Int32 := upd (upd (upd (upd said (125 + 3 * n) (nn m)) (125 + 3 * n + 1) (nn s)) (125 + 3 * n + 2) c) 155 (nn (n + 1))
theorem nr_add {N n m s : Nat} {c : Int32} {nr : Nat → Nt} (hn : n < 10) (hm : m ≤ 60) (hs : s < N) (h : nrR N n nr said) : nrR N (n + 1) (nrA nr n (m, s, c)) (ntD said n m s c) := by
  obtain ⟨_, _, h3⟩ := h
  refine ⟨by omega, upd_s _ _ _, fun i hi => ?_⟩
  unfold ntD
  rw [upd_o (k := 155) (by omega), upd_o (k := 155) (by omega), upd_o (k := 155) (by omega)]
  by_cases e : i = n
  · subst e
    rw [nrA_at, upd_o (by omega), upd_o (by omega), upd_s, upd_o (by omega), upd_s, upd_s]
    exact ⟨hm, hs, rfl, rfl, rfl⟩
  · rw [nrA_o e, upd_o (by omega), upd_o (by omega), upd_o (by omega), upd_o (by omega), upd_o (by omega), upd_o (by omega), upd_o (by omega), upd_o (by omega), upd_o (by omega)]
    exact h3 i (by omega)
end acts
