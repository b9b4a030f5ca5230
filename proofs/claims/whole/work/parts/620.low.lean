/-! what a note leaves -/
theorem fR_low {N B L : Nat} {rg pl : Nat → Nat} {d d' : Nat → Int32} {g : tyFair} (hr : rOK N rg pl) (h : fR N B L rg pl d g) (e : ∀ k, k < 125 → d' k = d k) : fR N B L rg pl d' g := by
  obtain ⟨⟨hS, hD, hW, hK, hf, ht, hpr⟩, h1, h2, h3⟩ := h
  obtain ⟨s1, s2, s3, s4, s5, s6, s7, s8, s9⟩ := hS
  obtain ⟨d1, d2, d3, d4, d5⟩ := hD
  obtain ⟨hN, hB, f3, f4, f5, f6, f7, f8⟩ := hf
  refine ⟨⟨⟨?_, ?_, ?_, ?_, fun s hs => ?_, fun s hs => ?_, s7, fun s hs => ?_, fun s hs => ?_⟩, ⟨fun s hs => ?_, fun s hs => ?_, fun s hs => ?_, fun s hs => ?_, fun b s hb hs => ?_⟩, fun s hs => ?_, ?_, ⟨hN, hB, f3, f4, ?_, ?_, ?_, fun k hk => ?_⟩, fun s hs => ?_, fun s hs => ?_⟩, fun s hs => ?_, fun s hs => ?_, fun s hs => ?_⟩
  · rw [e _ (by omega)]; exact s1
  · rw [e _ (by omega)]; exact s2
  · rw [e _ (by omega)]; exact s3
  · rw [e _ (by omega)]; exact s4
  · rw [e _ (by omega)]; exact s5 s hs
  · rw [e _ (by omega)]; exact s6 s hs
  · rw [(prS_congr hr hs (fun k hk => ⟨e _ (by omega), e _ (by omega)⟩)).1]; exact s8 s hs
  · rw [(prS_congr hr hs (fun k hk => ⟨e _ (by omega), e _ (by omega)⟩)).2]; exact s9 s hs
  · rw [e _ (by omega)]; exact d1 s hs
  · rw [e _ (by omega)]; exact d2 s hs
  · rw [e _ (by omega), e _ (by omega)]; exact d3 s hs
  · rw [e _ (by omega)]; exact d4 s hs
  · rw [e _ (by omega)]; exact d5 b s hb hs
  · rw [e _ (by omega)]; exact hW s hs
  · rw [e _ (by omega)]; exact hK
  · rw [e _ (by omega)]; exact f5
  · rw [e _ (by omega)]; exact f6
  · rw [e _ (by omega)]; exact f7
  · rw [e _ (by omega)]; exact f8 k hk
  · rw [e _ (by omega)]; exact ht s hs
  · rw [e _ (by omega)]; exact hpr s hs
  · rw [e _ (by omega)]; exact h1 s hs
  · rw [e _ (by omega)]; exact h2 s hs
  · rw [e _ (by omega)]; exact h3 s hs
theorem bd_low {N : Nat} {d d' : Nat → Int32} (hN : N ≤ 6) (h : bdR N d) (e : ∀ k, k < 125 → d' k = d k) : bdR N d' := by
  obtain ⟨T, W, G, K, h1, h2, h3, h4⟩ := h
  refine ⟨T, W, G, K, h1, by rw [e _ (by omega)]; exact h2, fun s hs => ?_, h4⟩
  rw [e _ (by omega), e _ (by omega), e _ (by omega)]; exact h3 s hs
theorem beg_low {d d' : Nat → Int32} (e : ∀ k, k < 125 → d' k = d k) : ∀ k, k < 125 → begD d' k = begD d k := by
  intro k hk
  unfold begD
  by_cases c1 : k < 10
  · rw [if_pos c1, if_pos c1]; exact e k hk
  rw [if_neg c1, if_neg c1]
  by_cases c2 : k = 10
  · rw [if_pos c2, if_pos c2]
  rw [if_neg c2, if_neg c2]
  by_cases c3 : k < 35
  · rw [if_pos c3, if_pos c3]
    rw [e (101 + (k - 11) / 4) (by omega), e (107 + (k - 11) / 4) (by omega)]
  rw [if_neg c3, if_neg c3]
  by_cases c4 : k < 41
  · rw [if_pos c4, if_pos c4]
  rw [if_neg c4, if_neg c4]
  by_cases c5 : k < 47
  · rw [if_pos c5, if_pos c5]; exact e _ (by omega)
  rw [if_neg c5, if_neg c5]
  by_cases c6 : k < 53
  · rw [if_pos c6, if_pos c6]; exact e _ (by omega)
  rw [if_neg c6, if_neg c6]
  by_cases c7 : k < 89
  · rw [if_pos c7, if_pos c7]
  rw [if_neg c7, if_neg c7]; exact e k hk
theorem paS_low {d d' : Nat → Int32} {g : tyFair} (h : paS d g) (e : ∀ k, k < 125 → d' k = d k) : paS d' g := by
  obtain ⟨N, B, L, rg, pl, h1, h2, h3, m, hm, h4⟩ := h
  exact ⟨N, B, L, rg, pl, h1, fR_low h1 h2 e, bd_low h2.1.2.2.2.2.1.1 h3 e, m, hm, by rw [e _ (by omega)]; exact h4⟩
theorem paR_low {said said' was : Nat → Int32} {undone : Int32} {g7 : tyPast} {pf : Nat → tyFair} (h : paR said was undone g7 pf) (e : ∀ k, k < 125 → said' k = said k) : paR said' was undone g7 pf := by
  obtain ⟨u, nx, u1, u2, u3, u4, u5, u6⟩ := h
  refine ⟨u, nx, u1, u2, u3, u4, u5, fun i hi => paS_low (u6 i hi) (fun k hk => ?_)⟩
  unfold udD
  by_cases c : 10 ≤ k ∧ k < 89
  · rw [if_pos c, if_pos c]
  · rw [if_neg c, if_neg c]; exact e k hk
