/-! asks -/
section asks
variable {g0 : tyNextStall} {g1 : tyTape} {g3 : tyWorld} {g4 g5 : tyFair} {g6 : tyNotes} {g7 : tyPast} {pr : Nat → tyRule} {pf : Nat → tyFair} {pw : Nat → tyWorld} {pt pn : Nat → tyFair} {po : Nat → tyNotes}
  {tape : Nat → Int32} {taped rules : Int32} {sign clause clauses said : Nat → Int32} {force x absent rain : Int32} {was : Nat → Int32} {undone : Int32} {images iforce ix made : Nat → Int32}
theorem pick_rs {P : Nat → RU → Prop} {R : Nat} (h : ∀ t, t < R → ∃ r, P t r) : ∃ rs : Nat → RU, ∀ t, t < R → P t (rs t) := by
  refine ⟨fun t => if h' : t < R then Classical.choose (h t h') else (0, fun _ => 0, fun _ => 0, fun _ => 0, fun _ => (0, 0)), fun t ht => ?_⟩
  show P t (if h' : t < R then Classical.choose (h t h') else _)
  rw [dif_pos ht]
  exact Classical.choose_spec (h t ht)
theorem frv_ev {f : Nat → Int32} {j R : Nat} {p : Nat → Bool} (hj : j ≤ 1) (hR : R ≤ 6) (h : (f 0, f 1) = rdS p (R + 1) 0 (nn 0, -nn 2)) : f j = (if nn j = nn 0 then nn (cntS p (R + 1) 0) else frv (frsS p (R + 1) 0)) := by
  rw [rdS_val (R + 1) 0 0 _ (by omega), if_pos rfl, Nat.zero_add] at h
  refine two_ev (p := (nn (cntS p (R + 1) 0), frv (frsS p (R + 1) 0))) hj (congrArg Prod.fst h) ((congrArg Prod.snd h).trans ?_)
  cases frsS p (R + 1) 0 <;> rfl
theorem T_ruled (h : INV g0 g1 g3 g4 g5 g6 g7 pr pf pw pt pn po tape taped rules sign clause clauses said force x absent rain was undone images iforce ix made) (a : Int32) (g8 : tyTrials) (g9 : tyFair) (z : Nat → Int64) (tp : Int32) (wd : Nat → Int64) (kept : Nat → Int32) (tt : Nat → Int32) (isf : Nat → Int32) : ∃ v g8' g9' pr' z' tp' wd' rain' kept' isf' tt', mNextStall_ruled a g0 g3 g4 g6 g8 g9 pr = some (v, g8', g9', pr') ∧ m_ruled a rules sign clause clauses z tp wd said force absent rain kept isf tt = some (v, z', tp', wd', said, force, rain', kept', isf', tt') ∧ INV g0 g1 g3 g4 g5 g6 g7 pr' pf pw pt pn po tape taped rules sign clause clauses said force x absent rain' was undone images iforce ix made := by
  have h0 := h
  obtain ⟨h1, h2, h3, R, hR, h5, h6, h7⟩ := h
  subst h2; subst h3
  have h5' := h5
  obtain ⟨_, _, _, _, hw⟩ := h5'
  unfold mNextStall_ruled m_ruled
  rcases hw with ⟨w1, w0, _⟩ | ⟨w1, w0, N, B, L, rg, pl, ho⟩
  · rw [isFair_0 w0, bs, ifn0, if_pos (show g3.1 = 0 by rw [w1, li0])]
    exact ⟨_, g8, g9, pr, z, tp, wd, nn 0, kept, isf, tt, rfl, rfl, h0⟩
  rw [isFair_1 w0, bs, ifn1, if_neg (show ¬ g3.1 = 0 by rw [w1, li0]; decide)]
  have hr := ho.1
  have hF := ho.2.1
  have hf := hF.1.2.2.2.2.1
  have hN := hf.1
  have hB := hf.2.1
  rw [within_ev, in_ev, bs, bs, show (0 : Int32).toInt = 0 from rfl, show (1 : Int32).toInt = 1 from rfl, show (0 : Int64).toInt = 0 from rfl, show (1 : Int64).toInt = 1 from rfl]
  by_cases e2 : ¬ wi a 0 1 = true
  · rw [ifb_f e2, ifb_f e2]
    exact ⟨_, g8, g9, pr, z, tp, wd, nn 0, kept, isf, tt, rfl, rfl, h0⟩
  replace e2 := Classical.not_not.1 e2
  rw [ifb_t e2, ifb_t e2]
  obtain ⟨j, lj, uj, ej⟩ := wi_nn (a := 0) (b := 1) e2
  subst ej
  obtain ⟨n, nr, nc, hn, hnt⟩ := ho.2.2.2.2.2.2
  have hFt := ho.2.2.2.2.1
  have hst4 : g4.2.2.1 = nn N := by rw [hFt.1.1.2.1, hFt.1.2.2.2.2.1.2.2.2.2.1]
  obtain ⟨a1, a2, a3, a4⟩ := hR
  obtain ⟨rs, hrs⟩ := pick_rs a4
  have hRc : ∀ t, t < R → ∃ len, rcR (pr t).1 (pr t).2.1 (pr t).2.2.1 (pr t).2.2.2.1 (pr t).2.2.2.2.1 (pr t).2.2.2.2.2.1 (pr t).2.2.2.2.2.2.2.1 (rs t) len := fun t ht => by obtain ⟨len, h1, _⟩ := hrs t ht; exact ⟨len, h1⟩
  have hRm : ∀ t, t < R → ∃ len, rmR sign clause clauses t (rs t) len := fun t ht => by obtain ⟨len, _, h2⟩ := hrs t ht; exact ⟨len, h2⟩
  obtain ⟨z', tp', wd', kp, isF', tt', p0, p1, p2⟩ := fills_ev (force := force) hRm a1 hf hn (nn 0) z tp wd kept isf tt
  have p3 := ruled_l36_ev (sign := sign) (clause := clause) (clauses := clauses) (force := force) (d := said) (z := z') (tp := tp') (wd := wd') (kp := kp) (tt := tt') a1 p1 (nn j) (R + 1) FU (by omega) (by unfold FU; omega)
  rw [Nat.sub_self, show cntS (fiB rs N B said nr n) 0 (R + 1) = 0 from rfl, show frv (frsS (fiB rs N B said nr n) 0 (R + 1)) = -nn 2 from rfl, show ixS (R + 1) = nn R from rfl] at p3
  obtain ⟨t', g1', pr', q1, q2, q3⟩ := c_ruled hRc a1 hnt hFt (R + 1) 0 FU (upd (upd (upd g8.1 0 (nn 0)) 1 (-nn 2)) 2 (nn 0), g8.2) g9 pr (by omega) (by unfold FU; omega) (prE.refl pr)
  dsimp only at q2
  rw [fd0, fd1] at q2
  have cl : mTrials_findRuledr_rules (nn R) g8 g9 g4 g6 pr = some (t', g1', pr') := by
    unfold mTrials_findRuledr_rules
    rw [find_ev, bs, li0, li1, li2]
    exact q1
  rw [a2, cl, bs, rq_inb (show j < 3 by omega) (by omega), nn_tn (by omega), frv_ev uj a1 q2]
  rw [a3] at h0 ⊢
  rw [li0, p0, bs]
  dsimp only
  rw [li2, p3]
  exact ⟨_, _, _, pr', z', tp', wd', nn 0, kp, isF', tt', rfl, rfl, INV_pr h0 q3⟩
theorem T_look (h : INV g0 g1 g3 g4 g5 g6 g7 pr pf pw pt pn po tape taped rules sign clause clauses said force x absent rain was undone images iforce ix made) (a b : Int32) (g8 : tyTrials) (g9 : tyFair) (z : Nat → Int64) (tp : Int32) (wd : Nat → Int64) (kept : Nat → Int32) (tt : Nat → Int32) (isf : Nat → Int32) : ∃ v g8' g9' pr' z' tp' wd' rain' kept' isf' tt', mNextStall_look a b g0 g3 g4 g6 g8 g9 pr = some (v, g8', g9', pr') ∧ m_look a b rules sign clause clauses z tp wd said force absent rain kept isf tt = some (v, z', tp', wd', said, force, rain', kept', isf', tt') ∧ INV g0 g1 g3 g4 g5 g6 g7 pr' pf pw pt pn po tape taped rules sign clause clauses said force x absent rain' was undone images iforce ix made := by
  have h0 := h
  obtain ⟨h1, h2, h3, R, hR, h5, h6, h7⟩ := h
  subst h2; subst h3
  have h5' := h5
  obtain ⟨_, _, _, _, hw⟩ := h5'
  unfold mNextStall_look m_look
  rcases hw with ⟨w1, w0, _⟩ | ⟨w1, w0, N, B, L, rg, pl, ho⟩
  · rw [isFair_0 w0, bs, ifn0, if_pos (show g3.1 = 0 by rw [w1, li0])]
    exact ⟨_, g8, g9, pr, z, tp, wd, nn 0, kept, isf, tt, rfl, rfl, h0⟩
  rw [isFair_1 w0, bs, ifn1, if_neg (show ¬ g3.1 = 0 by rw [w1, li0]; decide)]
  have hr := ho.1
  have hF := ho.2.1
  have hf := hF.1.2.2.2.2.1
  have hN := hf.1
  have hB := hf.2.1
  rw [within_ev, in_ev, bs, bs, show (0 : Int32).toInt = 0 from rfl, show (60 : Int32).toInt = 60 from rfl, show (0 : Int64).toInt = 0 from rfl, show (60 : Int64).toInt = 60 from rfl]
  by_cases e2 : ¬ wi a 0 60 = true
  · rw [ifb_f e2, ifb_f e2]
    exact ⟨_, g8, g9, pr, z, tp, wd, nn 0, kept, isf, tt, rfl, rfl, h0⟩
  replace e2 := Classical.not_not.1 e2
  rw [ifb_t e2, ifb_t e2]
  obtain ⟨T, lT, uT, eT⟩ := wi_nn (a := 0) (b := 60) e2
  subst eT
  rw [within_ev, in_ev, bs, bs, show (0 : Int32).toInt = 0 from rfl, show (1 : Int32).toInt = 1 from rfl, show (0 : Int64).toInt = 0 from rfl, show (1 : Int64).toInt = 1 from rfl]
  by_cases e3 : ¬ wi b 0 1 = true
  · rw [ifb_f e3, ifb_f e3]
    exact ⟨_, g8, g9, pr, z, tp, wd, nn 0, kept, isf, tt, rfl, rfl, h0⟩
  replace e3 := Classical.not_not.1 e3
  rw [ifb_t e3, ifb_t e3]
  obtain ⟨j, lj, uj, ej⟩ := wi_nn (a := 0) (b := 1) e3
  subst ej
  obtain ⟨n, nr, nc, hn, hnt⟩ := ho.2.2.2.2.2.2
  have hFt := ho.2.2.2.2.1
  have hst4 : g4.2.2.1 = nn N := by rw [hFt.1.1.2.1, hFt.1.2.2.2.2.1.2.2.2.2.1]
  obtain ⟨a1, a2, a3, a4⟩ := hR
  obtain ⟨rs, hrs⟩ := pick_rs a4
  have hRc : ∀ t, t < R → ∃ len, rcR (pr t).1 (pr t).2.1 (pr t).2.2.1 (pr t).2.2.2.1 (pr t).2.2.2.2.1 (pr t).2.2.2.2.2.1 (pr t).2.2.2.2.2.2.2.1 (rs t) len := fun t ht => by obtain ⟨len, h1, _⟩ := hrs t ht; exact ⟨len, h1⟩
  have hRm : ∀ t, t < R → ∃ len, rmR sign clause clauses t (rs t) len := fun t ht => by obtain ⟨len, _, h2⟩ := hrs t ht; exact ⟨len, h2⟩
  obtain ⟨z', tp', wd', kp, isF', tt', p0, p1, p2⟩ := fills_ev (force := force) hRm a1 hf hn (nn T) z tp wd kept isf tt
  have hA : ∀ s, s < N → m_alikeAt (nn s) (nn R) isF' tt' = some (nn (lkF rs N B said T (fL (fiB rs N B said nr n) (R + 1) 0) s)) ∧ lkF rs N B said T (fL (fiB rs N B said nr n) (R + 1) 0) s ≤ 100 := fun s hs => by
    refine ⟨alikeAt_ev (v := lkV rs N B said T s) a1 p1 (fun j hj _ => p2 T rfl uT j hj s (by omega)) (by omega), ?_⟩
    have hl := fL_len (fiB rs N B said nr n) (R + 1) 0
    exact (mL_le _ _ 0 (by omega) (by rw [List.length_map]; omega)).1
  have p3 := look_l46_ev (sign := sign) (clause := clause) (clauses := clauses) (force := force) (z := z') (tp := tp') (wd := wd') (kp := kp) hN hf.2.2.2.2.1 hA (nn j) N 0 FU none (by omega) (by unfold FU; omega) (fun x hx => by cases hx)
  rw [show lk0 none = -nn 2 from rfl, show lk1 none = -nn 2 from rfl] at p3
  obtain ⟨t', g1', pr', q1, q2, q3, q4⟩ := c_look hRc a1 uT hnt hFt (R + 1) 0 FU [] g8 g9 pr (by omega) (by unfold FU; omega) (Nat.le_refl 0) (fun i h => absurd h (Nat.not_lt_zero i)) (prE.refl pr)
  rw [List.nil_append] at q2 q3
  rw [show ([] : List Nat).length = 0 from rfl] at q1
  have cl : mTrials_findLookr_rules (nn R) (nn T) g8 g9 g4 g6 pr = some (t', g1', pr') := by
    unfold mTrials_findLookr_rules
    rw [li0, li1]
    exact q1
  rw [a2, cl, bs, rq_inb (show j < 3 by omega) (by omega), nn_tn (by omega), two_ev (p := (_, _)) uj q2 q3]
  rw [a3] at h0 ⊢
  rw [p0, bs]
  dsimp only
  rw [li0, li2, p3]
  exact ⟨_, _, _, pr', z', tp', wd', nn 0, kp, isF', tt', rfl, rfl, INV_pr h0 q4⟩
end asks
