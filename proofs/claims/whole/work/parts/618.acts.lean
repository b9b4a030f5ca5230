/-! acts -/
section acts
variable {g0 : tyNextStall} {g1 : tyTape} {g3 : tyWorld} {g4 g5 : tyFair} {g6 : tyNotes} {g7 : tyPast} {pr : Nat → tyRule} {pf : Nat → tyFair} {pw : Nat → tyWorld} {pt pn : Nat → tyFair} {po : Nat → tyNotes}
  {tape : Nat → Int32} {taped rules : Int32} {sign clause clauses said : Nat → Int32} {force x absent rain : Int32} {was : Nat → Int32} {undone : Int32} {images iforce ix made : Nat → Int32}
theorem mtn {β : Type} (a : β) (f : Nat → β) : mt none a f = a := rfl
theorem mts {β : Type} (t : Nat) (a : β) (f : Nat → β) : mt (some t) a f = f t := rfl
theorem mins_one {ru : Option RU} {N B : Nat} {rg pl : Nat → Nat} {ac : Nat → Bool} {d : Nat → Int32} : (minsS ru N rg pl ac B 1 d (nn 0)).1 = (minS ru N rg pl ac B d).1 ∧ (minsS ru N rg pl ac B 1 d (nn 0)).2 = (minS ru N rg pl ac B d).2 := by
  have e : minsS ru N rg pl ac B 1 d (nn 0) = ((minS ru N rg pl ac B d).1, nn 0 + (minS ru N rg pl ac B d).2) := by
    rw [minsS, minsS]
  rw [e]
  exact ⟨rfl, by rw [show nn 0 = (0 : Int32) from li0.symm]; exact Int32.zero_add _⟩
theorem isFair_1 (h : said 0 = nn 1) : m_isFair said = some (nn 1) := by unfold m_isFair; simp (disch := omega) only [lt, rq_inb, rq_dec, rq_bo0, rq_bo1, rq_bob, bs, ba, nn_add, nn_mul, nn_tn, nn_le, nn_lt, nn_inj, nn_m1, nn_sub, upd_s, upd_o, updL_s, updL_o, li31, li25, li0, li1, li2, li3, li4, li5, li6, li7, li8, li9, li10, li11, li12, li13, li14, li15, li16, li19, li20, li24, li32, li35, li36, li40, li41, li42, li45, li47, li48, li50, li53, li57, li60, li79, li89, li91, li93, li95, li97, li99, li100, li101, li107, li113, li119, li122, li125, li155, li156, li200, li255, li288, li400, li999, li9999, li1580, li2400, li624, h]; exact if_pos trivial
theorem isFair_0 (h : said 0 = nn 0) : m_isFair said = some (nn 0) := by unfold m_isFair; simp (disch := omega) only [lt, rq_inb, rq_dec, rq_bo0, rq_bo1, rq_bob, bs, ba, nn_add, nn_mul, nn_tn, nn_le, nn_lt, nn_inj, nn_m1, nn_sub, upd_s, upd_o, updL_s, updL_o, li31, li25, li0, li1, li2, li3, li4, li5, li6, li7, li8, li9, li10, li11, li12, li13, li14, li15, li16, li19, li20, li24, li32, li35, li36, li40, li41, li42, li45, li47, li48, li50, li53, li57, li60, li79, li89, li91, li93, li95, li97, li99, li100, li101, li107, li113, li119, li122, li125, li155, li156, li200, li255, li288, li400, li999, li9999, li1580, li2400, li624, h]; exact if_neg (by decide)
theorem T_minute (h : INV g0 g1 g3 g4 g5 g6 g7 pr pf pw pt pn po tape taped rules sign clause clauses said force x absent rain was undone images iforce ix made) (z : Nat → Int64) (tp : Int32) (wd : Nat → Int64) : ∃ v g5' g7' pf' pr' z' tp' wd' said' rain' was' undone', mNextStall_minute g0 g3 g5 g7 pf pr = some (v, g5', g7', pf', pr') ∧ m_minute sign clause clauses z tp wd said force absent rain was undone = some (v, z', tp', wd', said', rain', was', undone') ∧ INV g0 g1 g3 g4 g5' g6 g7' pr' pf' pw pt pn po tape taped rules sign clause clauses said' force x absent rain' was' undone' images iforce ix made := by
  have h0 := h
  obtain ⟨h1, h2, h3, R, hR, h5, h6, h7⟩ := h
  subst h2; subst h3
  have h5' := h5
  obtain ⟨_, _, _, _, hw⟩ := h5'
  rcases hw with ⟨w1, w0, _⟩ | ⟨w1, w0, N, B, L, rg, pl, ho⟩
  · unfold mNextStall_minute m_minute
    rw [isFair_0 w0, bs, ifn0, if_pos (show g3.1 = 0 by rw [w1, li0])]
    exact ⟨_, g5, g7, pf, pr, z, tp, wd, said, nn 0, was, undone, rfl, rfl, h0⟩
  · have hr := ho.1
    have hF := ho.2.1
    have hf := hF.1.2.2.2.2.1
    obtain ⟨m, hm, em⟩ := ho.2.2.2.1
    have eg : g5.2.2.2.2.1 = nn m := by rw [hF.1.1.2.2.2.1, em]
    obtain ⟨ru, o, f1, f2, f3⟩ := force_ev hR h5
    obtain ⟨was', undone', g7', pf', k1, k2, k3⟩ := keep_ev h6 (op_paS ho)
    unfold mNextStall_minute m_minute
    rw [isFair_1 w0, bs, ifn1, if_neg (show ¬ g3.1 = 0 by rw [w1, li0]; decide), show inb (10 : Int32) 156 = true from rfl, rq_true rfl, show (10 : Int32).toNatClampNeg = 10 from rfl, em, eg, show (999 : Int32) = nn 999 from id rfl]
    by_cases e : m < 999
    · have e9 : ¬ nn m = nn 999 := by rw [nn_inj (by omega) (by omega)]; omega
      rw [iflt_t e (by omega), if_neg e9, k1, k2, bs, bs, f2, bs]
      obtain ⟨z', tp', wd', p1⟩ := passes_ev f1 acR_all hr hf z tp wd
      rw [p1, bs]
      have oo : oEq said (minS ru N rg pl acA B said).1 := oEq_min hf.1 hf.2.1 hr
      have bb := bd_min (ru := ru) (ac := acA) ho.2.2.1 hF.1.2.2.2.2.2.2 hr hf.1 hf.2.1
      have mm : ∃ m, m ≤ 999 ∧ (minS ru N rg pl acA B said).1 10 = nn m := by
        refine ⟨m + 1, by omega, ?_⟩
        show clsD N rg pl (trS ru N rg pl acA B 0 said (nn 0)).1 10 = _
        rw [clsD_10, trS_o hf.1 hr (by omega) _ _ _ _ (by have := hf.2.1; omega), em, nn_add]
      have fin : ∀ g5', fR N B L rg pl (minS ru N rg pl acA B said).1 g5' → INV g0 g1 g3 g4 g5' g6 g7' pr pf' pw pt pn po tape taped rules sign clause clauses ((minS ru N rg pl acA B said).1) force x ((-nn 1)) ((nn 0)) was' undone' images iforce ix made := fun g5' hg =>
        ⟨h1, rfl, rfl, R, hR, wd_act h5 oo w1 w0 (op_act ho oo hr hg bb.1 mm), paR_o k3 oo, h7⟩
      rcases f3 with ⟨e1, e2⟩ | ⟨t, r, len, ht, e1, e2, e3⟩
      · subst e1; subst e2
        obtain ⟨m', go, ti, we, so, pu, ha, q1, q2⟩ := gon_g acR_all hr (show 1 < 4000 by omega) hF
        rw [mins_one.1] at q2
        rw [mins_one.2, eg] at q1
        rw [mtn, li1, q1, bs]
        exact ⟨_, _, g7', pf', pr, z', tp', wd', _, nn 0, was', undone', rfl, rfl, fin _ q2⟩
      · subst e1; subst e2
        obtain ⟨m', go, ti, we, so, pu, ha, wd2, z2, q1, q2⟩ := gor_g e3 acR_all hr (show 1 < 4000 by omega) hF _ _
        rw [mins_one.1] at q2
        rw [mins_one.2, eg] at q1
        rw [mts, rq_dec (show t < 6 by omega), li1, q1, bs]
        exact ⟨_, _, g7', pf', va_up pr t (qUp (pr t) wd2 z2), z', tp', wd', _, nn 0, was', undone', rfl, rfl, INV_pr (fin _ q2) ((prE.refl pr).up (rqE.refl _).up)⟩
    · have e9 : m = 999 := by omega
      rw [iflt_f (by omega) (by omega), if_pos (show nn m = nn 999 by rw [e9])]
      exact ⟨_, g5, g7, pf, pr, z, tp, wd, said, nn 0, was, undone, rfl, rfl, h0⟩
end acts
