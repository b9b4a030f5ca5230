/-! acts -/
section acts
variable {g0 : tyNextStall} {g1 : tyTape} {g3 : tyWorld} {g4 g5 : tyFair} {g6 : tyNotes} {g7 : tyPast} {pr : Nat → tyRule} {pf : Nat → tyFair} {pw : Nat → tyWorld} {pt pn : Nat → tyFair} {po : Nat → tyNotes}
  {tape : Nat → Int32} {taped rules : Int32} {sign clause clauses said : Nat → Int32} {force x absent rain : Int32} {was : Nat → Int32} {undone : Int32} {images iforce ix made : Nat → Int32}
theorem nt_copy (g g' : tyNotes) : ∃ q, mNotes_copyFrom g g' = some q ∧ q.2.2.2 = g'.2.2.2 ∧ ∀ i, i < 10 → q.1 i = g'.1 i ∧ q.2.1 i = g'.2.1 i ∧ q.2.2.1 i = g'.2.2.1 i := by
  unfold mNotes_copyFrom
  rw [rq_true (show cpin (0 : Int32) (0 : Int32) (10 : Int32) 10 10 = true from rfl), ltp, rq_true (show cpin (0 : Int32) (0 : Int32) (10 : Int32) 10 10 = true from rfl), ltp, rq_true (show cpin (0 : Int32) (0 : Int32) (10 : Int32) 10 10 = true from rfl), ltp, show (0 : Int32).toNatClampNeg = 0 from rfl, show (10 : Int32).toNatClampNeg = 10 from rfl]
  exact ⟨_, rfl, rfl, fun i hi => ⟨cpy_lt hi, cpy_lt hi, cpy_lt hi⟩⟩
theorem op_copy {N B L : Nat} {rg pl : Nat → Nat} {said said' : Nat → Int32} {told told' now now' : tyFair} {no no' : tyNotes} (h : opR N B L rg pl said told now no) (e1 : gEq told told') (e2 : gEq now now') (e3 : no'.2.2.2 = no.2.2.2) (e4 : ∀ i, i < 10 → no'.1 i = no.1 i ∧ no'.2.1 i = no.2.1 i ∧ no'.2.2.1 i = no.2.2.1 i) (e : ∀ k, k < 156 → said' k = said k) : opR N B L rg pl said' told' now' no' := by
  obtain ⟨h1, h2, h3, ⟨m, hm, em⟩, h5, h6, n, nr, nc, h7, h8, ⟨b1, b2, b3⟩, h9⟩ := h
  have hN := h2.1.2.2.2.2.1.1
  have el : ∀ k, k < 125 → said' k = said k := fun k hk => e k (by omega)
  refine ⟨h1, fR_low h1 (fR_gEq h2 e2) el, bd_low hN h3 el, ⟨m, hm, by rw [e 10 (by omega)]; exact em⟩, fR_low (id_ok N) (fR_gEq h5 e1) (beg_low el), bd_low hN h6 (beg_low el), n, nr, nc, nr_oEq h7 (fun k _ hk => e k hk), h8, ⟨e3.trans b1, fun i hi => ?_, b3⟩, h9⟩
  obtain ⟨c1, c2, c3⟩ := e4 i (by omega)
  rw [c1, c2, c3]
  exact b2 i hi
theorem wd_copy {R : Nat} {said said' : Nat → Int32} {force x : Int32} {w : tyWorld} {told told' now now' : tyFair} {no no' : tyNotes} (h : wdR R said force x w told now no) (e1 : gEq told told') (e2 : gEq now now') (e3 : no'.2.2.2 = no.2.2.2) (e4 : ∀ i, i < 10 → no'.1 i = no.1 i ∧ no'.2.1 i = no.2.1 i ∧ no'.2.2.1 i = no.2.2.1 i) (e : ∀ k, k < 156 → said' k = said k) : wdR R said' force x w told' now' no' := by
  obtain ⟨a1, a2, a3, a4, h⟩ := h
  refine ⟨a1, a2, a3, a4, ?_⟩
  rcases h with ⟨w1, w0, ⟨c1, c2, c3, c4, c5, c6⟩, ⟨d1, d2, d3, d4, d5⟩, d6⟩ | ⟨w1, w0, N, B, L, rg, pl, ho⟩
  · refine Or.inl ⟨w1, by rw [e _ (by omega)]; exact w0, ⟨by rw [e _ (by omega)]; exact c1, by rw [e _ (by omega)]; exact c2, by rw [e _ (by omega)]; exact c3, by rw [e _ (by omega)]; exact c4, by rw [e _ (by omega)]; exact c5, by rw [e _ (by omega)]; exact c6⟩, ⟨?_, ?_, ?_, ?_, ?_⟩, e3.trans d6⟩
    · exact e2.1.trans d1
    · exact e2.2.1.trans d2
    · exact e2.2.2.1.trans d3
    · exact e2.2.2.2.1.trans d4
    · exact e2.2.2.2.2.1.trans d5
  · exact Or.inr ⟨w1, by rw [e _ (by omega)]; exact w0, N, B, L, rg, pl, op_copy ho e1 e2 e3 e4 e⟩
theorem gEq.refl (g : tyFair) : gEq g g := ⟨rfl, rfl, rfl, rfl, rfl, fun _ _ => ⟨rfl, rfl, rfl, rfl, rfl, rfl, rfl, rfl, rfl, rfl, rfl, rfl, rfl⟩, fun _ _ => rfl⟩
theorem wd_low {R : Nat} {said said' : Nat → Int32} {force x : Int32} {w : tyWorld} {told now : tyFair} {no : tyNotes} (h : wdR R said force x w told now no) (e : ∀ k, k < 156 → said' k = said k) : wdR R said' force x w told now no :=
  wd_copy h (gEq.refl _) (gEq.refl _) rfl (fun _ _ => ⟨rfl, rfl, rfl⟩) e
theorem wcopy_ev {R : Nat} {said : Nat → Int32} {force x : Int32} {w w' : tyWorld} {a b told now : tyFair} {c no : tyNotes} (h : wdR R said force x w told now no) :
    ∃ q2 q3 q4, mWorld_copyFrom w' a b c w told now no = some (w, q2, q3, q4) ∧ gEq told q2 ∧ gEq now q3 ∧ q4.2.2.2 = no.2.2.2 ∧ (∀ i, i < 10 → q4.1 i = no.1 i ∧ q4.2.1 i = no.2.1 i ∧ q4.2.2.1 i = no.2.2.1 i) := by
  obtain ⟨q2, p2, e2⟩ := copyFrom_ev a told
  obtain ⟨q3, p3, e3⟩ := copyFrom_ev b now
  obtain ⟨q4, p4, e4, e5⟩ := nt_copy c no
  have hb : bo w.1 = true := by
    obtain ⟨_, _, _, _, h⟩ := h
    rcases h with ⟨w1, _⟩ | ⟨w1, _⟩ <;> rw [w1] <;> rfl
  refine ⟨q2, q3, q4, ?_, e2, e3, e4, e5⟩
  unfold mWorld_copyFrom
  rw [rq_true hb, p2, bs, p3, bs, p4, bs]
theorem wd_min {R : Nat} {said : Nat → Int32} {force x : Int32} {w : tyWorld} {told now : tyFair} {no : tyNotes} (h : wdR R said force x w told now no) : now.2.2.2.2.1 = said 10 := by
  obtain ⟨_, _, _, _, h⟩ := h
  rcases h with ⟨_, _, ⟨_, _, _, _, c5, _⟩, ⟨_, _, _, _, d5⟩, _⟩ | ⟨_, _, N, B, L, rg, pl, ho⟩
  · rw [c5]; exact d5
  · exact ho.2.1.1.1.2.2.2.1
theorem image_l43_ev {K : Nat} {u4 u5 u3 : Nat → Int32} (hK : K < 4) : ∀ (k i f : Nat) (im : Nat → Int32), i + k = 156 → k < f → (∀ j, j < i → im (156 * K + j) = said j) → (∀ j, ¬ (156 * K ≤ j ∧ j < 156 * K + 156) → im j = images j) →
    ∃ im', m_image_l43 said force x u4 u5 u3 (nn K) f (nn i) im = some (said 10, im', u4, u5, u3) ∧ (∀ j, j < 156 → im' (156 * K + j) = said j) ∧ (∀ j, ¬ (156 * K ≤ j ∧ j < 156 * K + 156) → im' j = images j) := by
  intro k
  induction k with
  | zero =>
    intro i f im h1 h2 h3 h4
    match f, h2 with
    | f + 1, _ =>
    unfold m_image_l43
    rw [li156, ifle_t (by omega) (by omega), rq_true (show inb (10 : Int32) 156 = true from rfl), show (10 : Int32).toNatClampNeg = 10 from rfl]
    exact ⟨im, rfl, fun j hj => h3 j (by omega), h4⟩
  | succ k ih =>
    intro i f im h1 h2 h3 h4
    match f, h2 with
    | f + 1, h2 =>
    unfold m_image_l43
    rw [li156, ifle_f (by omega) (by omega), rq_inb (by omega) (by omega), nn_mul, nn_add, rq_inb (by omega) (by omega), ltp, nn_tn (k := 156 * K + i) (by omega), nn_tn (by omega), li1, nn_add]
    refine ih (i + 1) f _ (by omega) (by omega) (fun j hj => ?_) (fun j hj => ?_)
    · by_cases e : j = i
      · subst e; exact upd_s _ _ _
      · rw [upd_o (by omega)]; exact h3 j (by omega)
    · rw [upd_o (by omega)]; exact h4 j hj
theorem T_image (h : INV g0 g1 g3 g4 g5 g6 g7 pr pf pw pt pn po tape taped rules sign clause clauses said force x absent rain was undone images iforce ix made) (a : Int32) : ∃ v g0' pw' pt' pn' po' images' iforce' ix' made', mNextStall_image a g0 g3 g4 g5 g6 pw pt pn po = some (v, g0', pw', pt', pn', po') ∧ m_image a said force x images iforce ix made = some (v, images', iforce', ix', made') ∧ INV g0' g1 g3 g4 g5 g6 g7 pr pf pw' pt' pn' po' tape taped rules sign clause clauses said force x absent rain was undone images' iforce' ix' made' := by
  have h0 := h
  obtain ⟨h1, h2, h3, R, hR, h5, h6, h7⟩ := h
  unfold mNextStall_image m_image
  rw [within_ev, in_ev, bs, bs, show (0 : Int32).toInt = 0 from rfl, show (3 : Int32).toInt = 3 from rfl, show (0 : Int64).toInt = 0 from rfl, show (3 : Int64).toInt = 3 from rfl]
  by_cases e : ¬ wi a 0 3 = true
  · rw [ifb_f e, ifb_f e]
    exact ⟨_, g0, pw, pt, pn, po, images, iforce, ix, made, rfl, rfl, h0⟩
  replace e := Classical.not_not.1 e
  rw [ifb_t e, ifb_t e]
  obtain ⟨K, _, hK, eK⟩ := wi_nn (a := 0) (b := 3) e
  subst eK
  obtain ⟨q2, q3, q4, c1, c2, c3, c4, c5⟩ := wcopy_ev (w' := pw K) (a := pt K) (b := pn K) (c := po K) h5
  obtain ⟨im', m1, m2, m3⟩ := image_l43_ev (said := said) (force := force) (x := x) (images := images) (u4 := upd iforce K force) (u5 := upd ix K x) (u3 := upd made K (nn 1)) (show K < 4 by omega) 156 0 FU images (by omega) (by unfold FU; omega) (fun j hj => by omega) (fun _ _ => rfl)
  have hn : vp_nar .boolean (1 : Int32) = nn 1 := rfl
  rw [rq_inb (by omega) (by omega), rq_inb (by omega) (by omega), ltp, nn_tn (by omega), c1, bs, rq_inb (by omega) (by omega), ltp, ltp, hn, rq_inb (by omega) (by omega), ltp, rq_inb (by omega) (by omega), ltp, li0, m1, wd_min h5]
  refine ⟨_, _, _, _, _, _, _, _, _, _, rfl, rfl, h1, h2, h3, R, hR, h5, h6, fun k hk => ?_⟩
  by_cases ek : k = K
  · subst ek
    refine Or.inr ⟨upd_s _ _ _, upd_s _ _ _, ?_⟩
    dsimp only
    rw [upd_s, upd_s, va_up_self, va_up_self, va_up_self, va_up_self]
    exact wd_copy h5 c2 c3 c4 c5 (fun i hi => m2 i hi)
  · dsimp only
    rw [upd_o ek, upd_o ek, upd_o ek, upd_o ek, va_up_ne _ _ ek, va_up_ne _ _ ek, va_up_ne _ _ ek, va_up_ne _ _ ek]
    rcases h7 k hk with h | ⟨b1, b2, b3⟩
    · exact Or.inl h
    · exact Or.inr ⟨b1, b2, wd_low b3 (fun i hi => m3 _ (by omega))⟩
theorem back_l50_ev {K : Nat} {fo xx un : Int32} (hK : K < 4) : ∀ (k i f : Nat) (sd : Nat → Int32), i + k = 156 → k < f → (∀ j, j < i → sd j = imD images K j) →
    ∃ sd', m_back_l50 fo xx un images iforce ix made (nn K) f (nn i) sd = some (sd' 10, sd', fo, xx, un) ∧ (∀ j, j < 156 → sd' j = imD images K j) := by
  intro k
  induction k with
  | zero =>
    intro i f sd h1 h2 h3
    match f, h2 with
    | f + 1, _ =>
    unfold m_back_l50
    rw [li156, ifle_t (by omega) (by omega), rq_true (show inb (10 : Int32) 156 = true from rfl), show (10 : Int32).toNatClampNeg = 10 from rfl]
    exact ⟨sd, rfl, fun j hj => h3 j (by omega)⟩
  | succ k ih =>
    intro i f sd h1 h2 h3
    match f, h2 with
    | f + 1, h2 =>
    unfold m_back_l50
    rw [li156, ifle_f (by omega) (by omega), nn_mul, nn_add, rq_inb (by omega) (by omega), rq_inb (by omega) (by omega), ltp, nn_tn (k := 156 * K + i) (by omega), nn_tn (by omega), li1, nn_add]
    refine ih (i + 1) f _ (by omega) (by omega) (fun j hj => ?_)
    by_cases e : j = i
    · subst e; exact upd_s _ _ _
    · rw [upd_o (by omega)]; exact h3 j (by omega)
theorem T_back (h : INV g0 g1 g3 g4 g5 g6 g7 pr pf pw pt pn po tape taped rules sign clause clauses said force x absent rain was undone images iforce ix made) (a : Int32) : ∃ v g3' g4' g5' g6' g7' said' force' x' undone', mNextStall_back a g0 g3 g4 g5 g6 g7 pw pt pn po = some (v, g3', g4', g5', g6', g7') ∧ m_back a said force x undone images iforce ix made = some (v, said', force', x', undone') ∧ INV g0 g1 g3' g4' g5' g6' g7' pr pf pw pt pn po tape taped rules sign clause clauses said' force' x' absent rain was undone' images iforce ix made := by
  have h0 := h
  obtain ⟨h1, h2, h3, R, hR, h5, ⟨u, nx, u1, u2, u3, u4, u5, u6⟩, h7⟩ := h
  unfold mNextStall_back m_back
  rw [within_ev, in_ev, bs, bs, show (0 : Int32).toInt = 0 from rfl, show (3 : Int32).toInt = 3 from rfl, show (0 : Int64).toInt = 0 from rfl, show (3 : Int64).toInt = 3 from rfl]
  by_cases e : ¬ wi a 0 3 = true
  · rw [ifb_f e, ifb_f e]
    exact ⟨_, g3, g4, g5, g6, g7, said, force, x, undone, rfl, rfl, h0⟩
  replace e := Classical.not_not.1 e
  rw [ifb_t e, ifb_t e]
  obtain ⟨K, _, hK, eK⟩ := wi_nn (a := 0) (b := 3) e
  subst eK
  rw [rq_inb (by omega) (by omega), rq_inb (by omega) (by omega), nn_tn (by omega)]
  rcases h7 K (by omega) with ⟨b1, b2⟩ | ⟨b1, b2, b3⟩
  · rw [b1, b2, ifn0, ifn0, rq_inb (by omega) (by omega)]
    exact ⟨_, g3, g4, g5, g6, g7, said, force, x, undone, rfl, rfl, h0⟩
  · obtain ⟨q2, q3, q4, c1, c2, c3, c4, c5⟩ := wcopy_ev (w' := g3) (a := g4) (b := g5) (c := g6) b3
    obtain ⟨sd', m1, m2⟩ := back_l50_ev (images := images) (iforce := iforce) (ix := ix) (made := made) (fo := iforce K) (xx := ix K) (un := nn 0) (show K < 4 by omega) 156 0 FU said (by omega) (by unfold FU; omega) (fun j hj => by omega)
    have w2 : wdR R sd' (iforce K) (ix K) (pw K) q2 q3 q4 := wd_copy b3 c2 c3 c4 c5 m2
    rw [b1, b2, ifn1, ifn1, rq_inb (by omega) (by omega), ltp, c1, bs, rq_inb (by omega) (by omega), ltp, rq_inb (by omega) (by omega), ltp, li0, m1]
    unfold mPast_forget
    rw [bs]
    dsimp only
    rw [wd_min w2]
    exact ⟨_, _, _, _, _, _, _, _, _, _, rfl, rfl, h1, h2, h3, R, hR, w2, ⟨0, nx, by omega, u2, rfl, rfl, u5, fun i hi => by omega⟩, h7⟩
end acts
