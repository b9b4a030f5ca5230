/-! asks -/
section asks
variable {g0 : tyNextStall} {g1 : tyTape} {g3 : tyWorld} {g4 g5 : tyFair} {g6 : tyNotes} {g7 : tyPast} {pr : Nat → tyRule} {pf : Nat → tyFair} {pw : Nat → tyWorld} {pt pn : Nat → tyFair} {po : Nat → tyNotes}
  {tape : Nat → Int32} {taped rules : Int32} {sign clause clauses said : Nat → Int32} {force x absent rain : Int32} {was : Nat → Int32} {undone : Int32} {images iforce ix made : Nat → Int32}
theorem T_pence (h : INV g0 g1 g3 g4 g5 g6 g7 pr pf pw pt pn po tape taped rules sign clause clauses said force x absent rain was undone images iforce ix made) (a b : Int32) : ∃ v, mNextStall_pence a b g5 = some v ∧ m_pence a b said = some v := by
  obtain ⟨h1, h2, h3, R, hR, h5, h6, h7⟩ := h
  obtain ⟨N, B, hN, hB, s3, c3, s4, c4, hop⟩ := wd_st h5
  unfold mNextStall_pence m_pence
  rw [cisStall_ev (by omega) c3, misStall_ev (by omega) s3, bs, bs]
  by_cases e1 : ¬ wi b 0 ((N : Int) - 1) = true
  · rw [ifb_f e1, ifb_f e1]; exact ⟨_, rfl, rfl⟩
  replace e1 := Classical.not_not.1 e1
  rw [ifb_t e1, ifb_t e1, within_ev, in_ev, bs, bs, show (0 : Int32).toInt = 0 from rfl, show (9999 : Int32).toInt = 9999 from rfl, show (0 : Int64).toInt = 0 from rfl, show (9999 : Int64).toInt = 9999 from rfl]
  by_cases e2 : ¬ wi a 0 9999 = true
  · rw [ifb_f e2, ifb_f e2]; exact ⟨_, rfl, rfl⟩
  replace e2 := Classical.not_not.1 e2
  rw [ifb_t e2, ifb_t e2]
  obtain ⟨st, hs, es⟩ := wi_st e1
  obtain ⟨much, _, hm, em⟩ := wi_nn (a := 0) (b := 9999) e2
  subst es; subst em
  obtain ⟨L, rg, pl, ho⟩ := hop (Or.inl (by omega))
  have hF := ho.2.1
  obtain ⟨T, W, G, K, _, _, hv, hsum⟩ := ho.2.2.1
  have hle : sm N (fun s => W s) ≤ 4800 := Nat.le_trans (sm_mono (fun s _ => by omega)) hsum
  have hW : ∀ s, s < N → said (11 + 4 * s + 3) = nn (W s) ∧ g5.2.2.2.2.2.2.2.2.2.1 s = nn (W s) ∧ W s ≤ 4800 := fun s hs => ⟨(hv s hs).2.2, (hF.1.2.2.1 s hs).trans (hv s hs).2.2, by have := bd_one hsum hs; omega⟩
  have hz : sm N (fun s => W s) = sm N (fun j => W (0 + j)) := sm_congr (fun s _ => by rw [Nat.zero_add])
  have ec : sI g5.2.2.2.2.2.2.2.2.2.1 N 0 (nn 0) = nn (sm N (fun s => W s)) := by
    rw [sI_congr N 0 (nn 0) (fun j _ hj => (hW j (by omega)).2.1), sI_nn, Nat.zero_add, ← hz]
  have em : sI (fun s => said (11 + 4 * s + 3)) N 0 (nn 0) = nn (sm N (fun s => W s)) := by
    rw [sI_congr (g := fun s => nn (W s)) N 0 (nn 0) (fun j _ hj => (hW j (by omega)).1), sI_nn, Nat.zero_add, ← hz]
  have hws := (hW st hs)
  generalize hal : sm N (fun s => W s) = al at ec em hle
  rw [li3, sumAll_ev hN (by omega) s3, em, bs]
  unfold mFair_partOf
  rw [sum_w hN c3, ec, bs, ltp, nn_ll (by omega), li0, show (0 : Int64) = ll 0 from rfl]
  have hg : (nn 0 < lg_cmp (ll al) (ll 0)) = (0 < al) := by rw [lgc_gt, ll_lt (by omega) (by omega)]
  by_cases e3 : al = 0
  · rw [ifeq_t e3, if_neg (by rw [hg]; omega)]
    exact ⟨_, rfl, rfl⟩
  · have hp : much * W st ≤ 9999 * 4800 := Nat.mul_le_mul hm hws.2.2
    rw [ifeq_f e3 (by omega) (by omega), if_pos (by rw [hg]; omega), wealthOf_ev (by omega), bs, hws.1, ltp, ltp, nn_mul, nn_ll (by omega), rq_inb (by omega) (by omega), rq_dec (show ¬ ll al = ll 0 by rw [ll_inj (by omega) (by omega)]; exact e3), ltp, nn_tn (by omega), hws.2.1, nn_ll (by omega), ll_mul, ll_mod (by omega) (by omega), c3]
    obtain ⟨A, p1, p2⟩ := pence_loop (d := said) (wealth := g5.2.2.2.2.2.2.2.2.2.1) (much := much) (st := st) (al := al) hN s3 hW hm hs (by omega) hle N 0 FU 0 (nn much) (ll much) (by omega) (by unfold FU; omega) (by omega) (by rw [nn_toInt (by omega), ll_toInt (by omega)]) (by rw [nn_toInt (by omega)]; omega) (by rw [nn_toInt (by omega)]; omega)
    rw [p1, p2, bs]
    exact ⟨_, rfl, rfl⟩
end asks
