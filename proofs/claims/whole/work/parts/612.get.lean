/-! calls that tell, and two that set -/
theorem ifb_t {α : Type} {c : Bool} {x y : α} (h : c = true) : (if b01 (c = true) = (0 : Int32) then x else y) = y := if_neg (by rw [li0, b01_0]; exact fun h2 => h2 h)
theorem ifb_f {α : Type} {c : Bool} {x y : α} (h : ¬ c = true) : (if b01 (c = true) = (0 : Int32) then x else y) = x := if_pos (by rw [li0, b01_0]; exact h)
section get
variable {g0 : tyNextStall} {g1 : tyTape} {g3 : tyWorld} {g4 g5 : tyFair} {g6 : tyNotes} {g7 : tyPast} {pr : Nat → tyRule} {pf : Nat → tyFair} {pw : Nat → tyWorld} {pt pn : Nat → tyFair} {po : Nat → tyNotes}
  {tape : Nat → Int32} {taped rules : Int32} {sign clause clauses said : Nat → Int32} {force x absent rain : Int32} {was : Nat → Int32} {undone : Int32} {images iforce ix made : Nat → Int32}
/-- stalls and buyers of both, open or not -/
theorem wd_st {R : Nat} {said : Nat → Int32} {force x : Int32} {w : tyWorld} {told now : tyFair} {no : tyNotes} (h : wdR R said force x w told now no) : ∃ N B, N ≤ 6 ∧ B ≤ 6 ∧ said 3 = nn N ∧ now.2.2.1 = nn N ∧ said 4 = nn B ∧ now.2.2.2.1 = nn B ∧ (0 < N ∨ 0 < B → ∃ L rg pl, opR N B L rg pl said told now no) := by
  obtain ⟨_, _, _, _, h⟩ := h
  rcases h with ⟨_, _, ⟨⟨_, _, c3, c4, _⟩, ⟨_, _, d3, d4, _⟩, _⟩⟩ | ⟨_, _, N, B, L, rg, pl, ho⟩
  · exact ⟨0, 0, by omega, by omega, c3, d3, c4, d4, fun h => by omega⟩
  · have ho' := ho
    obtain ⟨_, hF, _⟩ := ho'
    have hf := hF.1.2.2.2.2.1
    exact ⟨N, B, hf.1, hf.2.1, hf.2.2.2.2.1, by rw [hF.1.1.2.1, hf.2.2.2.2.1], hf.2.2.2.2.2.1, by rw [hF.1.1.2.2.1, hf.2.2.2.2.2.1], fun _ => ⟨L, rg, pl, ho⟩⟩
theorem wd_force {R : Nat} {said : Nat → Int32} {force x f' : Int32} {w : tyWorld} {told now : tyFair} {no : tyNotes} (h : wdR R said force x w told now no) (hf : f' = -nn 1 ∨ ∃ t, t < R ∧ f' = nn t) : wdR R said f' x (w.1, f', w.2.2) told now no := by
  obtain ⟨_, h2, h3, _, h5⟩ := h
  exact ⟨rfl, h2, h3, hf, h5⟩
theorem T_force (h : INV g0 g1 g3 g4 g5 g6 g7 pr pf pw pt pn po tape taped rules sign clause clauses said force x absent rain was undone images iforce ix made) (a : Int32) : ∃ v g3' force', mNextStall_force a g0 g3 = some (v, g3') ∧ m_force a rules force = some (v, force') ∧ INV g0 g1 g3' g4 g5 g6 g7 pr pf pw pt pn po tape taped rules sign clause clauses said force' x absent rain was undone images iforce ix made := by
  have h0 := h
  obtain ⟨h1, h2, h3, R, ⟨a1, a2, a3, a4⟩, h5, h6, h7⟩ := h
  subst a3
  have e1 : (-nn 1).toInt = -1 := by decide
  unfold mNextStall_force m_force
  rw [within_ev, bs, a2, li1, nn_pred (by omega), e1, li0, show g3.2.1 = force from h5.1]
  by_cases e : wi a (-1) ((R : Int) - 1) = true
  · rw [if_neg (by rw [b01_0]; exact fun h => h e)]
    rw [wi_iff] at e
    by_cases e2 : a = -nn 1
    · rw [if_pos e2]
      exact ⟨_, _, a, rfl, rfl, h1, h2, h3, R, ⟨a1, a2, rfl, a4⟩, wd_force h5 (Or.inl e2), h6, h7⟩
    · have h0 : wi a 0 ((R : Int) - 1) = true := by
        rw [wi_iff]
        have : a.toInt ≠ -1 := fun h => e2 (i_eq (by rw [h, e1]))
        omega
      obtain ⟨t, ht, et⟩ := wi_st h0
      subst et
      unfold m_isRule
      rw [if_neg e2, li0, iflt_f (by omega) (by omega), ifle_f ht (by omega), bs, li1, ifeq_f (by omega) (by omega) (by omega)]
      exact ⟨_, _, nn t, rfl, rfl, h1, h2, h3, R, ⟨a1, a2, rfl, a4⟩, wd_force h5 (Or.inr ⟨t, ht, rfl⟩), h6, h7⟩
  · rw [if_pos (by rw [b01_0]; exact e)]
    rw [wi_iff] at e
    have e2 : ¬ a = -nn 1 := fun h => e (by rw [h, e1]; omega)
    refine ⟨_, g3, force, rfl, ?_, h0⟩
    unfold m_isRule
    rw [if_neg e2, li0, li1]
    by_cases e3 : a < nn 0
    · rw [if_pos e3, bs, ifeq_t rfl]
    · rw [if_neg e3]
      rw [Int32.lt_iff_toInt_lt, show (nn 0).toInt = 0 from rfl] at e3
      rw [if_pos (by rw [Int32.le_iff_toInt_le, nn_toInt (by omega)]; omega), bs, ifeq_t rfl]
theorem T_seed (h : INV g0 g1 g3 g4 g5 g6 g7 pr pf pw pt pn po tape taped rules sign clause clauses said force x absent rain was undone images iforce ix made) (a : Int32) : ∃ v g3' x', mNextStall_seed a g3 = some (v, g3') ∧ m_seed a x = some (v, x') ∧ INV g0 g1 g3' g4 g5 g6 g7 pr pf pw pt pn po tape taped rules sign clause clauses said force x' absent rain was undone images iforce ix made := by
  have h0 := h
  obtain ⟨h1, h2, h3, R, hR, ⟨b1, b2, b3, b4, b5⟩, h6, h7⟩ := h
  unfold mNextStall_seed m_seed
  rw [li0]
  by_cases e : nn 0 ≤ a
  · rw [if_pos e, if_pos e, b2]
    have e2 : wi a 0 (2147483647 : Nat) = true := by
      rw [wi_iff]
      rw [Int32.le_iff_toInt_le, show (nn 0).toInt = 0 from rfl] at e
      have := Int32.toInt_lt a
      omega
    obtain ⟨k, _, hk, ek⟩ := wi_nn (a := 0) e2
    exact ⟨_, _, a, rfl, rfl, h1, h2, h3, R, hR, ⟨b1, rfl, ⟨k, by omega, ek⟩, b4, b5⟩, h6, h7⟩
  · rw [if_neg e, if_neg e]
    exact ⟨_, g3, x, rfl, rfl, h0⟩
theorem T_stall (h : INV g0 g1 g3 g4 g5 g6 g7 pr pf pw pt pn po tape taped rules sign clause clauses said force x absent rain was undone images iforce ix made) (a w : Int32) : ∃ v, mNextStall_stall a w g5 = some v ∧ m_stall a w said = some v := by
  obtain ⟨h1, h2, h3, R, hR, h5, h6, h7⟩ := h
  obtain ⟨N, B, hN, hB, s3, c3, s4, c4, hop⟩ := wd_st h5
  unfold mNextStall_stall m_stall
  rw [cisStall_ev (by omega) c3, misStall_ev (by omega) s3, bs, bs]
  by_cases e : wi a 0 ((N : Int) - 1) = true
  · rw [ifb_t e, ifb_t e]
    obtain ⟨k, hk, ek⟩ := wi_st e
    subst ek
    obtain ⟨L, rg, pl, hr, hF, _⟩ := hop (Or.inl (by omega))
    have hf := hF.1.2.2.2.2.1
    by_cases e0 : w = nn 0
    · subst e0
      rw [if_pos (id rfl : nn 0 = (0 : Int32)), if_pos (id rfl : nn 0 = (0 : Int32))]
      rw [rq_inb (by omega) (by omega), nn_tn (by omega), hF.1.2.1.1 k hk, li11, li4, nn_mul, nn_add, nn_add, rq_inb (by omega) (by omega), nn_tn (by omega)]
      exact ⟨_, rfl, rfl⟩
    by_cases e1 : w = nn 1
    · subst e1
      rw [if_neg (by decide : ¬ nn 1 = (0 : Int32)), if_pos (id rfl : nn 1 = (1 : Int32)), if_neg (by decide : ¬ nn 1 = (0 : Int32)), if_pos (id rfl : nn 1 = (1 : Int32))]
      rw [rq_inb (by omega) (by omega), nn_tn (by omega), hF.1.1.2.2.2.2.1 k hk, li11, li4, nn_mul, nn_add, nn_add, rq_inb (by omega) (by omega), nn_tn (by omega)]
      exact ⟨_, rfl, rfl⟩
    by_cases e2 : w = nn 2
    · subst e2
      rw [if_neg (by decide : ¬ nn 2 = (0 : Int32)), if_neg (by decide : ¬ nn 2 = (1 : Int32)), if_pos (id rfl : nn 2 = (2 : Int32)), if_neg (by decide : ¬ nn 2 = (0 : Int32)), if_neg (by decide : ¬ nn 2 = (1 : Int32)), if_pos (id rfl : nn 2 = (2 : Int32))]
      rw [rq_inb (by omega) (by omega), nn_tn (by omega), hF.1.2.1.2.1 k hk, li11, li4, nn_mul, nn_add, nn_add, rq_inb (by omega) (by omega), nn_tn (by omega)]
      exact ⟨_, rfl, rfl⟩
    by_cases e3 : w = nn 3
    · subst e3
      rw [if_neg (by decide : ¬ nn 3 = (0 : Int32)), if_neg (by decide : ¬ nn 3 = (1 : Int32)), if_neg (by decide : ¬ nn 3 = (2 : Int32)), if_pos (id rfl : nn 3 = (3 : Int32)), if_neg (by decide : ¬ nn 3 = (0 : Int32)), if_neg (by decide : ¬ nn 3 = (1 : Int32)), if_neg (by decide : ¬ nn 3 = (2 : Int32)), if_pos (id rfl : nn 3 = (3 : Int32))]
      rw [rq_inb (by omega) (by omega), nn_tn (by omega), hF.1.2.2.1 k hk, li11, li4, nn_mul, nn_add, nn_add, rq_inb (by omega) (by omega), nn_tn (by omega)]
      exact ⟨_, rfl, rfl⟩
    by_cases e4 : w = nn 4
    · subst e4
      rw [if_neg (by decide : ¬ nn 4 = (0 : Int32)), if_neg (by decide : ¬ nn 4 = (1 : Int32)), if_neg (by decide : ¬ nn 4 = (2 : Int32)), if_neg (by decide : ¬ nn 4 = (3 : Int32)), if_pos (id rfl : nn 4 = (4 : Int32)), if_neg (by decide : ¬ nn 4 = (0 : Int32)), if_neg (by decide : ¬ nn 4 = (1 : Int32)), if_neg (by decide : ¬ nn 4 = (2 : Int32)), if_neg (by decide : ¬ nn 4 = (3 : Int32)), if_pos (id rfl : nn 4 = (4 : Int32))]
      rw [cplaceOf_ev hN hr c3 (fun j hj => by rw [hF.2.2.1 j hj]; exact hf.2.2.2.2.2.2.2 j hj) hk, placeOf_ev hN hr hf.2.2.2.2.2.2.2 hk]
      exact ⟨_, rfl, rfl⟩
    by_cases e5 : w = nn 5
    · subst e5
      rw [if_neg (by decide : ¬ nn 5 = (0 : Int32)), if_neg (by decide : ¬ nn 5 = (1 : Int32)), if_neg (by decide : ¬ nn 5 = (2 : Int32)), if_neg (by decide : ¬ nn 5 = (3 : Int32)), if_neg (by decide : ¬ nn 5 = (4 : Int32)), if_pos (id rfl : nn 5 = (5 : Int32)), if_neg (by decide : ¬ nn 5 = (0 : Int32)), if_neg (by decide : ¬ nn 5 = (1 : Int32)), if_neg (by decide : ¬ nn 5 = (2 : Int32)), if_neg (by decide : ¬ nn 5 = (3 : Int32)), if_neg (by decide : ¬ nn 5 = (4 : Int32)), if_pos (id rfl : nn 5 = (5 : Int32))]
      rw [rq_inb (by omega) (by omega), nn_tn (by omega), hF.1.1.2.2.2.2.2.2.1 k hk, sellerOf_ev hN hr hf.2.2.2.2.2.2.2 s3 hk]
      exact ⟨_, rfl, rfl⟩
    by_cases e6 : w = nn 6
    · subst e6
      rw [if_neg (by decide : ¬ nn 6 = (0 : Int32)), if_neg (by decide : ¬ nn 6 = (1 : Int32)), if_neg (by decide : ¬ nn 6 = (2 : Int32)), if_neg (by decide : ¬ nn 6 = (3 : Int32)), if_neg (by decide : ¬ nn 6 = (4 : Int32)), if_neg (by decide : ¬ nn 6 = (5 : Int32)), if_pos (id rfl : nn 6 = (6 : Int32)), if_neg (by decide : ¬ nn 6 = (0 : Int32)), if_neg (by decide : ¬ nn 6 = (1 : Int32)), if_neg (by decide : ¬ nn 6 = (2 : Int32)), if_neg (by decide : ¬ nn 6 = (3 : Int32)), if_neg (by decide : ¬ nn 6 = (4 : Int32)), if_neg (by decide : ¬ nn 6 = (5 : Int32)), if_pos (id rfl : nn 6 = (6 : Int32))]
      rw [rq_inb (by omega) (by omega), nn_tn (by omega), hF.1.1.2.2.2.2.2.2.2.1 k hk, praiseOf_ev hN hr hf.2.2.2.2.2.2.2 s3 hk]
      exact ⟨_, rfl, rfl⟩
    by_cases e7 : w = nn 7
    · subst e7
      rw [if_neg (by decide : ¬ nn 7 = (0 : Int32)), if_neg (by decide : ¬ nn 7 = (1 : Int32)), if_neg (by decide : ¬ nn 7 = (2 : Int32)), if_neg (by decide : ¬ nn 7 = (3 : Int32)), if_neg (by decide : ¬ nn 7 = (4 : Int32)), if_neg (by decide : ¬ nn 7 = (5 : Int32)), if_neg (by decide : ¬ nn 7 = (6 : Int32)), if_pos (id rfl : nn 7 = (7 : Int32)), if_neg (by decide : ¬ nn 7 = (0 : Int32)), if_neg (by decide : ¬ nn 7 = (1 : Int32)), if_neg (by decide : ¬ nn 7 = (2 : Int32)), if_neg (by decide : ¬ nn 7 = (3 : Int32)), if_neg (by decide : ¬ nn 7 = (4 : Int32)), if_neg (by decide : ¬ nn 7 = (5 : Int32)), if_neg (by decide : ¬ nn 7 = (6 : Int32)), if_pos (id rfl : nn 7 = (7 : Int32))]
      rw [rq_inb (by omega) (by omega), nn_tn (by omega), hF.2.2.2 k hk, li41, nn_add, rq_inb (by omega) (by omega), nn_tn (by omega)]
      exact ⟨_, rfl, rfl⟩
    by_cases e8 : w = nn 8
    · subst e8
      rw [if_neg (by decide : ¬ nn 8 = (0 : Int32)), if_neg (by decide : ¬ nn 8 = (1 : Int32)), if_neg (by decide : ¬ nn 8 = (2 : Int32)), if_neg (by decide : ¬ nn 8 = (3 : Int32)), if_neg (by decide : ¬ nn 8 = (4 : Int32)), if_neg (by decide : ¬ nn 8 = (5 : Int32)), if_neg (by decide : ¬ nn 8 = (6 : Int32)), if_neg (by decide : ¬ nn 8 = (7 : Int32)), if_pos (id rfl : nn 8 = (8 : Int32)), if_neg (by decide : ¬ nn 8 = (0 : Int32)), if_neg (by decide : ¬ nn 8 = (1 : Int32)), if_neg (by decide : ¬ nn 8 = (2 : Int32)), if_neg (by decide : ¬ nn 8 = (3 : Int32)), if_neg (by decide : ¬ nn 8 = (4 : Int32)), if_neg (by decide : ¬ nn 8 = (5 : Int32)), if_neg (by decide : ¬ nn 8 = (6 : Int32)), if_neg (by decide : ¬ nn 8 = (7 : Int32)), if_pos (id rfl : nn 8 = (8 : Int32))]
      rw [rq_inb (by omega) (by omega), nn_tn (by omega), hF.1.2.1.2.2.1 k hk, li101, nn_add, rq_inb (by omega) (by omega), nn_tn (by omega), goodsOf_ev (by omega)]
      exact ⟨_, rfl, rfl⟩
    rw [if_neg (show ¬ w = (0 : Int32) from e0), if_neg (show ¬ w = (1 : Int32) from e1), if_neg (show ¬ w = (2 : Int32) from e2), if_neg (show ¬ w = (3 : Int32) from e3), if_neg (show ¬ w = (4 : Int32) from e4), if_neg (show ¬ w = (5 : Int32) from e5), if_neg (show ¬ w = (6 : Int32) from e6), if_neg (show ¬ w = (7 : Int32) from e7), if_neg (show ¬ w = (8 : Int32) from e8)]
    rw [if_neg (show ¬ w = (0 : Int32) from e0), if_neg (show ¬ w = (1 : Int32) from e1), if_neg (show ¬ w = (2 : Int32) from e2), if_neg (show ¬ w = (3 : Int32) from e3), if_neg (show ¬ w = (4 : Int32) from e4), if_neg (show ¬ w = (5 : Int32) from e5), if_neg (show ¬ w = (6 : Int32) from e6), if_neg (show ¬ w = (7 : Int32) from e7), if_neg (show ¬ w = (8 : Int32) from e8)]
    exact ⟨_, rfl, rfl⟩
  · rw [ifb_f e, ifb_f e]
    exact ⟨_, rfl, rfl⟩
theorem mbuyer_l58_ev {N b : Nat} (hN : N ≤ 6) (hb : b < 6) (s3 : said 3 = nn N) : ∀ (k s f : Nat) (y : Int32), s + k = N → k < f → m_buyer_l58 said (nn b) f y (nn s) = some (allS (cnS said b) k s y) := by
  intro k
  induction k with
  | zero =>
    intro s f y h1 h2
    match f, h2 with
    | f + 1, _ =>
    unfold m_buyer_l58
    rw [li3, rq_inb (by omega) (by omega), nn_tn (by omega), s3, ifle_t (by omega) (by omega)]
    rfl
  | succ k ih =>
    intro s f y h1 h2
    match f, h2 with
    | f + 1, h2 =>
    unfold m_buyer_l58
    rw [li3, rq_inb (by omega) (by omega), nn_tn (by omega), s3, ifle_f (by omega) (by omega), canBuy_ev hb (by omega), bs, ltp, ltp, li0, li1, show (31 : Int32) = nn 31 from id rfl, nn_add, show y ||| nn 0 = y from Int32.or_zero]
    unfold allS
    by_cases hc : cnS said b s = true
    · rw [if_neg (by rw [b01_0]; exact fun h => h hc), if_pos hc]
      exact ih (s + 1) f _ (by omega) (by omega)
    · rw [if_pos (by rw [b01_0]; exact hc), if_neg hc]
      exact ih (s + 1) f _ (by omega) (by omega)
theorem T_buyer (h : INV g0 g1 g3 g4 g5 g6 g7 pr pf pw pt pn po tape taped rules sign clause clauses said force x absent rain was undone images iforce ix made) (a w : Int32) : ∃ v, mNextStall_buyer a w g5 = some v ∧ m_buyer a w said = some v := by
  obtain ⟨h1, h2, h3, R, hR, h5, h6, h7⟩ := h
  obtain ⟨N, B, hN, hB, s3, c3, s4, c4, hop⟩ := wd_st h5
  unfold mNextStall_buyer m_buyer
  rw [cisBuyer_ev (by omega) c4, misBuyer_ev (by omega) s4, bs, bs, in_ev, bs, show (0 : Int64).toInt = 0 from rfl, show (2 : Int64).toInt = 2 from rfl]
  by_cases e : wi a 0 ((B : Int) - 1) = true
  · rw [ifb_t e, ifb_t e]
    obtain ⟨k, hk, ek⟩ := wi_st e
    subst ek
    obtain ⟨L, rg, pl, hr, hF, _⟩ := hop (Or.inr (by omega))
    have hf := hF.1.2.2.2.2.1
    by_cases e0 : w = nn 0
    · subst e0
      rw [if_pos (id rfl : nn 0 = (0 : Int32)), ifb_t (show wi (nn 0) 0 2 = true by decide), if_neg (by decide : ¬ (2 : Int32) ≤ nn 0), if_pos (id rfl : nn 0 = (0 : Int32)), rq_inb (by omega) (by omega), nn_tn (by omega), hF.1.2.1.2.2.2.1 k hk, li47, nn_add, rq_inb (by omega) (by omega), nn_tn (by omega)]
      exact ⟨_, rfl, rfl⟩
    by_cases e1 : w = nn 1
    · subst e1
      rw [if_neg (by decide : ¬ nn 1 = (0 : Int32)), if_pos (id rfl : nn 1 = (1 : Int32)), ifb_t (show wi (nn 1) 0 2 = true by decide), if_neg (by decide : ¬ (2 : Int32) ≤ nn 1), if_neg (by decide : ¬ nn 1 = (0 : Int32)), rq_inb (by omega) (by omega), nn_tn (by omega), hF.1.1.2.2.2.2.2.1 k hk, li95, nn_add, rq_inb (by omega) (by omega), nn_tn (by omega)]
      exact ⟨_, rfl, rfl⟩
    by_cases e2 : w = nn 2
    · subst e2
      rw [if_neg (by decide : ¬ nn 2 = (0 : Int32)), if_neg (by decide : ¬ nn 2 = (1 : Int32)), if_pos (id rfl : nn 2 = (2 : Int32)), ifb_t (show wi (nn 2) 0 2 = true by decide), if_pos (by decide : (2 : Int32) ≤ nn 2), allThatCan_ev hF.1.1 hF.1.2.1 hf hk, li0, mbuyer_l58_ev hN (by omega) s3 N 0 FU (nn 0) (by omega) (by unfold FU; omega)]
      exact ⟨_, rfl, rfl⟩
    · rw [if_neg (show ¬ w = (0 : Int32) from e0), if_neg (show ¬ w = (1 : Int32) from e1), if_neg (show ¬ w = (2 : Int32) from e2), ifb_f (by
        intro h
        obtain ⟨j, _, hj, ej⟩ := wi_nn (a := 0) (b := 2) h
        subst ej
        have : j = 0 ∨ j = 1 ∨ j = 2 := by omega
        rcases this with h | h | h <;> subst h
        · exact e0 rfl
        · exact e1 rfl
        · exact e2 rfl)]
      exact ⟨_, rfl, rfl⟩
  · rw [ifb_f e, ifb_f e]
    exact ⟨_, rfl, rfl⟩
theorem T_had (h : INV g0 g1 g3 g4 g5 g6 g7 pr pf pw pt pn po tape taped rules sign clause clauses said force x absent rain was undone images iforce ix made) (a w : Int32) : ∃ v, mNextStall_had a w g5 = some v ∧ m_had a w said = some v := by
  obtain ⟨h1, h2, h3, R, hR, h5, h6, h7⟩ := h
  obtain ⟨N, B, hN, hB, s3, c3, s4, c4, hop⟩ := wd_st h5
  unfold mNextStall_had m_had
  rw [cisBuyer_ev (by omega) c4, misBuyer_ev (by omega) s4, cisStall_ev (by omega) c3, misStall_ev (by omega) s3, bs, bs, bs, bs]
  by_cases e : wi a 0 ((B : Int) - 1) = true
  · rw [ifb_t e, ifb_t e]
    by_cases e2 : wi w 0 ((N : Int) - 1) = true
    · rw [ifb_t e2, ifb_t e2]
      obtain ⟨k, hk, ek⟩ := wi_st e
      obtain ⟨j, hj, ej⟩ := wi_st e2
      subst ek; subst ej
      obtain ⟨L, rg, pl, hr, hF, _⟩ := hop (Or.inr (by omega))
      rw [li6, li53, nn_mul, nn_add, nn_mul, nn_add, nn_add, rq_inb (by omega) (by omega), nn_tn (by omega), rq_inb (by omega) (by omega), nn_tn (by omega), hF.1.2.1.2.2.2.2 k j hk hj]
      exact ⟨_, rfl, rfl⟩
    · rw [ifb_f e2, ifb_f e2]
      exact ⟨_, rfl, rfl⟩
  · rw [ifb_f e, ifb_f e]
    exact ⟨_, rfl, rfl⟩
theorem T_count (h : INV g0 g1 g3 g4 g5 g6 g7 pr pf pw pt pn po tape taped rules sign clause clauses said force x absent rain was undone images iforce ix made) (w : Int32) : ∃ v, mNextStall_count w g0 g1 g3 g5 g6 g7 = some v ∧ m_count w taped rules said force x undone = some v := by
  obtain ⟨⟨T, t1, t2, t3, t4, t5⟩, h2, h3, R, ⟨a1, a2, a3, a4⟩, h5, ⟨u, nx, u1, u2, u3, u4, u5⟩, h7⟩ := h
  obtain ⟨N, B, hN, hB, s3, c3, s4, c4, hop⟩ := wd_st h5
  have hz : said 1 = g5.1 ∧ said 2 = g5.2.1 ∧ said 10 = g5.2.2.2.2.1 ∧ said 155 = g6.2.2.2 ∧ (∀ s, s < N → g5.2.2.2.2.2.1 s = said (11 + 4 * s) ∧ g5.2.2.2.2.2.2.2.2.2.1 s = said (11 + 4 * s + 3) ∧ g5.2.2.2.2.2.2.2.2.1 s = said (11 + 4 * s + 2)) := by
    obtain ⟨_, _, _, _, h⟩ := h5
    rcases h with ⟨_, _, ⟨⟨b1, b2, b3, b4, b5, b6⟩, ⟨d1, d2, d3, d4, d5⟩, b7⟩⟩ | ⟨_, _, N', B', L, rg, pl, hr, hF, _, _, _, _, n, nr, nc, hn, hc⟩
    · refine ⟨by rw [b1, d1], by rw [b2, d2], by rw [b5, d5], by rw [b6, b7], fun s hs => ?_⟩
      rw [b3, nn_inj (by omega) (by omega)] at s3
      omega
    · have hf := hF.1.2.2.2.2.1
      have e3 := hf.2.2.2.2.1
      have hN' := hf.1
      rw [s3, nn_inj (by omega) (by omega)] at e3
      subst e3
      exact ⟨hF.1.1.1.symm, hF.1.2.2.2.1.symm, hF.1.1.2.2.2.1.symm, by rw [hn.2.1, hc.2.1.1], fun s hs => ⟨hF.1.2.1.1 s hs, hF.1.2.2.1 s hs, hF.1.2.1.2.1 s hs⟩⟩
  unfold mNextStall_count m_count
  by_cases e0 : w = nn 0
  · subst e0
    rw [if_pos (id rfl : nn 0 = (0 : Int32)), if_pos (id rfl : nn 0 = (0 : Int32))]
    rw [li1, nn_add, rq_inb (by omega) (by omega), nn_tn (by omega), hz.1]
    exact ⟨_, rfl, rfl⟩
  by_cases e1 : w = nn 1
  · subst e1
    rw [if_neg (by decide : ¬ nn 1 = (0 : Int32)), if_pos (id rfl : nn 1 = (1 : Int32)), if_neg (by decide : ¬ nn 1 = (0 : Int32)), if_pos (id rfl : nn 1 = (1 : Int32))]
    rw [li1, nn_add, rq_inb (by omega) (by omega), nn_tn (by omega), hz.2.1]
    exact ⟨_, rfl, rfl⟩
  by_cases e2 : w = nn 2
  · subst e2
    rw [if_neg (by decide : ¬ nn 2 = (0 : Int32)), if_neg (by decide : ¬ nn 2 = (1 : Int32)), if_pos (id rfl : nn 2 = (2 : Int32)), if_neg (by decide : ¬ nn 2 = (0 : Int32)), if_neg (by decide : ¬ nn 2 = (1 : Int32)), if_pos (id rfl : nn 2 = (2 : Int32))]
    rw [li1, nn_add, rq_inb (by omega) (by omega), nn_tn (by omega), s3, c3]
    exact ⟨_, rfl, rfl⟩
  by_cases e3 : w = nn 3
  · subst e3
    rw [if_neg (by decide : ¬ nn 3 = (0 : Int32)), if_neg (by decide : ¬ nn 3 = (1 : Int32)), if_neg (by decide : ¬ nn 3 = (2 : Int32)), if_pos (id rfl : nn 3 = (3 : Int32)), if_neg (by decide : ¬ nn 3 = (0 : Int32)), if_neg (by decide : ¬ nn 3 = (1 : Int32)), if_neg (by decide : ¬ nn 3 = (2 : Int32)), if_pos (id rfl : nn 3 = (3 : Int32))]
    rw [li1, nn_add, rq_inb (by omega) (by omega), nn_tn (by omega), s4, c4]
    exact ⟨_, rfl, rfl⟩
  by_cases e4 : w = nn 4
  · subst e4
    rw [if_neg (by decide : ¬ nn 4 = (0 : Int32)), if_neg (by decide : ¬ nn 4 = (1 : Int32)), if_neg (by decide : ¬ nn 4 = (2 : Int32)), if_neg (by decide : ¬ nn 4 = (3 : Int32)), if_pos (id rfl : nn 4 = (4 : Int32)), if_neg (by decide : ¬ nn 4 = (0 : Int32)), if_neg (by decide : ¬ nn 4 = (1 : Int32)), if_neg (by decide : ¬ nn 4 = (2 : Int32)), if_neg (by decide : ¬ nn 4 = (3 : Int32)), if_pos (id rfl : nn 4 = (4 : Int32))]
    rw [a2, a3]
    exact ⟨_, rfl, rfl⟩
  by_cases e5 : w = nn 5
  · subst e5
    rw [if_neg (by decide : ¬ nn 5 = (0 : Int32)), if_neg (by decide : ¬ nn 5 = (1 : Int32)), if_neg (by decide : ¬ nn 5 = (2 : Int32)), if_neg (by decide : ¬ nn 5 = (3 : Int32)), if_neg (by decide : ¬ nn 5 = (4 : Int32)), if_pos (id rfl : nn 5 = (5 : Int32)), if_neg (by decide : ¬ nn 5 = (0 : Int32)), if_neg (by decide : ¬ nn 5 = (1 : Int32)), if_neg (by decide : ¬ nn 5 = (2 : Int32)), if_neg (by decide : ¬ nn 5 = (3 : Int32)), if_neg (by decide : ¬ nn 5 = (4 : Int32)), if_pos (id rfl : nn 5 = (5 : Int32))]
    rw [h5.1]
    exact ⟨_, rfl, rfl⟩
  by_cases e6 : w = nn 6
  · subst e6
    rw [if_neg (by decide : ¬ nn 6 = (0 : Int32)), if_neg (by decide : ¬ nn 6 = (1 : Int32)), if_neg (by decide : ¬ nn 6 = (2 : Int32)), if_neg (by decide : ¬ nn 6 = (3 : Int32)), if_neg (by decide : ¬ nn 6 = (4 : Int32)), if_neg (by decide : ¬ nn 6 = (5 : Int32)), if_pos (id rfl : nn 6 = (6 : Int32)), if_neg (by decide : ¬ nn 6 = (0 : Int32)), if_neg (by decide : ¬ nn 6 = (1 : Int32)), if_neg (by decide : ¬ nn 6 = (2 : Int32)), if_neg (by decide : ¬ nn 6 = (3 : Int32)), if_neg (by decide : ¬ nn 6 = (4 : Int32)), if_neg (by decide : ¬ nn 6 = (5 : Int32)), if_pos (id rfl : nn 6 = (6 : Int32))]
    rw [li10, rq_inb (by omega) (by omega), nn_tn (by omega), hz.2.2.1]
    exact ⟨_, rfl, rfl⟩
  by_cases e7 : w = nn 7
  · subst e7
    rw [if_neg (by decide : ¬ nn 7 = (0 : Int32)), if_neg (by decide : ¬ nn 7 = (1 : Int32)), if_neg (by decide : ¬ nn 7 = (2 : Int32)), if_neg (by decide : ¬ nn 7 = (3 : Int32)), if_neg (by decide : ¬ nn 7 = (4 : Int32)), if_neg (by decide : ¬ nn 7 = (5 : Int32)), if_neg (by decide : ¬ nn 7 = (6 : Int32)), if_pos (id rfl : nn 7 = (7 : Int32)), if_neg (by decide : ¬ nn 7 = (0 : Int32)), if_neg (by decide : ¬ nn 7 = (1 : Int32)), if_neg (by decide : ¬ nn 7 = (2 : Int32)), if_neg (by decide : ¬ nn 7 = (3 : Int32)), if_neg (by decide : ¬ nn 7 = (4 : Int32)), if_neg (by decide : ¬ nn 7 = (5 : Int32)), if_neg (by decide : ¬ nn 7 = (6 : Int32)), if_pos (id rfl : nn 7 = (7 : Int32))]
    rw [sum_g hN c3, li0, sumAll_ev hN (by omega) s3, sI_congr N 0 _ (fun j _ hj => (hz.2.2.2.2 j (by omega)).1)]
    exact ⟨_, rfl, rfl⟩
  by_cases e8 : w = nn 8
  · subst e8
    rw [if_neg (by decide : ¬ nn 8 = (0 : Int32)), if_neg (by decide : ¬ nn 8 = (1 : Int32)), if_neg (by decide : ¬ nn 8 = (2 : Int32)), if_neg (by decide : ¬ nn 8 = (3 : Int32)), if_neg (by decide : ¬ nn 8 = (4 : Int32)), if_neg (by decide : ¬ nn 8 = (5 : Int32)), if_neg (by decide : ¬ nn 8 = (6 : Int32)), if_neg (by decide : ¬ nn 8 = (7 : Int32)), if_pos (id rfl : nn 8 = (8 : Int32)), if_neg (by decide : ¬ nn 8 = (0 : Int32)), if_neg (by decide : ¬ nn 8 = (1 : Int32)), if_neg (by decide : ¬ nn 8 = (2 : Int32)), if_neg (by decide : ¬ nn 8 = (3 : Int32)), if_neg (by decide : ¬ nn 8 = (4 : Int32)), if_neg (by decide : ¬ nn 8 = (5 : Int32)), if_neg (by decide : ¬ nn 8 = (6 : Int32)), if_neg (by decide : ¬ nn 8 = (7 : Int32)), if_pos (id rfl : nn 8 = (8 : Int32))]
    rw [sum_w hN c3, li3, sumAll_ev hN (by omega) s3, sI_congr N 0 _ (fun j _ hj => (hz.2.2.2.2 j (by omega)).2.1)]
    exact ⟨_, rfl, rfl⟩
  by_cases e9 : w = nn 9
  · subst e9
    rw [if_neg (by decide : ¬ nn 9 = (0 : Int32)), if_neg (by decide : ¬ nn 9 = (1 : Int32)), if_neg (by decide : ¬ nn 9 = (2 : Int32)), if_neg (by decide : ¬ nn 9 = (3 : Int32)), if_neg (by decide : ¬ nn 9 = (4 : Int32)), if_neg (by decide : ¬ nn 9 = (5 : Int32)), if_neg (by decide : ¬ nn 9 = (6 : Int32)), if_neg (by decide : ¬ nn 9 = (7 : Int32)), if_neg (by decide : ¬ nn 9 = (8 : Int32)), if_pos (id rfl : nn 9 = (9 : Int32)), if_neg (by decide : ¬ nn 9 = (0 : Int32)), if_neg (by decide : ¬ nn 9 = (1 : Int32)), if_neg (by decide : ¬ nn 9 = (2 : Int32)), if_neg (by decide : ¬ nn 9 = (3 : Int32)), if_neg (by decide : ¬ nn 9 = (4 : Int32)), if_neg (by decide : ¬ nn 9 = (5 : Int32)), if_neg (by decide : ¬ nn 9 = (6 : Int32)), if_neg (by decide : ¬ nn 9 = (7 : Int32)), if_neg (by decide : ¬ nn 9 = (8 : Int32)), if_pos (id rfl : nn 9 = (9 : Int32))]
    rw [sum_t hN c3, li2, sumAll_ev hN (by omega) s3, sI_congr N 0 _ (fun j _ hj => (hz.2.2.2.2 j (by omega)).2.2)]
    exact ⟨_, rfl, rfl⟩
  by_cases e10 : w = nn 10
  · subst e10
    rw [if_neg (by decide : ¬ nn 10 = (0 : Int32)), if_neg (by decide : ¬ nn 10 = (1 : Int32)), if_neg (by decide : ¬ nn 10 = (2 : Int32)), if_neg (by decide : ¬ nn 10 = (3 : Int32)), if_neg (by decide : ¬ nn 10 = (4 : Int32)), if_neg (by decide : ¬ nn 10 = (5 : Int32)), if_neg (by decide : ¬ nn 10 = (6 : Int32)), if_neg (by decide : ¬ nn 10 = (7 : Int32)), if_neg (by decide : ¬ nn 10 = (8 : Int32)), if_neg (by decide : ¬ nn 10 = (9 : Int32)), if_pos (id rfl : nn 10 = (10 : Int32)), if_neg (by decide : ¬ nn 10 = (0 : Int32)), if_neg (by decide : ¬ nn 10 = (1 : Int32)), if_neg (by decide : ¬ nn 10 = (2 : Int32)), if_neg (by decide : ¬ nn 10 = (3 : Int32)), if_neg (by decide : ¬ nn 10 = (4 : Int32)), if_neg (by decide : ¬ nn 10 = (5 : Int32)), if_neg (by decide : ¬ nn 10 = (6 : Int32)), if_neg (by decide : ¬ nn 10 = (7 : Int32)), if_neg (by decide : ¬ nn 10 = (8 : Int32)), if_neg (by decide : ¬ nn 10 = (9 : Int32)), if_pos (id rfl : nn 10 = (10 : Int32))]
    rw [li155, rq_inb (by omega) (by omega), nn_tn (by omega), hz.2.2.2.1]
    exact ⟨_, rfl, rfl⟩
  by_cases e11 : w = nn 11
  · subst e11
    rw [if_neg (by decide : ¬ nn 11 = (0 : Int32)), if_neg (by decide : ¬ nn 11 = (1 : Int32)), if_neg (by decide : ¬ nn 11 = (2 : Int32)), if_neg (by decide : ¬ nn 11 = (3 : Int32)), if_neg (by decide : ¬ nn 11 = (4 : Int32)), if_neg (by decide : ¬ nn 11 = (5 : Int32)), if_neg (by decide : ¬ nn 11 = (6 : Int32)), if_neg (by decide : ¬ nn 11 = (7 : Int32)), if_neg (by decide : ¬ nn 11 = (8 : Int32)), if_neg (by decide : ¬ nn 11 = (9 : Int32)), if_neg (by decide : ¬ nn 11 = (10 : Int32)), if_pos (id rfl : nn 11 = (11 : Int32)), if_neg (by decide : ¬ nn 11 = (0 : Int32)), if_neg (by decide : ¬ nn 11 = (1 : Int32)), if_neg (by decide : ¬ nn 11 = (2 : Int32)), if_neg (by decide : ¬ nn 11 = (3 : Int32)), if_neg (by decide : ¬ nn 11 = (4 : Int32)), if_neg (by decide : ¬ nn 11 = (5 : Int32)), if_neg (by decide : ¬ nn 11 = (6 : Int32)), if_neg (by decide : ¬ nn 11 = (7 : Int32)), if_neg (by decide : ¬ nn 11 = (8 : Int32)), if_neg (by decide : ¬ nn 11 = (9 : Int32)), if_neg (by decide : ¬ nn 11 = (10 : Int32)), if_pos (id rfl : nn 11 = (11 : Int32))]
    rw [u3, u4]
    exact ⟨_, rfl, rfl⟩
  by_cases e12 : w = nn 12
  · subst e12
    rw [if_neg (by decide : ¬ nn 12 = (0 : Int32)), if_neg (by decide : ¬ nn 12 = (1 : Int32)), if_neg (by decide : ¬ nn 12 = (2 : Int32)), if_neg (by decide : ¬ nn 12 = (3 : Int32)), if_neg (by decide : ¬ nn 12 = (4 : Int32)), if_neg (by decide : ¬ nn 12 = (5 : Int32)), if_neg (by decide : ¬ nn 12 = (6 : Int32)), if_neg (by decide : ¬ nn 12 = (7 : Int32)), if_neg (by decide : ¬ nn 12 = (8 : Int32)), if_neg (by decide : ¬ nn 12 = (9 : Int32)), if_neg (by decide : ¬ nn 12 = (10 : Int32)), if_neg (by decide : ¬ nn 12 = (11 : Int32)), if_pos (id rfl : nn 12 = (12 : Int32)), if_neg (by decide : ¬ nn 12 = (0 : Int32)), if_neg (by decide : ¬ nn 12 = (1 : Int32)), if_neg (by decide : ¬ nn 12 = (2 : Int32)), if_neg (by decide : ¬ nn 12 = (3 : Int32)), if_neg (by decide : ¬ nn 12 = (4 : Int32)), if_neg (by decide : ¬ nn 12 = (5 : Int32)), if_neg (by decide : ¬ nn 12 = (6 : Int32)), if_neg (by decide : ¬ nn 12 = (7 : Int32)), if_neg (by decide : ¬ nn 12 = (8 : Int32)), if_neg (by decide : ¬ nn 12 = (9 : Int32)), if_neg (by decide : ¬ nn 12 = (10 : Int32)), if_neg (by decide : ¬ nn 12 = (11 : Int32)), if_pos (id rfl : nn 12 = (12 : Int32))]
    rw [h5.2.1]
    exact ⟨_, rfl, rfl⟩
  by_cases e13 : w = nn 13
  · subst e13
    rw [if_neg (by decide : ¬ nn 13 = (0 : Int32)), if_neg (by decide : ¬ nn 13 = (1 : Int32)), if_neg (by decide : ¬ nn 13 = (2 : Int32)), if_neg (by decide : ¬ nn 13 = (3 : Int32)), if_neg (by decide : ¬ nn 13 = (4 : Int32)), if_neg (by decide : ¬ nn 13 = (5 : Int32)), if_neg (by decide : ¬ nn 13 = (6 : Int32)), if_neg (by decide : ¬ nn 13 = (7 : Int32)), if_neg (by decide : ¬ nn 13 = (8 : Int32)), if_neg (by decide : ¬ nn 13 = (9 : Int32)), if_neg (by decide : ¬ nn 13 = (10 : Int32)), if_neg (by decide : ¬ nn 13 = (11 : Int32)), if_neg (by decide : ¬ nn 13 = (12 : Int32)), if_pos (id rfl : nn 13 = (13 : Int32)), if_neg (by decide : ¬ nn 13 = (0 : Int32)), if_neg (by decide : ¬ nn 13 = (1 : Int32)), if_neg (by decide : ¬ nn 13 = (2 : Int32)), if_neg (by decide : ¬ nn 13 = (3 : Int32)), if_neg (by decide : ¬ nn 13 = (4 : Int32)), if_neg (by decide : ¬ nn 13 = (5 : Int32)), if_neg (by decide : ¬ nn 13 = (6 : Int32)), if_neg (by decide : ¬ nn 13 = (7 : Int32)), if_neg (by decide : ¬ nn 13 = (8 : Int32)), if_neg (by decide : ¬ nn 13 = (9 : Int32)), if_neg (by decide : ¬ nn 13 = (10 : Int32)), if_neg (by decide : ¬ nn 13 = (11 : Int32)), if_neg (by decide : ¬ nn 13 = (12 : Int32)), if_pos (id rfl : nn 13 = (13 : Int32))]
    rw [t2, t3]
    exact ⟨_, rfl, rfl⟩
  rw [if_neg (show ¬ w = (0 : Int32) from e0), if_neg (show ¬ w = (1 : Int32) from e1), if_neg (show ¬ w = (2 : Int32) from e2), if_neg (show ¬ w = (3 : Int32) from e3), if_neg (show ¬ w = (4 : Int32) from e4), if_neg (show ¬ w = (5 : Int32) from e5), if_neg (show ¬ w = (6 : Int32) from e6), if_neg (show ¬ w = (7 : Int32) from e7), if_neg (show ¬ w = (8 : Int32) from e8), if_neg (show ¬ w = (9 : Int32) from e9), if_neg (show ¬ w = (10 : Int32) from e10), if_neg (show ¬ w = (11 : Int32) from e11), if_neg (show ¬ w = (12 : Int32) from e12), if_neg (show ¬ w = (13 : Int32) from e13)]
  rw [if_neg (show ¬ w = (0 : Int32) from e0), if_neg (show ¬ w = (1 : Int32) from e1), if_neg (show ¬ w = (2 : Int32) from e2), if_neg (show ¬ w = (3 : Int32) from e3), if_neg (show ¬ w = (4 : Int32) from e4), if_neg (show ¬ w = (5 : Int32) from e5), if_neg (show ¬ w = (6 : Int32) from e6), if_neg (show ¬ w = (7 : Int32) from e7), if_neg (show ¬ w = (8 : Int32) from e8), if_neg (show ¬ w = (9 : Int32) from e9), if_neg (show ¬ w = (10 : Int32) from e10), if_neg (show ¬ w = (11 : Int32) from e11), if_neg (show ¬ w = (12 : Int32) from e12), if_neg (show ¬ w = (13 : Int32) from e13)]
  exact ⟨_, rfl, rfl⟩
end get
