/-! bits of grudges -/
def bt (k : Nat) : Int32 := nn 1 <<< (nn k &&& nn 31)
theorem bt_bv {k : Nat} (h : k < 6) : (bt k).toBitVec = BitVec.twoPow 32 k := by
  have : k = 0 ∨ k = 1 ∨ k = 2 ∨ k = 3 ∨ k = 4 ∨ k = 5 := by omega
  rcases this with h | h | h | h | h | h <;> subst h <;> decide
theorem gB_bit {x : Int32} {k : Nat} (h : k < 6) : gB x k = x.toBitVec.getLsbD k := by
  have e1 : (x >>> (nn k &&& nn 31)).toBitVec = x.toBitVec.sshiftRight k := by
    show BitVec.sshiftRight' x.toBitVec ((nn k &&& nn 31).toBitVec.smod 32) = _
    have : k = 0 ∨ k = 1 ∨ k = 2 ∨ k = 3 ∨ k = 4 ∨ k = 5 := by omega
    rcases this with h | h | h | h | h | h <;> subst h <;> rfl
  have e2 : (x.toBitVec.sshiftRight k).getLsbD 0 = x.toBitVec.getLsbD k := by
    rw [BitVec.getLsbD_sshiftRight, if_pos (by omega)]; rfl
  have e3 : ((x >>> (nn k &&& nn 31)) &&& nn 1).toBitVec = x.toBitVec.sshiftRight k &&& BitVec.twoPow 32 0 := by
    rw [Int32.toBitVec_and, e1]; rfl
  have hb : ∀ y : BitVec 32, (y &&& BitVec.twoPow 32 0 = BitVec.twoPow 32 0) ↔ y.getLsbD 0 = true := by
    intro y
    constructor
    · intro h
      have := congrArg (fun z => BitVec.getLsbD z 0) h
      simpa [BitVec.getLsbD_and, BitVec.getLsbD_twoPow] using this
    · intro h
      apply BitVec.eq_of_getLsbD_eq
      intro i hi
      rw [BitVec.getLsbD_and, BitVec.getLsbD_twoPow]
      by_cases e : 0 = i
      · subst e; simp [h]
      · simp [e]
  unfold gB
  rw [← e2]
  have e4 : ((x >>> (nn k &&& nn 31)) &&& nn 1 = nn 1) ↔ (x.toBitVec.sshiftRight k).getLsbD 0 = true := by
    rw [← hb, ← e3]
    constructor
    · intro h; rw [h]; rfl
    · intro h; exact Int32.toBitVec_inj.1 h
  by_cases e : (x.toBitVec.sshiftRight k).getLsbD 0 = true
  · rw [e]; exact decide_eq_true (e4.2 e)
  · rw [Bool.not_eq_true] at e
    rw [e]; exact decide_eq_false (fun h => by rw [e4.1 h] at e; cases e)
theorem bit_ext {x y : Int32} (h : ∀ i, i < 32 → x.toBitVec.getLsbD i = y.toBitVec.getLsbD i) : x = y := Int32.toBitVec_inj.1 (BitVec.eq_of_getLsbD_eq h)
theorem bit_off {x : Int32} {k : Nat} (hk : k < 6) (h : gB x k = true) : x &&& (bt k ^^^ (-nn 1)) = x ^^^ bt k := by
  rw [gB_bit hk] at h
  have h1 : (-nn 1 : Int32).toBitVec = BitVec.allOnes 32 := by decide
  apply bit_ext
  intro i hi
  rw [Int32.toBitVec_and, Int32.toBitVec_xor, Int32.toBitVec_xor, h1, bt_bv hk, BitVec.getLsbD_and, BitVec.getLsbD_xor, BitVec.getLsbD_xor, BitVec.getLsbD_twoPow, BitVec.getLsbD_allOnes]
  by_cases e : k = i
  · subst e; simp [h, hi]
  · simp [e, hi]
theorem bit_on {x : Int32} {k : Nat} (hk : k < 6) (h : gB x k = false) : x ||| bt k = x ^^^ bt k := by
  rw [gB_bit hk] at h
  apply bit_ext
  intro i hi
  rw [Int32.toBitVec_or, Int32.toBitVec_xor, bt_bv hk, BitVec.getLsbD_or, BitVec.getLsbD_xor, BitVec.getLsbD_twoPow]
  by_cases e : k = i
  · subst e; simp [h]
  · simp [e]
theorem bit_is {x : Int32} {k : Nat} (hk : k < 6) (h : gB x k = true) : x ||| bt k = x := by
  rw [gB_bit hk] at h
  apply bit_ext
  intro i hi
  rw [Int32.toBitVec_or, bt_bv hk, BitVec.getLsbD_or, BitVec.getLsbD_twoPow]
  by_cases e : k = i
  · subst e; simp [h]
  · simp [e]
section flips
variable {N B L : Nat} {rg pl : Nat → Nat} {d : Nat → Int32} {g : tyFair} {a b : Nat}
theorem flip_ev (hr : rOK N rg pl) (hF : fR N B L rg pl d g) (ha : a < N) (hb : b < N) :
    ∃ gr se pr bo, mFair_flipGrudge (nn a) (nn b) g.2.2.1 g.2.2.2.2.2.2.2.1 g.2.2.2.2.2.2.2.2.2.2.2.1 g.2.2.2.2.2.2.2.2.2.2.2.2.1 g.2.2.2.2.2.2.2.2.2.2.2.2.2.2.2.2.1 g.2.2.2.2.2.2.2.2.2.2.2.2.2.2.2.2.2.1 g.2.2.2.2.2.2.2.2.2.2.2.2.2.2.2.2.2.2 = some (gr, se, pr, bo) ∧
      fR N B L rg pl (upd d (41 + a) (d (41 + a) ^^^ bt b)) (g.1, g.2.1, g.2.2.1, g.2.2.2.1, g.2.2.2.2.1, g.2.2.2.2.2.1, g.2.2.2.2.2.2.1, g.2.2.2.2.2.2.2.1, g.2.2.2.2.2.2.2.2.1, g.2.2.2.2.2.2.2.2.2.1, g.2.2.2.2.2.2.2.2.2.2.1, g.2.2.2.2.2.2.2.2.2.2.2.1, gr, g.2.2.2.2.2.2.2.2.2.2.2.2.2.1, g.2.2.2.2.2.2.2.2.2.2.2.2.2.2.1, g.2.2.2.2.2.2.2.2.2.2.2.2.2.2.2.1, se, pr, bo) := by
  have hN := hF.1.2.2.2.2.1.1
  have hst : g.2.2.1 = nn N := by rw [hF.1.1.2.1, hF.1.2.2.2.2.1.2.2.2.2.1]
  have hri : ∀ k, k < N → g.2.2.2.2.2.2.2.2.2.2.2.1 k = nn (rg k) := fun k hk => by rw [hF.2.2.1 k hk]; exact hF.1.2.2.2.2.1.2.2.2.2.2.2.2 k hk
  have hgr : ∀ s, s < N → upd g.2.2.2.2.2.2.2.2.2.2.2.2.1 a (g.2.2.2.2.2.2.2.2.2.2.2.2.1 a ^^^ bt b) s = upd d (41 + a) (d (41 + a) ^^^ bt b) (41 + s) := by
    intro s hs
    by_cases e : s = a
    · subst e; rw [upd_s, upd_s, hF.2.2.2 s hs]
    · rw [upd_o e, upd_o (by omega), hF.2.2.2 s hs]
  obtain ⟨se, pr, bo, h1, h2, h3, h4⟩ := arrange_ev (d := upd d (41 + a) (d (41 + a) ^^^ bt b)) (tongue := g.2.2.2.2.2.2.2.1) hN hr hst (fun s hs => by rw [upd_o (by omega)]; exact hF.2.1 s hs) hri hgr g.2.2.2.2.2.2.2.2.2.2.2.2.2.2.2.2.1 g.2.2.2.2.2.2.2.2.2.2.2.2.2.2.2.2.2.1 g.2.2.2.2.2.2.2.2.2.2.2.2.2.2.2.2.2.2
  refine ⟨upd g.2.2.2.2.2.2.2.2.2.2.2.2.1 a (g.2.2.2.2.2.2.2.2.2.2.2.2.1 a ^^^ bt b), se, pr, bo, ?_, ?_⟩
  · unfold mFair_flipGrudge
    simp only [lt, li1, show (31 : Int32) = nn 31 from id rfl]
    rw [rq_inb (by omega) (by omega), rq_inb (by omega) (by omega), nn_tn (by omega)]
    show (mFair_arrange _ _ _ (upd g.2.2.2.2.2.2.2.2.2.2.2.2.1 a (g.2.2.2.2.2.2.2.2.2.2.2.2.1 a ^^^ bt b)) _ _ _).bind _ = _
    rw [h1]
    rfl
  · exact fR_arr hF (fun k hk => upd_o (by omega)) (rSt_upd hF.1.2.2.2.2.1.2.2.2.2.2.2.2 hN (by omega)) (fun k hk => by rw [upd_o (by omega)]; exact hF.2.2.1 k hk) hgr h2 h3 h4
/-- two stalls change places -/
def mvR (rg pl : Nat → Nat) (a b : Nat) : Nat → Nat := fun k => if k = pl b then a else if k = pl a then b else rg k
def mvP (pl : Nat → Nat) (a b : Nat) : Nat → Nat := fun s => if s = a then pl b else if s = b then pl a else pl s
def mvD (pl : Nat → Nat) (d : Nat → Int32) (a b : Nat) : Nat → Int32 := upd (upd d (35 + pl a) (nn b)) (35 + pl b) (nn a)
theorem mv_ok (hr : rOK N rg pl) (ha : a < N) (hb : b < N) (hab : ¬ a = b) : rOK N (mvR rg pl a b) (mvP pl a b) := by
  have h1 := hr a ha
  have h2 := hr b hb
  have hp : ¬ pl a = pl b := fun e => hab (by rw [← h1.2.2.2, e, h2.2.2.2])
  intro k hk
  have h3 := hr k hk
  refine ⟨?_, ?_, ?_, ?_⟩
  · unfold mvR; split
    · exact ha
    · split
      · exact hb
      · exact h3.1
  · unfold mvP; split
    · exact h2.2.1
    · split
      · exact h1.2.1
      · exact h3.2.1
  · unfold mvR
    by_cases e1 : k = pl b
    · rw [if_pos e1]; unfold mvP; rw [if_pos rfl, e1]
    · rw [if_neg e1]
      by_cases e2 : k = pl a
      · rw [if_pos e2]; unfold mvP; rw [if_neg (fun e => hab e.symm), if_pos rfl, e2]
      · rw [if_neg e2]; unfold mvP
        rw [if_neg (fun e => e2 (by rw [← e, h3.2.2.1])), if_neg (fun e => e1 (by rw [← e, h3.2.2.1]))]
        exact h3.2.2.1
  · unfold mvP
    by_cases e1 : k = a
    · rw [if_pos e1]; unfold mvR; rw [if_pos rfl, e1]
    · rw [if_neg e1]
      by_cases e2 : k = b
      · rw [if_pos e2]; unfold mvR; rw [if_neg hp, if_pos rfl, e2]
      · rw [if_neg e2]; unfold mvR
        rw [if_neg (fun e => e2 (by rw [← h3.2.2.2, e, h2.2.2.2])), if_neg (fun e => e1 (by rw [← h3.2.2.2, e, h1.2.2.2]))]
        exact h3.2.2.2
theorem mv_St (hN : N ≤ 6) (hr : rOK N rg pl) (hs : rSt N rg d) (ha : a < N) (hb : b < N) : rSt N (mvR rg pl a b) (mvD pl d a b) := by
  intro k hk
  unfold mvR mvD
  by_cases e1 : k = pl b
  · rw [if_pos e1, e1, upd_s]
  · rw [if_neg e1, upd_o (by omega)]
    by_cases e2 : k = pl a
    · rw [if_pos e2, e2, upd_s]
    · rw [if_neg e2, upd_o (by omega)]; exact hs k hk
theorem mv_o {k : Nat} (hN : N ≤ 6) (hr : rOK N rg pl) (ha : a < N) (hb : b < N) (h : k < 35 ∨ 41 ≤ k) : mvD pl d a b k = d k := by
  have := (hr a ha).2.1
  have := (hr b hb).2.1
  unfold mvD
  rw [upd_o (by omega), upd_o (by omega)]
theorem fx_mv (hr : rOK N rg pl) (hf : fxR N B L rg d) (ha : a < N) (hb : b < N) : fxR N B L (mvR rg pl a b) (mvD pl d a b) := by
  obtain ⟨h1, h2, h3, h4, h5, h6, h7, h8⟩ := hf
  exact ⟨h1, h2, h3, h4, by rw [mv_o h1 hr ha hb (by omega), h5], by rw [mv_o h1 hr ha hb (by omega), h6], by rw [mv_o h1 hr ha hb (by omega), h7], mv_St h1 hr h8 ha hb⟩
theorem moves_ev (hN : N ≤ 6) (hr : rOK N rg pl) (hs : rSt N rg d) (ha : a < N) (hb : b < N) : m_moves (nn a) (nn b) d = some (mvD pl d a b) := by
  have := (hr a ha).2.1
  have := (hr b hb).2.1
  unfold m_moves
  rw [placeOf_ev hN hr hs ha, bs, placeOf_ev hN hr hs hb, bs]
  simp only [lt, li35, nn_add]
  rw [rq_inb (by omega) (by omega), rq_inb (by omega) (by omega), nn_tn (by omega), nn_tn (by omega)]
  rfl
theorem swapPlaces_ev (hr : rOK N rg pl) (hF : fR N B L rg pl d g) (ha : a < N) (hb : b < N) (hab : ¬ a = b) :
    ∃ ri se pr bo, mFair_swapPlaces (nn a) (nn b) g.2.2.1 g.2.2.2.2.2.2.2.1 g.2.2.2.2.2.2.2.2.2.2.2.1 g.2.2.2.2.2.2.2.2.2.2.2.2.1 g.2.2.2.2.2.2.2.2.2.2.2.2.2.2.2.2.1 g.2.2.2.2.2.2.2.2.2.2.2.2.2.2.2.2.2.1 g.2.2.2.2.2.2.2.2.2.2.2.2.2.2.2.2.2.2 = some (ri, se, pr, bo) ∧
      fR N B L (mvR rg pl a b) (mvP pl a b) (mvD pl d a b) (g.1, g.2.1, g.2.2.1, g.2.2.2.1, g.2.2.2.2.1, g.2.2.2.2.2.1, g.2.2.2.2.2.2.1, g.2.2.2.2.2.2.2.1, g.2.2.2.2.2.2.2.2.1, g.2.2.2.2.2.2.2.2.2.1, g.2.2.2.2.2.2.2.2.2.2.1, ri, g.2.2.2.2.2.2.2.2.2.2.2.2.1, g.2.2.2.2.2.2.2.2.2.2.2.2.2.1, g.2.2.2.2.2.2.2.2.2.2.2.2.2.2.1, g.2.2.2.2.2.2.2.2.2.2.2.2.2.2.2.1, se, pr, bo) := by
  have hN := hF.1.2.2.2.2.1.1
  have hpa := (hr a ha).2.1
  have hpb := (hr b hb).2.1
  have hst : g.2.2.1 = nn N := by rw [hF.1.1.2.1, hF.1.2.2.2.2.1.2.2.2.2.1]
  have hri : ∀ k, k < N → g.2.2.2.2.2.2.2.2.2.2.2.1 k = nn (rg k) := fun k hk => by rw [hF.2.2.1 k hk]; exact hF.1.2.2.2.2.1.2.2.2.2.2.2.2 k hk
  have hSt := mv_St hN hr hF.1.2.2.2.2.1.2.2.2.2.2.2.2 ha hb
  have hri' : ∀ k, k < N → upd (upd g.2.2.2.2.2.2.2.2.2.2.2.1 (pl a) (nn b)) (pl b) (nn a) k = nn (mvR rg pl a b k) := by
    intro k hk
    unfold mvR
    by_cases e1 : k = pl b
    · rw [if_pos e1, e1, upd_s]
    · rw [if_neg e1, upd_o e1]
      by_cases e2 : k = pl a
      · rw [if_pos e2, e2, upd_s]
      · rw [if_neg e2, upd_o e2]; exact hri k hk
  have hgr : ∀ s, s < N → g.2.2.2.2.2.2.2.2.2.2.2.2.1 s = mvD pl d a b (41 + s) := fun s hs => by rw [mv_o hN hr ha hb (by omega)]; exact hF.2.2.2 s hs
  obtain ⟨se, pr, bo, h1, h2, h3, h4⟩ := arrange_ev (d := mvD pl d a b) (tongue := g.2.2.2.2.2.2.2.1) hN (mv_ok hr ha hb hab) hst (fun s hs => by rw [mv_o hN hr ha hb (by omega)]; exact hF.2.1 s hs) hri' hgr g.2.2.2.2.2.2.2.2.2.2.2.2.2.2.2.2.1 g.2.2.2.2.2.2.2.2.2.2.2.2.2.2.2.2.2.1 g.2.2.2.2.2.2.2.2.2.2.2.2.2.2.2.2.2.2
  refine ⟨upd (upd g.2.2.2.2.2.2.2.2.2.2.2.1 (pl a) (nn b)) (pl b) (nn a), se, pr, bo, ?_, ?_⟩
  · unfold mFair_swapPlaces
    rw [cplaceOf_ev hN hr hst hri ha, bs, cplaceOf_ev hN hr hst hri hb, bs]
    simp only [lt]
    rw [rq_inb (by omega) (by omega), rq_inb (by omega) (by omega), nn_tn (by omega), nn_tn (by omega), h1]
    rfl
  · exact fR_arr hF (fun k hk => mv_o hN hr ha hb (by omega)) hSt (fun k hk => by rw [hri' k hk, hSt k hk]) hgr h2 h3 h4
end flips
