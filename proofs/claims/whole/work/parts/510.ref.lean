/-! the reference's small methods -/
section ref
variable {d : Nat → Int32} {N B : Nat} {rg pl : Nat → Nat} {s b : Nat}
theorem goodsOf_ev (h : s < 6) : m_goodsOf (nn s) d = some (d (11 + 4 * s)) := by unfold m_goodsOf; simp (disch := omega) only [lt, rq_inb, rq_dec, rq_bo0, rq_bo1, rq_bob, bs, ba, nn_add, nn_mul, nn_tn, nn_le, nn_lt, nn_inj, nn_m1, nn_sub, upd_s, upd_o, updL_s, updL_o, li31, li25, li0, li1, li2, li3, li4, li5, li6, li7, li8, li9, li10, li11, li12, li13, li14, li15, li16, li19, li20, li24, li32, li35, li36, li40, li41, li42, li45, li47, li48, li50, li53, li57, li60, li79, li89, li91, li93, li95, li97, li99, li100, li101, li107, li113, li119, li122, li125, li155, li156, li200, li255, li288, li400, li999, li9999, li1580, li2400, li624]
theorem priceOf_ev (h : s < 6) : m_priceOf (nn s) d = some (d (11 + 4 * s + 1)) := by unfold m_priceOf; simp (disch := omega) only [lt, rq_inb, rq_dec, rq_bo0, rq_bo1, rq_bob, bs, ba, nn_add, nn_mul, nn_tn, nn_le, nn_lt, nn_inj, nn_m1, nn_sub, upd_s, upd_o, updL_s, updL_o, li31, li25, li0, li1, li2, li3, li4, li5, li6, li7, li8, li9, li10, li11, li12, li13, li14, li15, li16, li19, li20, li24, li32, li35, li36, li40, li41, li42, li45, li47, li48, li50, li53, li57, li60, li79, li89, li91, li93, li95, li97, li99, li100, li101, li107, li113, li119, li122, li125, li155, li156, li200, li255, li288, li400, li999, li9999, li1580, li2400, li624]
theorem tillOf_ev (h : s < 6) : m_tillOf (nn s) d = some (d (11 + 4 * s + 2)) := by unfold m_tillOf; simp (disch := omega) only [lt, rq_inb, rq_dec, rq_bo0, rq_bo1, rq_bob, bs, ba, nn_add, nn_mul, nn_tn, nn_le, nn_lt, nn_inj, nn_m1, nn_sub, upd_s, upd_o, updL_s, updL_o, li31, li25, li0, li1, li2, li3, li4, li5, li6, li7, li8, li9, li10, li11, li12, li13, li14, li15, li16, li19, li20, li24, li32, li35, li36, li40, li41, li42, li45, li47, li48, li50, li53, li57, li60, li79, li89, li91, li93, li95, li97, li99, li100, li101, li107, li113, li119, li122, li125, li155, li156, li200, li255, li288, li400, li999, li9999, li1580, li2400, li624]
theorem wealthOf_ev (h : s < 6) : m_wealthOf (nn s) d = some (d (11 + 4 * s + 3)) := by unfold m_wealthOf; simp (disch := omega) only [lt, rq_inb, rq_dec, rq_bo0, rq_bo1, rq_bob, bs, ba, nn_add, nn_mul, nn_tn, nn_le, nn_lt, nn_inj, nn_m1, nn_sub, upd_s, upd_o, updL_s, updL_o, li31, li25, li0, li1, li2, li3, li4, li5, li6, li7, li8, li9, li10, li11, li12, li13, li14, li15, li16, li19, li20, li24, li32, li35, li36, li40, li41, li42, li45, li47, li48, li50, li53, li57, li60, li79, li89, li91, li93, li95, li97, li99, li100, li101, li107, li113, li119, li122, li125, li155, li156, li200, li255, li288, li400, li999, li9999, li1580, li2400, li624]
theorem isOf_ev (x : Int32) (k : Nat) : m_isOf x (nn k) = some (b01 (gB x k = true)) := by
  unfold m_isOf gB b01
  simp (disch := omega) only [lt, rq_inb, rq_dec, rq_bo0, rq_bo1, rq_bob, bs, ba, nn_add, nn_mul, nn_tn, nn_le, nn_lt, nn_inj, nn_m1, nn_sub, upd_s, upd_o, updL_s, updL_o, li31, li25, li0, li1, li2, li3, li4, li5, li6, li7, li8, li9, li10, li11, li12, li13, li14, li15, li16, li19, li20, li24, li32, li35, li36, li40, li41, li42, li45, li47, li48, li50, li53, li57, li60, li79, li89, li91, li93, li95, li97, li99, li100, li101, li107, li113, li119, li122, li125, li155, li156, li200, li255, li288, li400, li999, li9999, li1580, li2400, li624, decide_eq_true_eq]
  by_cases h : x >>> (nn k &&& nn 31) &&& nn 1 = nn 1
  · rw [if_pos h, if_pos h]
  · rw [if_neg h, if_neg h]
theorem placeOf_l2_ev (hN : N ≤ 6) (hr : rOK N rg pl) (hd : rSt N rg d) (hs : s < N) : ∀ n k, k ≤ pl s → pl s - k < n → m_placeOf_l2 d (nn s) n (nn k) = some (nn (pl s)) := by
  intro n
  induction n with
  | zero => intro k h1 h2; omega
  | succ n ih =>
    intro k h1 h2
    have hp := hr s hs
    have hk := hd k (by omega)
    have hk2 := hr k (by omega)
    unfold m_placeOf_l2
    simp (disch := omega) only [lt, rq_inb, rq_dec, rq_bo0, rq_bo1, rq_bob, bs, ba, nn_add, nn_mul, nn_tn, nn_le, nn_lt, nn_inj, nn_m1, nn_sub, upd_s, upd_o, updL_s, updL_o, li31, li25, li0, li1, li2, li3, li4, li5, li6, li7, li8, li9, li10, li11, li12, li13, li14, li15, li16, li19, li20, li24, li32, li35, li36, li40, li41, li42, li45, li47, li48, li50, li53, li57, li60, li79, li89, li91, li93, li95, li97, li99, li100, li101, li107, li113, li119, li122, li125, li155, li156, li200, li255, li288, li400, li999, li9999, li1580, li2400, li624, hk]
    by_cases e : rg k = s
    · rw [if_pos e, ← e, hk2.2.2.1]
    · rw [if_neg e]
      have : k ≠ pl s := fun e2 => e (by rw [e2]; exact hp.2.2.2)
      exact ih (k + 1) (by omega) (by omega)
theorem placeOf_ev (hN : N ≤ 6) (hr : rOK N rg pl) (hd : rSt N rg d) (hs : s < N) : m_placeOf (nn s) d = some (nn (pl s)) :=
  placeOf_l2_ev hN hr hd hs FU 0 (by omega) (by have := (hr s hs).2.1; unfold FU; omega)
theorem besideG {x : Int32} {m : Nat} (hN : N ≤ 6) (hr : rOK N rg pl) (hd : rSt N rg d) (h3 : d 3 = nn N) (hs : s < N) (hm : m < N) (e : ((nn (pl s) + x) + nn N) - ((nn (pl s) + x) + nn N) / nn N * nn N = nn m) : m_besideOf (nn s) x d = some (nn (rg m)) := by
  have hq := hd m hm
  have h0 : ¬ nn N = 0 := by rw [li0, nn_inj (by omega) (by omega)]; omega
  unfold m_besideOf
  rw [placeOf_ev hN hr hd hs, bs, li3, li35, nn_tn (by omega), h3, rq_inb (by omega) (by omega), rq_inb (by omega) (by omega), rq_dec h0, e, nn_add, rq_inb (by omega) (by omega), nn_tn (by omega), hq]
theorem besideOf_m (hN : N ≤ 6) (hr : rOK N rg pl) (hd : rSt N rg d) (h3 : d 3 = nn N) (hs : s < N) : m_besideOf (nn s) (-nn 1) d = some (nn (slr N rg pl s)) := by
  have hp := (hr s hs).2.1
  refine besideG (rg := rg) (m := pv N (pl s)) hN hr hd h3 hs (pv_lt hp) ?_
  rw [nn_m1N (by omega) (by omega) (by omega)]
  exact nn_mod (by omega) (by omega) (by omega)
theorem sellerOf_ev (hN : N ≤ 6) (hr : rOK N rg pl) (hd : rSt N rg d) (h3 : d 3 = nn N) (hs : s < N) : m_sellerOf (nn s) d = some (nn (slr N rg pl s)) := by
  unfold m_sellerOf
  rw [show (-1 : Int32) = -nn 1 from id rfl, besideOf_m hN hr hd h3 hs]
  rfl
theorem besideOf_ev (hN : N ≤ 6) (hr : rOK N rg pl) (hd : rSt N rg d) (h3 : d 3 = nn N) (hs : s < N) : m_besideOf (nn s) (nn 1) d = some (nn (bhd N rg pl s)) := by
  have hp := (hr s hs).2.1
  refine besideG (rg := rg) (m := nx N (pl s)) hN hr hd h3 hs (nx_lt hp) ?_
  rw [nn_add, nn_add]
  exact nn_mod (by omega) (by omega) (by omega)
theorem bears_ev {k : Nat} (h : s < 6) : m_bears (nn s) (nn k) d = some (b01 (gB (d (41 + s)) k = true)) := by
  unfold m_bears
  simp (disch := omega) only [lt, rq_inb, rq_dec, rq_bo0, rq_bo1, rq_bob, bs, ba, nn_add, nn_mul, nn_tn, nn_le, nn_lt, nn_inj, nn_m1, nn_sub, upd_s, upd_o, updL_s, updL_o, li31, li25, li0, li1, li2, li3, li4, li5, li6, li7, li8, li9, li10, li11, li12, li13, li14, li15, li16, li19, li20, li24, li32, li35, li36, li40, li41, li42, li45, li47, li48, li50, li53, li57, li60, li79, li89, li91, li93, li95, li97, li99, li100, li101, li107, li113, li119, li122, li125, li155, li156, li200, li255, li288, li400, li999, li9999, li1580, li2400, li624, isOf_ev]
theorem praiseOf_ev (hN : N ≤ 6) (hr : rOK N rg pl) (hd : rSt N rg d) (h3 : d 3 = nn N) (hs : s < N) : m_praiseOf (nn s) d = some (prS N rg pl d s) := by
  have hl := slr_lt hr hs
  unfold m_praiseOf
  rw [sellerOf_ev hN hr hd h3 hs]
  simp (disch := omega) only [lt, rq_inb, rq_dec, rq_bo0, rq_bo1, rq_bob, bs, ba, nn_add, nn_mul, nn_tn, nn_le, nn_lt, nn_inj, nn_m1, nn_sub, upd_s, upd_o, updL_s, updL_o, li31, li25, li0, li1, li2, li3, li4, li5, li6, li7, li8, li9, li10, li11, li12, li13, li14, li15, li16, li19, li20, li24, li32, li35, li36, li40, li41, li42, li45, li47, li48, li50, li53, li57, li60, li79, li89, li91, li93, li95, li97, li99, li100, li101, li107, li113, li119, li122, li125, li155, li156, li200, li255, li288, li400, li999, li9999, li1580, li2400, li624, bears_ev, b01_0]
  unfold prS
  by_cases e : gB (d (41 + slr N rg pl s)) s = true
  · rw [if_neg (fun h => h e), if_pos e]
  · rw [if_pos e, if_neg e]
theorem canBuy_ev (hb : b < 6) (hs : s < 6) : m_canBuy (nn b) (nn s) d = some (b01 (cnS d b s = true)) := by
  unfold m_canBuy cnS
  simp (disch := omega) only [lt, rq_inb, rq_dec, rq_bo0, rq_bo1, rq_bob, bs, ba, nn_add, nn_mul, nn_tn, nn_le, nn_lt, nn_inj, nn_m1, nn_sub, upd_s, upd_o, updL_s, updL_o, li31, li25, li0, li1, li2, li3, li4, li5, li6, li7, li8, li9, li10, li11, li12, li13, li14, li15, li16, li19, li20, li24, li32, li35, li36, li40, li41, li42, li45, li47, li48, li50, li53, li57, li60, li79, li89, li91, li93, li95, li97, li99, li100, li101, li107, li113, li119, li122, li125, li155, li156, li200, li255, li288, li400, li999, li9999, li1580, li2400, li624, goodsOf_ev, priceOf_ev]
  by_cases h1 : d (11 + 4 * s) ≤ nn 0
  · rw [if_pos h1, b01_f]
    simp only [Bool.and_eq_true, decide_eq_true_eq, not_and]
    intro h; rw [Int32.lt_iff_toInt_lt] at h; rw [Int32.le_iff_toInt_le] at h1; omega
  · rw [if_neg h1]
    have h1' : nn 0 < d (11 + 4 * s) := by rw [Int32.lt_iff_toInt_lt]; rw [Int32.le_iff_toInt_le] at h1; omega
    by_cases h2 : d (47 + b) < d (11 + 4 * s + 1)
    · rw [if_pos h2, b01_f]
      simp only [Bool.and_eq_true, decide_eq_true_eq, not_and]
      intro h; rw [Int32.lt_iff_toInt_lt] at h2; rw [Int32.le_iff_toInt_le]; omega
    · rw [if_neg h2, b01_t]
      simp only [Bool.and_eq_true, decide_eq_true_eq]
      refine ⟨h1', ?_⟩
      rw [Int32.lt_iff_toInt_lt] at h2; rw [Int32.le_iff_toInt_le]; omega
/-! rules on the reference's stack -/
theorem one_ev {k : Nat} (x y : Int64) (h : k = 2 ∨ k = 3 ∨ k = 4 ∨ k = 5 ∨ k = 6 ∨ k = 7 ∨ k = 8 ∨ k = 9 ∨ k = 10 ∨ k = 12 ∨ k = 13 ∨ k = 14) : m_one (nn k) x y = some (opS k x y) := by
  have nlt : ∀ {x y : Int64}, (¬ x < y) ↔ y ≤ x := by intro x y; rw [L_lt, L_le]; omega
  have nle : ∀ {x y : Int64}, (¬ x ≤ y) ↔ y < x := by intro x y; rw [L_lt, L_le]; omega
  have lt_ne : ∀ {x y : Int64}, x < y → ¬ x = y := by intro x y; rw [L_lt, L_eq]; omega
  have lt_le : ∀ {x y : Int64}, x < y → x ≤ y := by intro x y; rw [L_lt, L_le]; omega
  rcases h with h | h | h | h | h | h | h | h | h | h | h | h
  · subst h; unfold m_one opS
    rw [if_pos (id rfl : nn 2 = (2 : Int32)), if_pos (id rfl : 2 = 2)]
  · subst h; unfold m_one opS
    rw [if_neg (by decide : ¬ nn 3 = (2 : Int32)), if_pos (id rfl : nn 3 = (3 : Int32)), if_neg (by decide : ¬ 3 = 2), if_pos (id rfl : 3 = 3)]
  · subst h; unfold m_one opS
    rw [if_neg (by decide : ¬ nn 4 = (2 : Int32)), if_neg (by decide : ¬ nn 4 = (3 : Int32)), if_pos (id rfl : nn 4 = (4 : Int32)), if_neg (by decide : ¬ 4 = 2), if_neg (by decide : ¬ 4 = 3), if_pos (id rfl : 4 = 4)]
  · subst h; unfold m_one opS
    rw [if_neg (by decide : ¬ nn 5 = (2 : Int32)), if_neg (by decide : ¬ nn 5 = (3 : Int32)), if_neg (by decide : ¬ nn 5 = (4 : Int32)), if_pos (id rfl : nn 5 = (5 : Int32)), if_neg (by decide : ¬ 5 = 2), if_neg (by decide : ¬ 5 = 3), if_neg (by decide : ¬ 5 = 4), if_pos (id rfl : 5 = 5)]
    by_cases e : y = 0
    · rw [li0, if_pos e, if_pos ((lgc_eq (x := y) (y := 0)).mpr e)]
    · rw [li0, if_neg e, if_neg (fun h => e ((lgc_eq (x := y) (y := 0)).mp h)), rq_dec e]
  · subst h; unfold m_one opS
    rw [if_neg (by decide : ¬ nn 6 = (2 : Int32)), if_neg (by decide : ¬ nn 6 = (3 : Int32)), if_neg (by decide : ¬ nn 6 = (4 : Int32)), if_neg (by decide : ¬ nn 6 = (5 : Int32)), if_pos (id rfl : nn 6 = (6 : Int32)), if_neg (by decide : ¬ 6 = 2), if_neg (by decide : ¬ 6 = 3), if_neg (by decide : ¬ 6 = 4), if_neg (by decide : ¬ 6 = 5), if_pos (id rfl : 6 = 6)]
    rcases lgc_val x y with ⟨h, e⟩ | ⟨h, e⟩ | ⟨h, e⟩
    · rw [e, if_neg (show ¬ x < y from nlt.mpr (lt_le h))]; exact id rfl
    · rw [e, if_neg (show ¬ x < y from h ▸ nlt.mpr (Int64.le_refl _))]; exact id rfl
    · rw [e, if_pos (show x < y from h)]; exact id rfl
  · subst h; unfold m_one opS
    rw [if_neg (by decide : ¬ nn 7 = (2 : Int32)), if_neg (by decide : ¬ nn 7 = (3 : Int32)), if_neg (by decide : ¬ nn 7 = (4 : Int32)), if_neg (by decide : ¬ nn 7 = (5 : Int32)), if_neg (by decide : ¬ nn 7 = (6 : Int32)), if_pos (id rfl : nn 7 = (7 : Int32)), if_neg (by decide : ¬ 7 = 2), if_neg (by decide : ¬ 7 = 3), if_neg (by decide : ¬ 7 = 4), if_neg (by decide : ¬ 7 = 5), if_neg (by decide : ¬ 7 = 6), if_pos (id rfl : 7 = 7)]
    rcases lgc_val x y with ⟨h, e⟩ | ⟨h, e⟩ | ⟨h, e⟩
    · rw [e, if_neg (show ¬ x ≤ y from nle.mpr h)]; exact id rfl
    · rw [e, if_pos (show x ≤ y from h ▸ Int64.le_refl _)]; exact id rfl
    · rw [e, if_pos (show x ≤ y from lt_le h)]; exact id rfl
  · subst h; unfold m_one opS
    rw [if_neg (by decide : ¬ nn 8 = (2 : Int32)), if_neg (by decide : ¬ nn 8 = (3 : Int32)), if_neg (by decide : ¬ nn 8 = (4 : Int32)), if_neg (by decide : ¬ nn 8 = (5 : Int32)), if_neg (by decide : ¬ nn 8 = (6 : Int32)), if_neg (by decide : ¬ nn 8 = (7 : Int32)), if_pos (id rfl : nn 8 = (8 : Int32)), if_neg (by decide : ¬ 8 = 2), if_neg (by decide : ¬ 8 = 3), if_neg (by decide : ¬ 8 = 4), if_neg (by decide : ¬ 8 = 5), if_neg (by decide : ¬ 8 = 6), if_neg (by decide : ¬ 8 = 7), if_pos (id rfl : 8 = 8)]
    rcases lgc_val x y with ⟨h, e⟩ | ⟨h, e⟩ | ⟨h, e⟩
    · rw [e, if_neg (show ¬ x = y from fun e => lt_ne h e.symm)]; exact id rfl
    · rw [e, if_pos (show x = y from h)]; exact id rfl
    · rw [e, if_neg (show ¬ x = y from lt_ne h)]; exact id rfl
  · subst h; unfold m_one opS
    rw [if_neg (by decide : ¬ nn 9 = (2 : Int32)), if_neg (by decide : ¬ nn 9 = (3 : Int32)), if_neg (by decide : ¬ nn 9 = (4 : Int32)), if_neg (by decide : ¬ nn 9 = (5 : Int32)), if_neg (by decide : ¬ nn 9 = (6 : Int32)), if_neg (by decide : ¬ nn 9 = (7 : Int32)), if_neg (by decide : ¬ nn 9 = (8 : Int32)), if_pos (id rfl : nn 9 = (9 : Int32)), if_neg (by decide : ¬ 9 = 2), if_neg (by decide : ¬ 9 = 3), if_neg (by decide : ¬ 9 = 4), if_neg (by decide : ¬ 9 = 5), if_neg (by decide : ¬ 9 = 6), if_neg (by decide : ¬ 9 = 7), if_neg (by decide : ¬ 9 = 8), if_pos (id rfl : 9 = 9)]
    rcases lgc_val x y with ⟨h, e⟩ | ⟨h, e⟩ | ⟨h, e⟩
    · rw [e, if_pos (show y ≤ x from lt_le h)]; exact id rfl
    · rw [e, if_pos (show y ≤ x from h ▸ Int64.le_refl _)]; exact id rfl
    · rw [e, if_neg (show ¬ y ≤ x from nle.mpr h)]; exact id rfl
  · subst h; unfold m_one opS
    rw [if_neg (by decide : ¬ nn 10 = (2 : Int32)), if_neg (by decide : ¬ nn 10 = (3 : Int32)), if_neg (by decide : ¬ nn 10 = (4 : Int32)), if_neg (by decide : ¬ nn 10 = (5 : Int32)), if_neg (by decide : ¬ nn 10 = (6 : Int32)), if_neg (by decide : ¬ nn 10 = (7 : Int32)), if_neg (by decide : ¬ nn 10 = (8 : Int32)), if_neg (by decide : ¬ nn 10 = (9 : Int32)), if_pos (id rfl : nn 10 = (10 : Int32)), if_neg (by decide : ¬ 10 = 2), if_neg (by decide : ¬ 10 = 3), if_neg (by decide : ¬ 10 = 4), if_neg (by decide : ¬ 10 = 5), if_neg (by decide : ¬ 10 = 6), if_neg (by decide : ¬ 10 = 7), if_neg (by decide : ¬ 10 = 8), if_neg (by decide : ¬ 10 = 9), if_pos (id rfl : 10 = 10)]
    rcases lgc_val x y with ⟨h, e⟩ | ⟨h, e⟩ | ⟨h, e⟩
    · rw [e, if_pos (show y < x from h)]; exact id rfl
    · rw [e, if_neg (show ¬ y < x from h ▸ nlt.mpr (Int64.le_refl _))]; exact id rfl
    · rw [e, if_neg (show ¬ y < x from nlt.mpr (lt_le h))]; exact id rfl
  · subst h; unfold m_one opS
    rw [if_neg (by decide : ¬ nn 12 = (2 : Int32)), if_neg (by decide : ¬ nn 12 = (3 : Int32)), if_neg (by decide : ¬ nn 12 = (4 : Int32)), if_neg (by decide : ¬ nn 12 = (5 : Int32)), if_neg (by decide : ¬ nn 12 = (6 : Int32)), if_neg (by decide : ¬ nn 12 = (7 : Int32)), if_neg (by decide : ¬ nn 12 = (8 : Int32)), if_neg (by decide : ¬ nn 12 = (9 : Int32)), if_neg (by decide : ¬ nn 12 = (10 : Int32)), if_neg (by decide : ¬ nn 12 = (11 : Int32)), if_pos (id rfl : nn 12 = (12 : Int32)), if_neg (by decide : ¬ 12 = 2), if_neg (by decide : ¬ 12 = 3), if_neg (by decide : ¬ 12 = 4), if_neg (by decide : ¬ 12 = 5), if_neg (by decide : ¬ 12 = 6), if_neg (by decide : ¬ 12 = 7), if_neg (by decide : ¬ 12 = 8), if_neg (by decide : ¬ 12 = 9), if_neg (by decide : ¬ 12 = 10), if_pos (id rfl : 12 = 12)]
  · subst h; unfold m_one opS
    rw [if_neg (by decide : ¬ nn 13 = (2 : Int32)), if_neg (by decide : ¬ nn 13 = (3 : Int32)), if_neg (by decide : ¬ nn 13 = (4 : Int32)), if_neg (by decide : ¬ nn 13 = (5 : Int32)), if_neg (by decide : ¬ nn 13 = (6 : Int32)), if_neg (by decide : ¬ nn 13 = (7 : Int32)), if_neg (by decide : ¬ nn 13 = (8 : Int32)), if_neg (by decide : ¬ nn 13 = (9 : Int32)), if_neg (by decide : ¬ nn 13 = (10 : Int32)), if_neg (by decide : ¬ nn 13 = (11 : Int32)), if_neg (by decide : ¬ nn 13 = (12 : Int32)), if_pos (id rfl : nn 13 = (13 : Int32)), if_neg (by decide : ¬ 13 = 2), if_neg (by decide : ¬ 13 = 3), if_neg (by decide : ¬ 13 = 4), if_neg (by decide : ¬ 13 = 5), if_neg (by decide : ¬ 13 = 6), if_neg (by decide : ¬ 13 = 7), if_neg (by decide : ¬ 13 = 8), if_neg (by decide : ¬ 13 = 9), if_neg (by decide : ¬ 13 = 10), if_neg (by decide : ¬ 13 = 12), if_pos (id rfl : 13 = 13)]
  · subst h; unfold m_one opS
    rw [if_neg (by decide : ¬ nn 14 = (2 : Int32)), if_neg (by decide : ¬ nn 14 = (3 : Int32)), if_neg (by decide : ¬ nn 14 = (4 : Int32)), if_neg (by decide : ¬ nn 14 = (5 : Int32)), if_neg (by decide : ¬ nn 14 = (6 : Int32)), if_neg (by decide : ¬ nn 14 = (7 : Int32)), if_neg (by decide : ¬ nn 14 = (8 : Int32)), if_neg (by decide : ¬ nn 14 = (9 : Int32)), if_neg (by decide : ¬ nn 14 = (10 : Int32)), if_neg (by decide : ¬ nn 14 = (11 : Int32)), if_neg (by decide : ¬ nn 14 = (12 : Int32)), if_neg (by decide : ¬ nn 14 = (13 : Int32)), if_pos (id rfl : nn 14 = (14 : Int32)), if_neg (by decide : ¬ 14 = 2), if_neg (by decide : ¬ 14 = 3), if_neg (by decide : ¬ 14 = 4), if_neg (by decide : ¬ 14 = 5), if_neg (by decide : ¬ 14 = 6), if_neg (by decide : ¬ 14 = 7), if_neg (by decide : ¬ 14 = 8), if_neg (by decide : ¬ 14 = 9), if_neg (by decide : ¬ 14 = 10), if_neg (by decide : ¬ 14 = 12), if_neg (by decide : ¬ 14 = 13)]
    by_cases e : y = 0
    · rw [li0, if_pos e, if_pos ((lgc_eq (x := y) (y := 0)).mpr e)]
    · rw [li0, if_neg e, if_neg (fun h => e ((lgc_eq (x := y) (y := 0)).mp h)), rq_dec e]
end ref
