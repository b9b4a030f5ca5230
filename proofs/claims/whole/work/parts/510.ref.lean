/-! the reference's small methods -/
section ref
variable {d : Nat → Int32} {N B : Nat} {rg pl : Nat → Nat} {s b : Nat}
theorem goodsOf_ev (h : s < 6) : m_goodsOf (nn s) d = some (d (11 + 4 * s)) := by unfold m_goodsOf; simp (disch := omega) only [lt, rq_inb, rq_dec, rq_bo0, rq_bo1, rq_bob, bs, ba, nn_add, nn_mul, nn_tn, nn_le, nn_lt, nn_inj, nn_m1, nn_sub, upd_s, upd_o, updL_s, updL_o, li31, li0, li1, li2, li3, li4, li5, li6, li7, li8, li9, li10, li11, li12, li13, li14, li15, li16, li19, li20, li24, li32, li35, li36, li40, li41, li42, li45, li47, li48, li50, li53, li57, li60, li79, li89, li91, li93, li95, li97, li99, li100, li101, li107, li113, li119, li122, li125, li155, li156, li200, li255, li288, li400, li999, li9999, li1580, li2400, li624]
theorem priceOf_ev (h : s < 6) : m_priceOf (nn s) d = some (d (11 + 4 * s + 1)) := by unfold m_priceOf; simp (disch := omega) only [lt, rq_inb, rq_dec, rq_bo0, rq_bo1, rq_bob, bs, ba, nn_add, nn_mul, nn_tn, nn_le, nn_lt, nn_inj, nn_m1, nn_sub, upd_s, upd_o, updL_s, updL_o, li31, li0, li1, li2, li3, li4, li5, li6, li7, li8, li9, li10, li11, li12, li13, li14, li15, li16, li19, li20, li24, li32, li35, li36, li40, li41, li42, li45, li47, li48, li50, li53, li57, li60, li79, li89, li91, li93, li95, li97, li99, li100, li101, li107, li113, li119, li122, li125, li155, li156, li200, li255, li288, li400, li999, li9999, li1580, li2400, li624]
theorem tillOf_ev (h : s < 6) : m_tillOf (nn s) d = some (d (11 + 4 * s + 2)) := by unfold m_tillOf; simp (disch := omega) only [lt, rq_inb, rq_dec, rq_bo0, rq_bo1, rq_bob, bs, ba, nn_add, nn_mul, nn_tn, nn_le, nn_lt, nn_inj, nn_m1, nn_sub, upd_s, upd_o, updL_s, updL_o, li31, li0, li1, li2, li3, li4, li5, li6, li7, li8, li9, li10, li11, li12, li13, li14, li15, li16, li19, li20, li24, li32, li35, li36, li40, li41, li42, li45, li47, li48, li50, li53, li57, li60, li79, li89, li91, li93, li95, li97, li99, li100, li101, li107, li113, li119, li122, li125, li155, li156, li200, li255, li288, li400, li999, li9999, li1580, li2400, li624]
theorem wealthOf_ev (h : s < 6) : m_wealthOf (nn s) d = some (d (11 + 4 * s + 3)) := by unfold m_wealthOf; simp (disch := omega) only [lt, rq_inb, rq_dec, rq_bo0, rq_bo1, rq_bob, bs, ba, nn_add, nn_mul, nn_tn, nn_le, nn_lt, nn_inj, nn_m1, nn_sub, upd_s, upd_o, updL_s, updL_o, li31, li0, li1, li2, li3, li4, li5, li6, li7, li8, li9, li10, li11, li12, li13, li14, li15, li16, li19, li20, li24, li32, li35, li36, li40, li41, li42, li45, li47, li48, li50, li53, li57, li60, li79, li89, li91, li93, li95, li97, li99, li100, li101, li107, li113, li119, li122, li125, li155, li156, li200, li255, li288, li400, li999, li9999, li1580, li2400, li624]
theorem isOf_ev (x : Int32) (k : Nat) : m_isOf x (nn k) = some (b01 (gB x k = true)) := by
  unfold m_isOf gB b01
  simp (disch := omega) only [lt, rq_inb, rq_dec, rq_bo0, rq_bo1, rq_bob, bs, ba, nn_add, nn_mul, nn_tn, nn_le, nn_lt, nn_inj, nn_m1, nn_sub, upd_s, upd_o, updL_s, updL_o, li31, li0, li1, li2, li3, li4, li5, li6, li7, li8, li9, li10, li11, li12, li13, li14, li15, li16, li19, li20, li24, li32, li35, li36, li40, li41, li42, li45, li47, li48, li50, li53, li57, li60, li79, li89, li91, li93, li95, li97, li99, li100, li101, li107, li113, li119, li122, li125, li155, li156, li200, li255, li288, li400, li999, li9999, li1580, li2400, li624, decide_eq_true_eq]
  split <;> rfl
theorem placeOf_l2_ev (hN : N ≤ 6) (hr : rOK N rg pl) (hd : rSt N rg d) (hs : s < N) : ∀ n k, k ≤ pl s → pl s - k < n → m_placeOf_l2 d (nn s) n (nn k) = some (nn (pl s)) := by
  intro n
  induction n with
  | zero => intro k h1 h2; omega
  | succ n ih =>
    intro k h1 h2
    have hp := hr s hs
    have hk := hd k (by omega)
    have hk2 := hr k (by omega)
    unfold m_placeOf_l2
    simp (disch := omega) only [lt, rq_inb, rq_dec, rq_bo0, rq_bo1, rq_bob, bs, ba, nn_add, nn_mul, nn_tn, nn_le, nn_lt, nn_inj, nn_m1, nn_sub, upd_s, upd_o, updL_s, updL_o, li31, li0, li1, li2, li3, li4, li5, li6, li7, li8, li9, li10, li11, li12, li13, li14, li15, li16, li19, li20, li24, li32, li35, li36, li40, li41, li42, li45, li47, li48, li50, li53, li57, li60, li79, li89, li91, li93, li95, li97, li99, li100, li101, li107, li113, li119, li122, li125, li155, li156, li200, li255, li288, li400, li999, li9999, li1580, li2400, li624, hk]
    by_cases e : rg k = s
    · rw [if_pos e, ← e, hk2.2.2.1]
    · rw [if_neg e]
      have : k ≠ pl s := fun e2 => e (by rw [e2]; exact hp.2.2.2)
      exact ih (k + 1) (by omega) (by omega)
theorem placeOf_ev (hN : N ≤ 6) (hr : rOK N rg pl) (hd : rSt N rg d) (hs : s < N) : m_placeOf (nn s) d = some (nn (pl s)) :=
  placeOf_l2_ev hN hr hd hs FU 0 (by omega) (by have := (hr s hs).2.1; unfold FU; omega)
theorem sellerOf_ev (hN : N ≤ 6) (hr : rOK N rg pl) (hd : rSt N rg d) (h3 : d 3 = nn N) (hs : s < N) : m_sellerOf (nn s) d = some (nn (slr N rg pl s)) := by
  have hp := (hr s hs).2.1
  unfold m_sellerOf m_besideOf
  have hq := hd (pv N (pl s)) (pv_lt hp)
  have hl := pv_lt hp
  rw [placeOf_ev hN hr hd hs]
  simp (disch := omega) only [lt, rq_inb, rq_dec, rq_bo0, rq_bo1, rq_bob, bs, ba, nn_add, nn_mul, nn_tn, nn_le, nn_lt, nn_inj, nn_m1, nn_sub, upd_s, upd_o, updL_s, updL_o, li31, li0, li1, li2, li3, li4, li5, li6, li7, li8, li9, li10, li11, li12, li13, li14, li15, li16, li19, li20, li24, li32, li35, li36, li40, li41, li42, li45, li47, li48, li50, li53, li57, li60, li79, li89, li91, li93, li95, li97, li99, li100, li101, li107, li113, li119, li122, li125, li155, li156, li200, li255, li288, li400, li999, li9999, li1580, li2400, li624, h3, nn_m1N, nn_mod]
  unfold pv at hq hl
  simp (disch := omega) only [lt, rq_inb, rq_dec, rq_bo0, rq_bo1, rq_bob, bs, ba, nn_add, nn_mul, nn_tn, nn_le, nn_lt, nn_inj, nn_m1, nn_sub, upd_s, upd_o, updL_s, updL_o, li31, li0, li1, li2, li3, li4, li5, li6, li7, li8, li9, li10, li11, li12, li13, li14, li15, li16, li19, li20, li24, li32, li35, li36, li40, li41, li42, li45, li47, li48, li50, li53, li57, li60, li79, li89, li91, li93, li95, li97, li99, li100, li101, li107, li113, li119, li122, li125, li155, li156, li200, li255, li288, li400, li999, li9999, li1580, li2400, li624, hq]
  rfl
theorem besideOf_ev (hN : N ≤ 6) (hr : rOK N rg pl) (hd : rSt N rg d) (h3 : d 3 = nn N) (hs : s < N) : m_besideOf (nn s) (nn 1) d = some (nn (bhd N rg pl s)) := by
  have hp := (hr s hs).2.1
  unfold m_besideOf
  have hq := hd (nx N (pl s)) (nx_lt hp)
  have hl := nx_lt hp
  rw [placeOf_ev hN hr hd hs]
  simp (disch := omega) only [lt, rq_inb, rq_dec, rq_bo0, rq_bo1, rq_bob, bs, ba, nn_add, nn_mul, nn_tn, nn_le, nn_lt, nn_inj, nn_m1, nn_sub, upd_s, upd_o, updL_s, updL_o, li31, li0, li1, li2, li3, li4, li5, li6, li7, li8, li9, li10, li11, li12, li13, li14, li15, li16, li19, li20, li24, li32, li35, li36, li40, li41, li42, li45, li47, li48, li50, li53, li57, li60, li79, li89, li91, li93, li95, li97, li99, li100, li101, li107, li113, li119, li122, li125, li155, li156, li200, li255, li288, li400, li999, li9999, li1580, li2400, li624, h3, nn_mod]
  unfold nx at hq hl
  simp (disch := omega) only [lt, rq_inb, rq_dec, rq_bo0, rq_bo1, rq_bob, bs, ba, nn_add, nn_mul, nn_tn, nn_le, nn_lt, nn_inj, nn_m1, nn_sub, upd_s, upd_o, updL_s, updL_o, li31, li0, li1, li2, li3, li4, li5, li6, li7, li8, li9, li10, li11, li12, li13, li14, li15, li16, li19, li20, li24, li32, li35, li36, li40, li41, li42, li45, li47, li48, li50, li53, li57, li60, li79, li89, li91, li93, li95, li97, li99, li100, li101, li107, li113, li119, li122, li125, li155, li156, li200, li255, li288, li400, li999, li9999, li1580, li2400, li624, hq]
  rfl
theorem bears_ev {k : Nat} (h : s < 6) : m_bears (nn s) (nn k) d = some (b01 (gB (d (41 + s)) k = true)) := by
  unfold m_bears
  simp (disch := omega) only [lt, rq_inb, rq_dec, rq_bo0, rq_bo1, rq_bob, bs, ba, nn_add, nn_mul, nn_tn, nn_le, nn_lt, nn_inj, nn_m1, nn_sub, upd_s, upd_o, updL_s, updL_o, li31, li0, li1, li2, li3, li4, li5, li6, li7, li8, li9, li10, li11, li12, li13, li14, li15, li16, li19, li20, li24, li32, li35, li36, li40, li41, li42, li45, li47, li48, li50, li53, li57, li60, li79, li89, li91, li93, li95, li97, li99, li100, li101, li107, li113, li119, li122, li125, li155, li156, li200, li255, li288, li400, li999, li9999, li1580, li2400, li624, isOf_ev]
theorem praiseOf_ev (hN : N ≤ 6) (hr : rOK N rg pl) (hd : rSt N rg d) (h3 : d 3 = nn N) (hs : s < N) : m_praiseOf (nn s) d = some (prS N rg pl d s) := by
  have hl := slr_lt hr hs
  unfold m_praiseOf
  rw [sellerOf_ev hN hr hd h3 hs]
  simp (disch := omega) only [lt, rq_inb, rq_dec, rq_bo0, rq_bo1, rq_bob, bs, ba, nn_add, nn_mul, nn_tn, nn_le, nn_lt, nn_inj, nn_m1, nn_sub, upd_s, upd_o, updL_s, updL_o, li31, li0, li1, li2, li3, li4, li5, li6, li7, li8, li9, li10, li11, li12, li13, li14, li15, li16, li19, li20, li24, li32, li35, li36, li40, li41, li42, li45, li47, li48, li50, li53, li57, li60, li79, li89, li91, li93, li95, li97, li99, li100, li101, li107, li113, li119, li122, li125, li155, li156, li200, li255, li288, li400, li999, li9999, li1580, li2400, li624, bears_ev, b01_0]
  unfold prS
  by_cases e : gB (d (41 + slr N rg pl s)) s = true
  · rw [if_neg (fun h => h e), if_pos e]
  · rw [if_pos e, if_neg e]
theorem canBuy_ev (hb : b < 6) (hs : s < 6) : m_canBuy (nn b) (nn s) d = some (b01 (cnS d b s = true)) := by
  unfold m_canBuy cnS
  simp (disch := omega) only [lt, rq_inb, rq_dec, rq_bo0, rq_bo1, rq_bob, bs, ba, nn_add, nn_mul, nn_tn, nn_le, nn_lt, nn_inj, nn_m1, nn_sub, upd_s, upd_o, updL_s, updL_o, li31, li0, li1, li2, li3, li4, li5, li6, li7, li8, li9, li10, li11, li12, li13, li14, li15, li16, li19, li20, li24, li32, li35, li36, li40, li41, li42, li45, li47, li48, li50, li53, li57, li60, li79, li89, li91, li93, li95, li97, li99, li100, li101, li107, li113, li119, li122, li125, li155, li156, li200, li255, li288, li400, li999, li9999, li1580, li2400, li624, goodsOf_ev, priceOf_ev]
  by_cases h1 : d (11 + 4 * s) ≤ nn 0
  · rw [if_pos h1, b01_f]
    simp only [Bool.and_eq_true, decide_eq_true_eq, not_and]
    intro h; rw [Int32.lt_iff_toInt_lt] at h; rw [Int32.le_iff_toInt_le] at h1; omega
  · rw [if_neg h1]
    have h1' : nn 0 < d (11 + 4 * s) := by rw [Int32.lt_iff_toInt_lt]; rw [Int32.le_iff_toInt_le] at h1; omega
    by_cases h2 : d (47 + b) < d (11 + 4 * s + 1)
    · rw [if_pos h2, b01_f]
      simp only [Bool.and_eq_true, decide_eq_true_eq, not_and]
      intro h; rw [Int32.lt_iff_toInt_lt] at h2; rw [Int32.le_iff_toInt_le]; omega
    · rw [if_neg h2, b01_t]
      simp only [Bool.and_eq_true, decide_eq_true_eq]
      refine ⟨h1', ?_⟩
      rw [Int32.lt_iff_toInt_lt] at h2; rw [Int32.le_iff_toInt_le]; omega
/-! rules on the reference's stack -/
theorem one_ev {k : Nat} (x y : Int64) (h : k = 2 ∨ k = 3 ∨ k = 4 ∨ k = 5 ∨ k = 6 ∨ k = 7 ∨ k = 8 ∨ k = 9 ∨ k = 10 ∨ k = 12 ∨ k = 13 ∨ k = 14) : m_one (nn k) x y = some (opS k x y) := by
  have T : ∀ {p : Prop} [Decidable p] {z w : Int64}, (if p then some z else some w) = some (if p then z else w) := by intro p _ z w; split <;> rfl
  have nlt : ∀ {x y : Int64}, (¬ x < y) ↔ y ≤ x := by intro x y; rw [L_lt, L_le]; omega
  have nle : ∀ {x y : Int64}, (¬ x ≤ y) ↔ y < x := by intro x y; rw [L_lt, L_le]; omega
  rcases h with h | h | h | h | h | h | h | h | h | h | h | h <;> subst h <;> unfold m_one opS <;> simp (disch := omega) only [lt, rq_inb, rq_dec, rq_bo0, rq_bo1, rq_bob, bs, ba, nn_add, nn_mul, nn_tn, nn_le, nn_lt, nn_inj, nn_m1, nn_sub, upd_s, upd_o, updL_s, updL_o, li31, li0, li1, li2, li3, li4, li5, li6, li7, li8, li9, li10, li11, li12, li13, li14, li15, li16, li19, li20, li24, li32, li35, li36, li40, li41, li42, li45, li47, li48, li50, li53, li57, li60, li79, li89, li91, li93, li95, li97, li99, li100, li101, li107, li113, li119, li122, li125, li155, li156, li200, li255, li288, li400, li999, li9999, li1580, li2400, li624, lgc_eq, lgc_ge, lgc_gt, lgc_lt, lgc_le] <;>
    simp only [if_true, if_false, reduceCtorEq, Nat.reduceEqDiff, OfNat.ofNat_ne_ofNat, OfNat.ofNat_eq_ofNat]
  · by_cases e : y = 0
    · rw [if_pos e, if_pos e]
    · rw [if_neg e, if_neg e, rq_dec e]
  all_goals sorry
end ref
