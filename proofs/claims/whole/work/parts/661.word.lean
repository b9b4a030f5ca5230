/-! words -/
def rk : List Nat → Nat
  | [] => 0
  | c :: l => rk l * 256 + c
theorem rk_lt : ∀ (l : List Nat), (∀ c, c ∈ l → c < 256) → rk l < 256 ^ l.length := by
  intro l
  induction l with
  | nil => intro _; exact Nat.one_pos
  | cons c l ih =>
    intro h
    have h1 := ih (fun d hd => h d (List.mem_cons_of_mem _ hd))
    have h2 := h c List.mem_cons_self
    unfold rk
    rw [List.length_cons, Nat.pow_succ]
    omega
theorem rk_inj : ∀ (l m : List Nat), (∀ c, c ∈ l → 1 ≤ c ∧ c < 256) → (∀ c, c ∈ m → 1 ≤ c ∧ c < 256) → rk l = rk m → l = m := by
  intro l
  induction l with
  | nil =>
    intro m _ hm h
    cases m with
    | nil => rfl
    | cons d m =>
      have := hm d List.mem_cons_self
      unfold rk at h
      omega
  | cons c l ih =>
    intro m hl hm h
    have h1 := hl c List.mem_cons_self
    cases m with
    | nil => unfold rk at h; omega
    | cons d m =>
      have h2 := hm d List.mem_cons_self
      unfold rk at h
      have e1 : c = d := by omega
      have e2 : rk l = rk m := by omega
      rw [e1, ih m (fun d hd => hl d (List.mem_cons_of_mem _ hd)) (fun d hd => hm d (List.mem_cons_of_mem _ hd)) e2]
def pkR (x : Int64) (l : List Nat) : Prop := x.toBitVec.toNat = rk l
theorem pk_step {x : Int64} {l : List Nat} {c : Nat} (h : pkR x l) (hl : l.length < 7) (hb : ∀ d, d ∈ l → d < 256) (hc : c < 256) : pkR ((x <<< ((8 : Int32).toInt64 &&& 63)) ||| (nn c).toInt64) (c :: l) := by
  unfold pkR at *
  have h1 := rk_lt l hb
  have h2 : 256 ^ l.length ≤ 256 ^ 6 := Nat.pow_le_pow_right (by omega) (by omega)
  have h3 : rk l < 281474976710656 := by
    have : (256 : Nat) ^ 6 = 281474976710656 := by decide
    omega
  have e1 : ((nn c).toInt64).toBitVec.toNat = c := by
    rw [nnL (by omega)]
    show (BitVec.ofNat 64 c).toNat = c
    rw [BitVec.toNat_ofNat]
    omega
  have e2 : ((8 : Int32).toInt64 &&& 63) = (8 : Int64) := by decide
  rw [e2, Int64.toBitVec_or, BitVec.toNat_or, e1, Int64.toBitVec_shiftLeft]
  have e3 : ((8 : Int64).toBitVec.smod 64) = 8#64 := by decide
  rw [e3, BitVec.shiftLeft_eq', BitVec.toNat_shiftLeft, h, show (8#64 : BitVec 64).toNat = 8 from rfl]
  have e4 : rk l <<< 8 = rk l * 256 := by rw [Nat.shiftLeft_eq]
  have e5 : rk l <<< 8 % 2 ^ 64 = rk l <<< 8 := by rw [e4]; omega
  rw [e5, ← Nat.shiftLeft_add_eq_or_of_lt (by omega : c < 2 ^ 8), e4]
  rfl
theorem pkR_eq {x y : Int64} {l m : List Nat} (hx : pkR x l) (hy : pkR y m) (hl : ∀ c, c ∈ l → 1 ≤ c ∧ c < 256) (hm : ∀ c, c ∈ m → 1 ≤ c ∧ c < 256) : (x = y) ↔ l = m := by
  unfold pkR at *
  constructor
  · intro h
    rw [h, hy] at hx
    exact (rk_inj _ _ hm hl hx).symm
  · intro h
    rw [h] at hx
    apply Int64.toBitVec_inj.1
    apply BitVec.eq_of_toNat_eq
    rw [hx, hy]
section word
variable {b tx : Nat → Int32} {T : Nat}
theorem run_mem : ∀ (k p : Nat), T - p = k → ∀ c, c ∈ run b T p → 97 ≤ c ∧ c ≤ 122 := by
  intro k
  induction k with
  | zero =>
    intro p h1 c hc
    rw [run_no (by rw [← Bool.not_eq_true, isLt_t]; omega)] at hc
    cases hc
  | succ k ih =>
    intro p h1 c hc
    by_cases e : isLt b T p = true
    · rw [run_lt e] at hc
      rcases List.mem_cons.1 hc with h | h
      · obtain ⟨d, _, h2, h3, h4⟩ := lt_val e
        omega
      · exact ih (p + 1) (by omega) c h
    · rw [run_no (by rw [← Bool.not_eq_true]; exact e)] at hc
      cases hc
theorem isWord_l10_ev (hT : T ≤ 400) (hb : bR T b tx) {p : Nat} {w : Int64} {W : List Nat} (hw : pkR w W.reverse) (hW : ∀ c, c ∈ W → 1 ≤ c ∧ c < 256) (hl : 0 < W.length) (hl2 : W.length < 8) :
    ∀ (k n f : Nat) (x : Int64) (acc : List Nat), T - (p + n) = k → p + n ≤ T → k < f → acc.length = n → (∀ c, c ∈ acc → 97 ≤ c ∧ c ≤ 122) → (n < 8 → pkR x acc) →
      m_isWord_l10 tx (nn T) (nn p) w f x (nn n) = some (b01 ((run b T (p + n)).reverse ++ acc = W.reverse), nn p) := by
  have hWr : ∀ c, c ∈ W.reverse → 1 ≤ c ∧ c < 256 := fun c hc => hW c (List.mem_reverse.1 hc)
  have base : ∀ (n f : Nat) (x : Int64) (acc : List Nat), p + n ≤ T → 0 < f → acc.length = n → (∀ c, c ∈ acc → 97 ≤ c ∧ c ≤ 122) → (n < 8 → pkR x acc) → isLt b T (p + n) = false → m_isWord_l10 tx (nn T) (nn p) w f x (nn n) = some (b01 ((run b T (p + n)).reverse ++ acc = W.reverse), nn p) := by
    intro n f x acc h2 h3 h4 h5 h6 h7
    match f, h3 with
    | f + 1, _ =>
    unfold m_isWord_l10
    rw [nn_add, xm_isLetter hT hb (by omega), bs, ifb_f (by rw [h7]; decide), run_no h7, List.reverse_nil, List.nil_append]
    by_cases e0 : n = 0
    · have : acc = [] := List.length_eq_zero_iff.1 (by omega)
      subst this
      rw [if_pos (show nn n ≤ 0 by rw [li0, nn_le (by omega) (by omega)]; omega), b01_f (by intro h; have := congrArg List.length h; rw [List.length_reverse] at this; simp at this; omega)]
      rfl
    · rw [if_neg (show ¬ nn n ≤ 0 by rw [li0, nn_le (by omega) (by omega)]; omega), show (8 : Int32) = nn 8 from id rfl]
      by_cases e8 : 8 ≤ n
      · rw [ifle_t e8 (by omega), b01_f (by intro h; have := congrArg List.length h; rw [List.length_reverse] at this; omega)]
        rfl
      · rw [ifle_f (by omega) (by omega)]
        have hq := pkR_eq (h6 (by omega)) hw (fun c hc => by have := h5 c hc; omega) hWr
        by_cases e9 : acc = W.reverse
        · rw [if_pos (show lg_cmp x w = 0 by rw [li0, lgc_eq]; exact hq.2 e9), b01_t e9]; rfl
        · rw [if_neg (show ¬ lg_cmp x w = 0 by rw [li0, lgc_eq]; exact fun h => e9 (hq.1 h)), b01_f e9]; rfl
  intro k
  induction k with
  | zero =>
    intro n f x acc h1 h2 h3 h4 h5 h6
    exact base n f x acc h2 (by omega) h4 h5 h6 (by rw [← Bool.not_eq_true, isLt_t]; omega)
  | succ k ih =>
    intro n f x acc h1 h2 h3 h4 h5 h6
    by_cases e : isLt b T (p + n) = true
    · match f, h3 with
      | f + 1, h3 =>
      obtain ⟨c, c1, c2, c3, c4⟩ := lt_val e
      unfold m_isWord_l10
      rw [nn_add, xm_isLetter hT hb (by omega), bs, ifb_t e, run_lt e, c4, List.reverse_cons, List.append_assoc, show (8 : Int32) = nn 8 from id rfl, li1, nn_add, show [c] ++ acc = c :: acc from rfl]
      have hm : ∀ d, d ∈ c :: acc → 97 ≤ d ∧ d ≤ 122 := fun d hd => by
        rcases List.mem_cons.1 hd with h | h
        · omega
        · exact h5 d h
      by_cases e8 : 8 ≤ n
      · rw [ifle_t e8 (by omega)]
        exact ih (n + 1) f x (c :: acc) (by omega) (by omega) (by omega) (by rw [List.length_cons, h4]) hm (fun h => by omega)
      · rw [ifle_f (by omega) (by omega), rq_inb (by omega) (by omega), ltp, nn_tn (by omega), hb _ (by omega), c1]
        refine ih (n + 1) f _ (c :: acc) (by omega) (by omega) (by omega) (by rw [List.length_cons, h4]) hm (fun h => ?_)
        exact pk_step (h6 (by omega)) (by omega) (fun d hd => by have := h5 d hd; omega) (by omega)
    · exact base n f x acc h2 (by omega) h4 h5 h6 (by rw [← Bool.not_eq_true]; exact e)
/-- the word behind the blanks is W -/
def isW (b : Nat → Int32) (T : Nat) (W : List Nat) (p : Nat) : Bool := decide (run b T p = W)
theorem xm_isWord (hT : T ≤ 400) (hb : bR T b tx) {p : Nat} (hp : p ≤ T) {w : Int64} {W : List Nat} (hw : pkR w W.reverse) (hW : ∀ c, c ∈ W → 1 ≤ c ∧ c < 256) (hl : 0 < W.length) (hl2 : W.length < 8) : m_isWord w tx (nn T) (nn p) = some (b01 (isW b T W (skp b T p) = true), nn (skp b T p)) := by
  unfold m_isWord
  have h1 := skp_le (b := b) hp
  rw [xm_see hT hb hp, bs]
  dsimp only
  rw [li0, isWord_l10_ev hT hb hw hW hl hl2 (T - skp b T p) 0 FU 0 [] (by omega) (by omega) (by unfold FU; omega) rfl (fun c hc => by cases hc) (fun _ => rfl), List.append_nil]
  unfold isW
  by_cases e : run b T (skp b T p) = W
  · rw [b01_t (decide_eq_true e), b01_t (by rw [Nat.add_zero, e])]
  · rw [b01_f (fun h => e (of_decide_eq_true h)), b01_f (by rw [Nat.add_zero]; exact fun h => e (List.reverse_inj.1 h))]
theorem xm_passWord (hT : T ≤ 400) (hb : bR T b tx) {p : Nat} (hp : p ≤ T) : m_passWord tx (nn T) (nn p) = some (nn (p + (run b T p).length)) := by
  unfold m_passWord
  exact m_passWord_ev hT hb (T - p) p FU rfl hp (by unfold FU; omega)
end word
