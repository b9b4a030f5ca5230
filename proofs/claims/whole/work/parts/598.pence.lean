/-! asks: pence -/
def ll (k : Nat) : Int64 := Int64.ofNat k
theorem ll_toInt {k : Nat} (h : k < 2147483648) : (ll k).toInt = (k : Int) := Int64.toInt_ofNat_of_lt (by omega)
theorem ll_mul (a b : Nat) : ll a * ll b = ll (a * b) := (Int64.ofNat_mul a b).symm
theorem ll_add (a b : Nat) : ll a + ll b = ll (a + b) := (Int64.ofNat_add a b).symm
theorem nn_ll {k : Nat} (h : k < 2147483648) : (nn k).toInt64 = ll k := nnL h
theorem l_eq {x y : Int64} (h : x.toInt = y.toInt) : x = y := Int64.toInt_inj.1 h
theorem bmL {x : Int} (h1 : -9223372036854775808 ≤ x) (h2 : x < 9223372036854775808) : x.bmod (2 ^ 64) = x := Int.bmod_eq_of_le (by simpa using h1) (by simpa using h2)
theorem l_sub {x y : Int64} (h1 : -9223372036854775808 ≤ x.toInt - y.toInt) (h2 : x.toInt - y.toInt < 9223372036854775808) : (x - y).toInt = x.toInt - y.toInt := by
  rw [Int64.toInt_sub, bmL h1 h2]
theorem ll_sub {a b : Nat} (h : b ≤ a) (ha : a < 2147483648) : ll a - ll b = ll (a - b) := by
  apply l_eq
  have e1 := ll_toInt (k := a) ha
  have e2 := ll_toInt (k := b) (by omega)
  rw [l_sub (by rw [e1, e2]; omega) (by rw [e1, e2]; omega), e1, e2, ll_toInt (by omega)]
  omega
theorem ll_div {a b : Nat} (ha : a < 2147483648) (hb : b < 2147483648) : ll a / ll b = ll (a / b) := by
  apply l_eq
  have hab : a / b ≤ a := Nat.div_le_self a b
  rw [Int64.toInt_div_of_ne_right, ll_toInt ha, ll_toInt hb, ll_toInt (by omega)]
  · rfl
  · intro h
    have := congrArg Int64.toInt h
    rw [ll_toInt hb] at this
    have e : (-1 : Int64).toInt = -1 := rfl
    omega
theorem ll_mod {a b : Nat} (ha : a < 2147483648) (hb : b < 2147483648) : ll a - ll a / ll b * ll b = ll (a % b) := by
  have h1 : a / b * b ≤ a := Nat.div_mul_le_self a b
  rw [ll_div ha hb, ll_mul, ll_sub h1 ha]
  congr 1
  have := Nat.div_add_mod a b
  rw [Nat.mul_comm] at this
  omega
theorem ll_inj {a b : Nat} (ha : a < 2147483648) (hb : b < 2147483648) : (ll a = ll b) = (a = b) := by
  apply propext
  constructor
  · intro h; have := congrArg Int64.toInt h; rw [ll_toInt ha, ll_toInt hb] at this; omega
  · intro h; rw [h]
theorem ll_lt {a b : Nat} (ha : a < 2147483648) (hb : b < 2147483648) : (ll a < ll b) = (a < b) := by
  rw [L_lt, ll_toInt ha, ll_toInt hb]; exact propext Int.ofNat_lt
theorem ll_i32 {k : Nat} (h : k < 2147483648) : (ll k).toInt32 = nn k := by
  apply i_eq
  rw [Int64.toInt_toInt32, ll_toInt h, nn_toInt h]
  exact Int.bmod_eq_of_le (by omega) (by omega)
section pence
variable {d : Nat → Int32} {N : Nat} {W : Nat → Nat} {wealth : Nat → Int32} {much st al : Nat}
theorem pence_loop (hN : N ≤ 6) (h3 : d 3 = nn N) (hW : ∀ s, s < N → d (11 + 4 * s + 3) = nn (W s) ∧ wealth s = nn (W s) ∧ W s ≤ 4800) (hm : much ≤ 9999) (hst : st < N) (hal : 0 < al) (hal2 : al ≤ 4800) :
    ∀ (k i n c : Nat) (x : Int32) (y : Int64), i + k = N → k < n → c ≤ i → x.toInt = y.toInt → -((i : Int) * 50000000) ≤ x.toInt → x.toInt ≤ 9999 →
      ∃ A, m_pence_l52 d (nn much) (nn st) (nn al) (nn (much * W st)) n x (nn c) (nn i) = some A ∧ mFair_partOf_l42 (nn N) wealth (nn much) (nn st) (ll al) (ll (much * W st % al)) n y (ll c) (nn i) = some A := by
  have hb : ∀ s, s < N → much * W s ≤ 9999 * 4800 := fun s hs => Nat.mul_le_mul hm (hW s hs).2.2
  have hal0 : ¬ nn al = nn 0 := by rw [nn_inj (by omega) (by omega)]; omega
  have hal1 : ¬ ll al = 0 := by
    intro h
    have := congrArg Int64.toInt h
    rw [ll_toInt (by omega)] at this
    have e0 : (0 : Int64).toInt = 0 := rfl
    omega
  have hbs := hb st hst
  intro k
  induction k with
  | zero =>
    intro i n c x y h1 h2 hc hxy hlo hhi
    match n, h2 with
    | n + 1, _ =>
    unfold m_pence_l52 mFair_partOf_l42
    simp only [lt, li0, li1, li3]
    have hd : much * W st / al ≤ much * W st := Nat.div_le_self _ _
    rw [rq_inb (by omega) (by omega), nn_tn (by omega), h3, ifle_t (by omega) (by omega), ifle_t (by omega) (by omega), rq_dec hal0, rq_inb (by omega) (by omega), rq_dec hal1, nn_tn (by omega), (hW st hst).2.1, nn_ll (by omega), nn_ll (by have := (hW st hst).2.2; omega), ll_mul, ll_div (by omega) (by omega), nn_div (by omega) (by omega) hal, nn_add, nn_add]
    have hcv : (ll c).toInt = c := ll_toInt (by omega)
    by_cases e : x ≤ nn c
    · rw [if_pos e]
      rw [Int32.le_iff_toInt_le, nn_toInt (by omega)] at e
      rw [if_pos (by rw [lgc_ge, L_le, hcv]; omega), Nat.add_zero]
      exact ⟨_, rfl, by rw [ll_i32 (by omega)]⟩
    · rw [if_neg e]
      rw [Int32.le_iff_toInt_le, nn_toInt (by omega)] at e
      rw [if_neg (by rw [lgc_ge, L_le, hcv]; omega)]
      refine ⟨_, rfl, ?_⟩
      rw [show (1 : Int64) = ll 1 from rfl, ll_add, ll_i32 (by omega)]
  | succ k ih =>
    intro i n c x y h1 h2 hc hxy hlo hhi
    match n, h2 with
    | n + 1, h2 =>
    have hi : i < N := by omega
    have hbi := hb i hi
    have hWi := hW i hi
    have hq : much * W i / al ≤ much * W i := Nat.div_le_self _ _
    have hm1 : much * W i % al < al := Nat.mod_lt _ hal
    have hm2 : much * W st % al < al := Nat.mod_lt _ hal
    obtain ⟨q, hqe⟩ : ∃ q, much * W i / al = q := ⟨_, rfl⟩
    have hql : q ≤ 50000000 := by omega
    have ex : (x - nn q).toInt = x.toInt - (q : Int) := by
      rw [i_sub (by rw [nn_toInt (by omega)]; omega) (by rw [nn_toInt (by omega)]; omega), nn_toInt (by omega)]
    have ey : (y - ll q).toInt = y.toInt - (q : Int) := by
      rw [l_sub (by rw [ll_toInt (by omega)]; omega) (by rw [ll_toInt (by omega)]; omega), ll_toInt (by omega)]
    have step : ∀ c', c' ≤ i + 1 → ∃ A, m_pence_l52 d (nn much) (nn st) (nn al) (nn (much * W st)) n (x - nn q) (nn c') (nn (i + 1)) = some A ∧ mFair_partOf_l42 (nn N) wealth (nn much) (nn st) (ll al) (ll (much * W st % al)) n (y - ll q) (ll c') (nn (i + 1)) = some A :=
      fun c' hc' => ih (i + 1) n c' _ _ (by omega) (by omega) hc' (by rw [ex, ey, hxy]) (by rw [ex]; omega) (by rw [ex]; omega)
    unfold m_pence_l52 mFair_partOf_l42
    simp only [lt, li0, li1, li3, show (1 : Int64) = ll 1 from rfl]
    rw [rq_inb (by omega) (by omega), nn_tn (by omega), h3, ifle_f (by omega) (by omega), ifle_f (by omega) (by omega), wealthOf_ev (by omega), bs, hWi.1, nn_mul, rq_dec hal0, rq_dec hal0, rq_dec hal0, rq_dec hal0, rq_dec hal0, rq_inb (by omega) (by omega), rq_inb (by omega) (by omega), rq_dec hal1, rq_dec hal1, nn_tn (by omega), hWi.2.1, nn_ll (by omega), nn_ll (by omega), ll_mul, ll_mod (by omega) (by omega), ll_div (by omega) (by omega), nn_mod (by omega) (by omega) hal, nn_mod (by omega) (by omega) hal, nn_div (by omega) (by omega) hal, hqe, nn_add, nn_add, nn_add, ll_add]
    have G1 : (nn 0 < lg_cmp (ll (much * W i % al)) (ll (much * W st % al))) = (much * W st % al < much * W i % al) := by rw [lgc_gt, ll_lt (by omega) (by omega)]
    have G2 : (lg_cmp (ll (much * W i % al)) (ll (much * W st % al)) = nn 0) = (much * W i % al = much * W st % al) := by rw [lgc_eq, ll_inj (by omega) (by omega)]
    by_cases e1 : much * W st % al < much * W i % al
    · rw [iflt_t e1 (by omega), if_pos (G1.mpr e1)]
      exact step (c + 1) (by omega)
    · rw [iflt_f (by omega) (by omega), if_neg (fun h => e1 (G1.mp h))]
      by_cases e2 : much * W i % al = much * W st % al
      · rw [ifeq_t e2, if_pos (G2.mpr e2)]
        by_cases e3 : st ≤ i
        · rw [ifle_t e3 (by omega), ifle_t e3 (by omega), Nat.add_zero]
          exact step c (by omega)
        · rw [ifle_f (by omega) (by omega), ifle_f (by omega) (by omega)]
          exact step (c + 1) (by omega)
      · rw [ifeq_f e2 (by omega) (by omega), if_neg (fun h => e2 (G2.mp h)), Nat.add_zero]
        exact step c (by omega)
end pence
