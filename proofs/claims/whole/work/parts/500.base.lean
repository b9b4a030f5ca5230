/-! the pure part: numbers, rows, evaluation of the models -/
def nn (k : Nat) : Int32 := Int32.ofNat k
theorem nn_toInt {k : Nat} (h : k < 2147483648) : (nn k).toInt = (k : Int) := Int32.toInt_ofNat_of_lt h
theorem nn_tn {k : Nat} (h : k < 2147483648) : (nn k).toNatClampNeg = k := Int32.toNatClampNeg_ofNat_of_lt h
theorem nn_add (a b : Nat) : nn a + nn b = nn (a + b) := (Int32.ofNat_add a b).symm
theorem nn_mul (a b : Nat) : nn a * nn b = nn (a * b) := (Int32.ofNat_mul a b).symm
theorem i_eq {x y : Int32} (h : x.toInt = y.toInt) : x = y := Int32.toInt_inj.1 h
theorem bm {x : Int} (h1 : -2147483648 ≤ x) (h2 : x < 2147483648) : x.bmod (2 ^ 32) = x := Int.bmod_eq_of_le (by simpa using h1) (by simpa using h2)
theorem i_add {x y : Int32} (h1 : -2147483648 ≤ x.toInt + y.toInt) (h2 : x.toInt + y.toInt < 2147483648) : (x + y).toInt = x.toInt + y.toInt := by
  rw [Int32.toInt_add, bm h1 h2]
theorem i_sub {x y : Int32} (h1 : -2147483648 ≤ x.toInt - y.toInt) (h2 : x.toInt - y.toInt < 2147483648) : (x - y).toInt = x.toInt - y.toInt := by
  rw [Int32.toInt_sub, bm h1 h2]
theorem i_mul {x y : Int32} (h1 : -2147483648 ≤ x.toInt * y.toInt) (h2 : x.toInt * y.toInt < 2147483648) : (x * y).toInt = x.toInt * y.toInt := by
  rw [Int32.toInt_mul, bm h1 h2]
theorem nn_sub {a b : Nat} (h : b ≤ a) (ha : a < 2147483648) : nn a - nn b = nn (a - b) := by
  apply i_eq
  have hb : b < 2147483648 := Nat.lt_of_le_of_lt h ha
  rw [i_sub, nn_toInt ha, nn_toInt hb, nn_toInt (by omega)] <;> (try rw [nn_toInt ha, nn_toInt hb]) <;> omega
theorem nn_m1 {a : Nat} (h : 1 ≤ a) (ha : a < 2147483648) : nn a + -nn 1 = nn (a - 1) := by
  rw [← nn_sub h ha, Int32.sub_eq_add_neg]
theorem nn_le {a b : Nat} (ha : a < 2147483648) (hb : b < 2147483648) : (nn a ≤ nn b) = (a ≤ b) := by
  rw [Int32.le_iff_toInt_le, nn_toInt ha, nn_toInt hb]; exact propext Int.ofNat_le
theorem nn_lt {a b : Nat} (ha : a < 2147483648) (hb : b < 2147483648) : (nn a < nn b) = (a < b) := by
  rw [Int32.lt_iff_toInt_lt, nn_toInt ha, nn_toInt hb]; exact propext Int.ofNat_lt
theorem nn_inj {a b : Nat} (ha : a < 2147483648) (hb : b < 2147483648) : (nn a = nn b) = (a = b) := by
  apply propext
  constructor
  · intro h; have := congrArg Int32.toInt h; rw [nn_toInt ha, nn_toInt hb] at this; omega
  · intro h; rw [h]
theorem nn_inb {k n : Nat} (h : k < n) (hn : n < 2147483648) : inb (nn k) n = true := by
  have hk : k < 2147483648 := Nat.lt_trans h hn
  have h0 : (0 : Int32) = nn 0 := rfl
  unfold inb
  rw [nn_tn hk, Bool.and_eq_true, decide_eq_true_eq, decide_eq_true_eq, h0, nn_le (by omega) hk]
  exact ⟨Nat.zero_le k, h⟩
theorem rq_true {α : Type} {b : Bool} {x : Option α} (h : b = true) : rq b x = x := by subst h; rfl
theorem rq_inb {α : Type} {k n : Nat} {x : Option α} (h : k < n) (hn : n < 2147483648) : rq (inb (nn k) n) x = x := rq_true (nn_inb h hn)
theorem rq_dec {α : Type} {p : Prop} [Decidable p] {x : Option α} (h : p) : rq (decide p) x = x := rq_true (decide_eq_true h)
theorem rq_bo0 {α : Type} {x : Option α} : rq (bo (nn 0)) x = x := rfl
theorem rq_bo1 {α : Type} {x : Option α} : rq (bo (nn 1)) x = x := rfl
theorem bs {α β : Type} (a : α) (f : α → Option β) : (some a).bind f = f a := rfl
theorem ba {α β γ : Type} (x : Option α) (f : α → Option β) (g : β → Option γ) : (x.bind f).bind g = x.bind (fun a => (f a).bind g) := by cases x <;> rfl
/-- a truth as an int -/
def b01 (c : Prop) [Decidable c] : Int32 := if c then nn 1 else nn 0
theorem b01_0 {c : Prop} [Decidable c] : (b01 c = nn 0) = ¬ c := by unfold b01; by_cases h : c <;> simp [h] <;> decide
theorem b01_1 {c : Prop} [Decidable c] : (b01 c = nn 1) = c := by unfold b01; by_cases h : c <;> simp [h] <;> decide
theorem b01_t {c : Prop} [Decidable c] (h : c) : b01 c = nn 1 := if_pos h
theorem b01_f {c : Prop} [Decidable c] (h : ¬ c) : b01 c = nn 0 := if_neg h
theorem rq_bob {α : Type} {x : Option α} {c : Prop} [Decidable c] : rq (bo (b01 c)) x = x := by by_cases h : c <;> simp only [b01_t, b01_f, h, not_false_eq_true] <;> rfl
theorem li31 : (31 : Int32) = nn 31 := id rfl
theorem li25 : (25 : Int32) = nn 25 := id rfl
theorem li0 : (0 : Int32) = nn 0 := id rfl
theorem li1 : (1 : Int32) = nn 1 := id rfl
theorem li2 : (2 : Int32) = nn 2 := id rfl
theorem li3 : (3 : Int32) = nn 3 := id rfl
theorem li4 : (4 : Int32) = nn 4 := id rfl
theorem li5 : (5 : Int32) = nn 5 := id rfl
theorem li6 : (6 : Int32) = nn 6 := id rfl
theorem li7 : (7 : Int32) = nn 7 := id rfl
theorem li8 : (8 : Int32) = nn 8 := id rfl
theorem li9 : (9 : Int32) = nn 9 := id rfl
theorem li10 : (10 : Int32) = nn 10 := id rfl
theorem li11 : (11 : Int32) = nn 11 := id rfl
theorem li12 : (12 : Int32) = nn 12 := id rfl
theorem li13 : (13 : Int32) = nn 13 := id rfl
theorem li14 : (14 : Int32) = nn 14 := id rfl
theorem li15 : (15 : Int32) = nn 15 := id rfl
theorem li16 : (16 : Int32) = nn 16 := id rfl
theorem li19 : (19 : Int32) = nn 19 := id rfl
theorem li20 : (20 : Int32) = nn 20 := id rfl
theorem li24 : (24 : Int32) = nn 24 := id rfl
theorem li32 : (32 : Int32) = nn 32 := id rfl
theorem li35 : (35 : Int32) = nn 35 := id rfl
theorem li36 : (36 : Int32) = nn 36 := id rfl
theorem li40 : (40 : Int32) = nn 40 := id rfl
theorem li41 : (41 : Int32) = nn 41 := id rfl
theorem li42 : (42 : Int32) = nn 42 := id rfl
theorem li45 : (45 : Int32) = nn 45 := id rfl
theorem li47 : (47 : Int32) = nn 47 := id rfl
theorem li48 : (48 : Int32) = nn 48 := id rfl
theorem li50 : (50 : Int32) = nn 50 := id rfl
theorem li53 : (53 : Int32) = nn 53 := id rfl
theorem li57 : (57 : Int32) = nn 57 := id rfl
theorem li60 : (60 : Int32) = nn 60 := id rfl
theorem li79 : (79 : Int32) = nn 79 := id rfl
theorem li89 : (89 : Int32) = nn 89 := id rfl
theorem li91 : (91 : Int32) = nn 91 := id rfl
theorem li93 : (93 : Int32) = nn 93 := id rfl
theorem li95 : (95 : Int32) = nn 95 := id rfl
theorem li97 : (97 : Int32) = nn 97 := id rfl
theorem li99 : (99 : Int32) = nn 99 := id rfl
theorem li100 : (100 : Int32) = nn 100 := id rfl
theorem li101 : (101 : Int32) = nn 101 := id rfl
theorem li107 : (107 : Int32) = nn 107 := id rfl
theorem li113 : (113 : Int32) = nn 113 := id rfl
theorem li119 : (119 : Int32) = nn 119 := id rfl
theorem li122 : (122 : Int32) = nn 122 := id rfl
theorem li125 : (125 : Int32) = nn 125 := id rfl
theorem li155 : (155 : Int32) = nn 155 := id rfl
theorem li156 : (156 : Int32) = nn 156 := id rfl
theorem li200 : (200 : Int32) = nn 200 := id rfl
theorem li255 : (255 : Int32) = nn 255 := id rfl
theorem li288 : (288 : Int32) = nn 288 := id rfl
theorem li400 : (400 : Int32) = nn 400 := id rfl
theorem li999 : (999 : Int32) = nn 999 := id rfl
theorem li9999 : (9999 : Int32) = nn 9999 := id rfl
theorem li1580 : (1580 : Int32) = nn 1580 := id rfl
theorem li2400 : (2400 : Int32) = nn 2400 := id rfl
theorem li624 : (624 : Int32) = nn 624 := id rfl
theorem upd_s (f : Nat → Int32) (k : Nat) (x : Int32) : upd f k x k = x := if_pos rfl
theorem upd_o {f : Nat → Int32} {k j : Nat} {x : Int32} (h : ¬ j = k) : upd f k x j = f j := if_neg h
theorem updL_s (f : Nat → Int64) (k : Nat) (x : Int64) : vp_updL f k x k = x := if_pos rfl
theorem updL_o {f : Nat → Int64} {k j : Nat} {x : Int64} (h : ¬ j = k) : vp_updL f k x j = f j := if_neg h
theorem nn_div {a b : Nat} (ha : a < 2147483648) (hb : b < 2147483648) (h0 : 0 < b) : nn a / nn b = nn (a / b) := by
  apply i_eq
  have hab : a / b ≤ a := Nat.div_le_self a b
  rw [Int32.toInt_div_of_ne_right, nn_toInt ha, nn_toInt hb, nn_toInt (by omega)]
  · rfl
  · intro h
    have := congrArg Int32.toInt h
    rw [nn_toInt hb] at this
    have e : (-1 : Int32).toInt = -1 := rfl
    omega
theorem nn_mod {a b : Nat} (ha : a < 2147483648) (hb : b < 2147483648) (h0 : 0 < b) : nn a - nn a / nn b * nn b = nn (a % b) := by
  have h1 : a / b * b ≤ a := Nat.div_mul_le_self a b
  rw [nn_div ha hb h0, nn_mul, nn_sub h1 ha]
  congr 1
  have := Nat.div_add_mod a b
  rw [Nat.mul_comm] at this
  omega
theorem nn_m1N {a b : Nat} (h : 1 ≤ b) (ha : a < 1000000) (hb : b < 1000000) : (nn a + -nn 1) + nn b = nn (a + b - 1) := by
  rw [Int32.add_assoc, Int32.add_comm (-nn 1), ← Int32.sub_eq_add_neg, nn_sub h (by omega), nn_add]
  congr 1; omega
theorem L_lt {x y : Int64} : (x < y) ↔ x.toInt < y.toInt := Int64.lt_iff_toInt_lt
theorem L_le {x y : Int64} : (x ≤ y) ↔ x.toInt ≤ y.toInt := Int64.le_iff_toInt_le
theorem L_eq {x y : Int64} : (x = y) ↔ x.toInt = y.toInt := Int64.toInt_inj.symm
theorem lgc_val (x y : Int64) : (y < x ∧ lg_cmp x y = nn 1) ∨ (x = y ∧ lg_cmp x y = nn 0) ∨ (x < y ∧ lg_cmp x y = -nn 1) := by
  unfold lg_cmp
  by_cases h1 : y < x
  · exact Or.inl ⟨h1, by rw [if_pos h1]; rfl⟩
  · by_cases h2 : x = y
    · exact Or.inr (Or.inl ⟨h2, by rw [if_neg h1, if_pos h2]; rfl⟩)
    · refine Or.inr (Or.inr ⟨?_, by rw [if_neg h1, if_neg h2]; rfl⟩)
      rw [L_lt] at *; rw [L_eq] at h2; omega
theorem lgc_eq {x y : Int64} : (lg_cmp x y = nn 0) = (x = y) := by
  apply propext
  rcases lgc_val x y with ⟨h, e⟩ | ⟨h, e⟩ | ⟨h, e⟩ <;> rw [e] <;> rw [L_eq] at * <;> (try rw [L_lt] at h) <;> constructor <;> intro h' <;> (first | omega | rfl | exact absurd h' (by decide))
theorem lgc_gt {x y : Int64} : (nn 0 < lg_cmp x y) = (y < x) := by
  apply propext
  rcases lgc_val x y with ⟨h, e⟩ | ⟨h, e⟩ | ⟨h, e⟩ <;> rw [e] <;> (try rw [L_eq] at h) <;> rw [L_lt] at * <;> constructor <;> intro h' <;> (first | omega | decide | exact absurd h' (by decide))
theorem lgc_lt {x y : Int64} : (lg_cmp x y < nn 0) = (x < y) := by
  apply propext
  rcases lgc_val x y with ⟨h, e⟩ | ⟨h, e⟩ | ⟨h, e⟩ <;> rw [e] <;> (try rw [L_eq] at h) <;> rw [L_lt] at * <;> constructor <;> intro h' <;> (first | omega | decide | exact absurd h' (by decide))
theorem lgc_le {x y : Int64} : (lg_cmp x y ≤ nn 0) = (x ≤ y) := by
  apply propext
  rcases lgc_val x y with ⟨h, e⟩ | ⟨h, e⟩ | ⟨h, e⟩ <;> rw [e] <;> (try rw [L_eq] at h) <;> (try rw [L_lt] at h) <;> rw [L_le] <;> constructor <;> intro h' <;> (first | omega | decide | exact absurd h' (by decide))
theorem lgc_ge {x y : Int64} : (nn 0 ≤ lg_cmp x y) = (y ≤ x) := by
  apply propext
  rcases lgc_val x y with ⟨h, e⟩ | ⟨h, e⟩ | ⟨h, e⟩ <;> rw [e] <;> (try rw [L_eq] at h) <;> (try rw [L_lt] at h) <;> rw [L_le] <;> constructor <;> intro h' <;> (first | omega | decide | exact absurd h' (by decide))
section ifs
variable {α : Type} {a b : Nat} {x y : α}
theorem ifle_t (h : a ≤ b) (hb : b < 2147483648) : (if nn a ≤ nn b then x else y) = x := if_pos (by rw [nn_le (by omega) hb]; exact h)
theorem ifle_f (h : b < a) (ha : a < 2147483648) : (if nn a ≤ nn b then x else y) = y := if_neg (by rw [nn_le ha (by omega)]; omega)
theorem iflt_t (h : a < b) (hb : b < 2147483648) : (if nn a < nn b then x else y) = x := if_pos (by rw [nn_lt (by omega) hb]; exact h)
theorem iflt_f (h : b ≤ a) (ha : a < 2147483648) : (if nn a < nn b then x else y) = y := if_neg (by rw [nn_lt ha (by omega)]; omega)
theorem ifeq_t (h : a = b) : (if nn a = nn b then x else y) = x := if_pos (by rw [h])
theorem ifeq_f (h : ¬ a = b) (ha : a < 2147483648) (hb : b < 2147483648) : (if nn a = nn b then x else y) = y := if_neg (by rw [nn_inj ha hb]; exact h)
end ifs
