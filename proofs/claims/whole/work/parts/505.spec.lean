/-! what a fair does, in words of the row of numbers that the reference has (d), and rules as codes at places -/
/-- bit k of a set -/
def gB (x : Int32) (k : Nat) : Bool := decide (((x >>> (nn k &&& nn 31)) &&& nn 1) = nn 1)
/-- the ring: who stands at a place, and the place of each -/
def rOK (N : Nat) (rg pl : Nat → Nat) : Prop := ∀ k, k < N → (rg k < N ∧ pl k < N ∧ pl (rg k) = k ∧ rg (pl k) = k)
def rSt (N : Nat) (rg : Nat → Nat) (d : Nat → Int32) : Prop := ∀ k, k < N → d (35 + k) = nn (rg k)
def pv (N k : Nat) : Nat := (k + N - 1) % N
def nx (N k : Nat) : Nat := (k + 1 + N) % N
/-- who sells, and who stands behind -/
def slr (N : Nat) (rg pl : Nat → Nat) (s : Nat) : Nat := rg (pv N (pl s))
def bhd (N : Nat) (rg pl : Nat → Nat) (s : Nat) : Nat := rg (nx N (pl s))
theorem pv_lt {N k : Nat} (h : k < N) : pv N k < N := Nat.mod_lt _ (by omega)
theorem nx_lt {N k : Nat} (h : k < N) : nx N k < N := Nat.mod_lt _ (by omega)
theorem pv_val {N k : Nat} (h : k < N) : pv N k = if k = 0 then N - 1 else k - 1 := by
  unfold pv
  split
  · rename_i e; subst e; rw [Nat.mod_eq_of_lt (by omega)]; omega
  · have : k + N - 1 = (k - 1) + N := by omega
    rw [this, Nat.add_mod_right, Nat.mod_eq_of_lt (by omega)]
theorem nx_val {N k : Nat} (h : k < N) : nx N k = if k + 1 = N then 0 else k + 1 := by
  unfold nx
  rw [Nat.add_mod_right]
  split
  · rename_i e; rw [e, Nat.mod_self]
  · rw [Nat.mod_eq_of_lt (by omega)]
theorem pv_nx {N k : Nat} (h : k < N) : pv N (nx N k) = k := by
  have h1 := nx_lt h
  rw [pv_val h1]; rw [nx_val h] at *
  split <;> split <;> omega
theorem nx_pv {N k : Nat} (h : k < N) : nx N (pv N k) = k := by
  have h1 := pv_lt h
  rw [nx_val h1]; rw [pv_val h] at *
  split <;> split <;> omega
section ring
variable {N : Nat} {rg pl : Nat → Nat}
theorem slr_lt (hr : rOK N rg pl) {s : Nat} (h : s < N) : slr N rg pl s < N := (hr _ (pv_lt (hr s h).2.1)).1
theorem bhd_lt (hr : rOK N rg pl) {s : Nat} (h : s < N) : bhd N rg pl s < N := (hr _ (nx_lt (hr s h).2.1)).1
theorem slr_bhd (hr : rOK N rg pl) {s : Nat} (h : s < N) : slr N rg pl (bhd N rg pl s) = s := by
  unfold slr bhd
  have h1 := (hr s h).2.1
  rw [(hr _ (nx_lt h1)).2.2.1, pv_nx h1, (hr s h).2.2.2]
theorem bhd_slr (hr : rOK N rg pl) {s : Nat} (h : s < N) : bhd N rg pl (slr N rg pl s) = s := by
  unfold slr bhd
  have h1 := (hr s h).2.1
  rw [(hr _ (pv_lt h1)).2.2.1, nx_pv h1, (hr s h).2.2.2]
end ring
/-- praise of a stall's goods -/
def prS (N : Nat) (rg pl : Nat → Nat) (d : Nat → Int32) (s : Nat) : Int32 :=
  if gB (d (41 + slr N rg pl s)) s = true then d (89 + slr N rg pl s) / nn 2 else d (89 + slr N rg pl s)
def brS (N : Nat) (rg pl : Nat → Nat) (d : Nat → Int32) (s : Nat) : Bool := gB (d (41 + slr N rg pl s)) s
def cnS (d : Nat → Int32) (b s : Nat) : Bool := decide (nn 0 < d (11 + 4 * s)) && decide (d (11 + 4 * s + 1) ≤ d (47 + b))
/-- the words of a buyer and a stall -/
def wdS (N : Nat) (rg pl : Nat → Nat) (d : Nat → Int32) (b s : Nat) (k : Nat) : Int64 :=
  if k = 0 then (nn b).toInt64 else if k = 1 then (nn s).toInt64 else if k = 2 then (d (47 + b)).toInt64 else if k = 3 then (d (11 + 4 * s + 1)).toInt64
  else if k = 4 then (prS N rg pl d s).toInt64 else if k = 5 then (if d (95 + b) = nn s then 1 else 0) else if k = 6 then (d (11 + 4 * s)).toInt64
  else if k = 7 then (d (101 + s) - d (11 + 4 * s)).toInt64 else if k = 8 then (d (53 + 6 * b + s)).toInt64 else if k = 9 then (if brS N rg pl d s = true then 1 else 0)
  else if k = 10 then (d 10 - d 10 / d 1 * d 1).toInt64 else (d 10 / d 1).toInt64
/-- a sign of two numbers, by the reference's codes -/
def opS (s : Nat) (x y : Int64) : Int64 :=
  if s = 2 then x + y else if s = 3 then x - y else if s = 4 then x * y else if s = 5 then (if y = 0 then 0 else x / y)
  else if s = 6 then (if x < y then 1 else 0) else if s = 7 then (if x ≤ y then 1 else 0) else if s = 8 then (if x = y then 1 else 0)
  else if s = 9 then (if y ≤ x then 1 else 0) else if s = 10 then (if y < x then 1 else 0) else if s = 12 then x &&& y else if s = 13 then x ||| y
  else (if y = 0 then 0 else x - x / y * y)
/-- one step on a stack (its top first) -/
def ev1 (wd : Nat → Int64) (c : Nat × Nat) (l : List Int64) : List Int64 :=
  if c.1 = 0 then (nn c.2).toInt64 :: l else if c.1 = 1 then wd c.2 :: l
  else if c.1 = 11 then (match l with | [] => [] | x :: r => (1 - x) :: r)
  else (match l with | y :: x :: r => opS c.1 x y :: r | _ => [])
def runL (pg : Nat → Nat × Nat) (wd : Nat → Int64) : Nat → Nat → List Int64 → List Int64
  | 0, _, l => l
  | k + 1, p, l => runL pg wd k (p + 1) (ev1 wd (pg p) l)
def hd0 (l : List Int64) : Int64 := match l with | [] => 0 | x :: _ => x
def runP (pg : Nat → Nat × Nat) (wd : Nat → Int64) (a e : Nat) : Int64 := hd0 (runL pg wd (e - a) a [])
/-- types on the stack: true is a fact; none where a step cannot be -/
def tc1 (c : Nat × Nat) (t : List Bool) : Option (List Bool) :=
  if c.1 = 0 then (if t.length < 60 ∧ c.2 < 100000 then some (false :: t) else none)
  else if c.1 = 1 then (if t.length < 60 ∧ c.2 < 12 then some (false :: t) else none)
  else if c.1 = 11 then (match t with | true :: r => some (true :: r) | _ => none)
  else if c.1 = 12 ∨ c.1 = 13 then (match t with | true :: true :: r => some (true :: r) | _ => none)
  else if 6 ≤ c.1 ∧ c.1 ≤ 10 then (match t with | false :: false :: r => some (true :: r) | _ => none)
  else if c.1 = 2 ∨ c.1 = 3 ∨ c.1 = 4 ∨ c.1 = 5 ∨ c.1 = 14 then (match t with | false :: false :: r => some (false :: r) | _ => none)
  else none
def tcs (pg : Nat → Nat × Nat) : Nat → Nat → List Bool → Option (List Bool)
  | 0, _, t => some t
  | k + 1, p, t => (tc1 (pg p) t).bind (tcs pg k (p + 1))
/-- values that have these types -/
def tyR : List Bool → List Int64 → Prop
  | [], [] => True
  | t :: ts, x :: xs => (t = true → x = 0 ∨ x = 1) ∧ tyR ts xs
  | _, _ => False
/-- a row holds a stack -/
def stkR (f : Nat → Int64) : List Int64 → Prop
  | [] => True
  | x :: l => f l.length = x ∧ stkR f l
/-- a rule: how many clauses; where each one's sum begins, its test begins, its test ends; the codes -/
abbrev RU : Type := Nat × (Nat → Nat) × (Nat → Nat) × (Nat → Nat) × (Nat → Nat × Nat)
def ruOK (r : RU) (len : Nat) : Prop := r.1 ≤ 12 ∧ len ≤ 400 ∧ (∀ i, i < len → (r.2.2.2.2 i).1 < 16 ∧ (r.2.2.2.2 i).2 < 100000) ∧ ∀ c, c < r.1 → (r.2.1 c ≤ r.2.2.1 c ∧ r.2.2.1 c ≤ r.2.2.2.1 c ∧ r.2.2.2.1 c ≤ len ∧
  tcs r.2.2.2.2 (r.2.2.1 c - r.2.1 c) (r.2.1 c) [] = some [false] ∧ (r.2.2.1 c < r.2.2.2.1 c → tcs r.2.2.2.2 (r.2.2.2.1 c - r.2.2.1 c) (r.2.2.1 c) [] = some [true]))
def smL (r : RU) (wd : Nat → Int64) : Nat → Nat → Int64
  | 0, _ => 0
  | k + 1, c => if r.2.2.1 c = r.2.2.2.1 c ∨ ¬ runP r.2.2.2.2 wd (r.2.2.1 c) (r.2.2.2.1 c) = 0 then runP r.2.2.2.2 wd (r.2.1 c) (r.2.2.1 c) else smL r wd k (c + 1)
def smR (r : RU) (wd : Nat → Int64) : Int64 := smL r wd r.1 0
/-- what goods are worth to a buyer -/
def wS (ru : Option RU) (N : Nat) (rg pl : Nat → Nat) (d : Nat → Int32) (b s : Nat) : Int64 :=
  match ru with
  | none => (1 + (prS N rg pl d s).toInt64) + 3 * (if d (95 + b) = nn s then 1 else 0)
  | some r => smR r (wdS N rg pl d b s)
/-- the choice -/
def chS (can : Nat → Bool) (w : Nat → Int64) : Nat → Nat → Option Nat → Int64 → Option Nat
  | 0, _, o, _ => o
  | k + 1, s, o, m => if can s = true then (if m < w s then chS can w k (s + 1) (some s) (w s) else chS can w k (s + 1) o m) else chS can w k (s + 1) o m
def oi (o : Option Nat) : Int32 := match o with | none => -nn 1 | some s => nn s
def pick (ru : Option RU) (N : Nat) (rg pl : Nat → Nat) (d : Nat → Int32) (b : Nat) : Option Nat := chS (cnS d b) (wS ru N rg pl d b) N 0 none 0
def buyD (N : Nat) (rg pl : Nat → Nat) (d : Nat → Int32) (b s : Nat) : Nat → Int32 :=
  upd (upd (upd (upd d (11 + 4 * s) (d (11 + 4 * s) - nn 1)) (47 + b) (d (47 + b) - d (11 + 4 * s + 1))) (11 + 4 * slr N rg pl s + 2) (d (11 + 4 * slr N rg pl s + 2) + d (11 + 4 * s + 1))) (53 + 6 * b + s) (d (53 + 6 * b + s) + nn 1)
/-- the first half of a minute: k buyers from b on; ac: who may buy -/
def trS (ru : Option RU) (N : Nat) (rg pl : Nat → Nat) (ac : Nat → Bool) : Nat → Nat → (Nat → Int32) → Int32 → (Nat → Int32) × Int32
  | 0, _, d, p => (d, p)
  | k + 1, b, d, p => match (if ac b = true then pick ru N rg pl d b else none) with
    | none => trS ru N rg pl ac k (b + 1) d p
    | some s => trS ru N rg pl ac k (b + 1) (buyD N rg pl d b s) (p + d (11 + 4 * s + 1))
/-- tills are handed on -/
def kpS (d : Nat → Int32) (s : Nat) : Int32 := d (11 + 4 * s + 2) * d 2 / nn 10
def dskD (N : Nat) (rg pl : Nat → Nat) (d : Nat → Int32) : Nat → Int32 := fun k =>
  if 11 ≤ k ∧ k < 11 + 4 * N then
    (if (k - 11) % 4 = 2 then nn 0 else if (k - 11) % 4 = 3 then d k + (kpS d ((k - 11) / 4) + (d (11 + 4 * slr N rg pl ((k - 11) / 4) + 2) - kpS d (slr N rg pl ((k - 11) / 4)))) else d k)
  else d k
def clsD (N : Nat) (rg pl : Nat → Nat) (d : Nat → Int32) : Nat → Int32 :=
  if d 10 - d 10 / d 1 * d 1 = d 1 - nn 1 then upd (dskD N rg pl d) 10 (d 10 + nn 1) else upd d 10 (d 10 + nn 1)
/-- a minute -/
def minS (ru : Option RU) (N : Nat) (rg pl : Nat → Nat) (ac : Nat → Bool) (B : Nat) (d : Nat → Int32) : (Nat → Int32) × Int32 :=
  ((clsD N rg pl (trS ru N rg pl ac B 0 d (nn 0)).1), (trS ru N rg pl ac B 0 d (nn 0)).2)
def minsS (ru : Option RU) (N : Nat) (rg pl : Nat → Nat) (ac : Nat → Bool) (B : Nat) : Nat → (Nat → Int32) → Int32 → (Nat → Int32) × Int32
  | 0, d, p => (d, p)
  | k + 1, d, p => minsS ru N rg pl ac B k (minS ru N rg pl ac B d).1 (p + (minS ru N rg pl ac B d).2)
