/-! words, signs and numbers, as the class takes them -/
section take
variable {b tx : Nat → Int32} {T : Nat}
/-- a String constant and its signs -/
def okS (k : Nat) (cs : List Nat) : Prop := k < nJS ∧ lenJS.getD k 0 = cs.length ∧ cs.length < 100 ∧ ∀ i, i < cs.length → chJS k (nn i) = nn (cs.getD i 0)
theorem tw_mis {k p j fr a : Nat} {cs : List Nat} (hk : okS k cs) (hp : p ≤ 400) (hj : j < 1000) : ∀ (w rest : List Nat) (m f : Nat), cs.drop (fr + m) = w ++ 32 :: rest → (∀ c, c ∈ w → ¬ c = 32 ∧ c < 256) → a < m → m < 200 → fr < 200 →
    mCursor_takeWord_l15 tx (nn T) (nn p) k (f + (w.length + 1)) (nn j) (nn a) (nn fr) (nn (fr + m)) = mCursor_takeWord_l15 tx (nn T) (nn p) k f (nn (j + 1)) (nn 0) (nn (fr + m + w.length + 1)) (nn (fr + m + w.length + 1)) := by
  obtain ⟨k1, k2, k3, k4⟩ := hk
  intro w
  induction w with
  | nil =>
    intro rest m f h1 h2 h3 h4 h5
    have hlen : fr + m < cs.length := by
      have := congrArg List.length h1
      rw [List.length_drop, List.nil_append, List.length_cons] at this
      omega
    have hc : cs.getD (fr + m) 0 = 32 := by
      rw [List.getD_eq_getElem?_getD, ← Nat.add_zero (fr + m), ← List.getElem?_drop, h1]; rfl
    have h32 : nn (cs.getD (fr + m) 0) = 32 := by rw [hc]; rfl
    rw [List.length_nil, Nat.zero_add, Nat.add_zero]
    conv => lhs; unfold mCursor_takeWord_l15
    rw [rq_dec k1, show nI (lenJS.getD k 0) = nn cs.length by rw [k2]; rfl, ifle_f (by omega) (by omega), rq_dec k1, k2, rq_inb hlen (by omega), k4 _ hlen, if_pos h32]
    unfold mCursor_takeWord_j40
    rw [if_neg (show ¬ (1 : Int32) = 0 by decide), nn_sub (by omega) (by omega), show fr + m - fr = m by omega, ifeq_f (by omega) (by omega) (by omega)]
    unfold mCursor_takeWord_j81
    rw [if_neg (show ¬ (1 : Int32) = 0 by decide), ltp, li0, li1, nn_add, nn_add]
  | cons c w ih =>
    intro rest m f h1 h2 h3 h4 h5
    have hlen : fr + m < cs.length := by
      have := congrArg List.length h1
      rw [List.length_drop, List.cons_append, List.length_cons] at this
      omega
    have hc : cs.getD (fr + m) 0 = c := by
      rw [List.getD_eq_getElem?_getD, ← Nat.add_zero (fr + m), ← List.getElem?_drop, h1]; rfl
    have hcc := h2 c List.mem_cons_self
    have h32 : ¬ nn (cs.getD (fr + m) 0) = 32 := by rw [hc, show (32 : Int32) = nn 32 from rfl, nn_inj (by omega) (by omega)]; exact hcc.1
    have h1' : cs.drop (fr + (m + 1)) = w ++ 32 :: rest := by
      rw [show fr + (m + 1) = (fr + m) + 1 by omega, ← List.drop_drop, h1]; rfl
    have hn : m + 1 < 200 := by
      have := congrArg List.length h1
      rw [List.length_drop, List.cons_append, List.length_cons] at this
      omega
    rw [List.length_cons, show f + (w.length + 1 + 1) = (f + (w.length + 1)) + 1 by omega]
    conv => lhs; unfold mCursor_takeWord_l15
    rw [rq_dec k1, show nI (lenJS.getD k 0) = nn cs.length by rw [k2]; rfl, ifle_f (by omega) (by omega), rq_dec k1, k2, rq_inb hlen (by omega), k4 _ hlen, if_neg h32]
    unfold mCursor_takeWord_j40
    rw [if_pos (show (0 : Int32) = 0 from rfl)]
    unfold mCursor_takeWord_j81
    rw [if_pos (show (0 : Int32) = 0 from rfl), nn_sub (by omega) (by omega), show fr + m - fr = m by omega, ifeq_f (by omega) (by omega) (by omega), li1, nn_add, show fr + m + 1 = fr + (m + 1) by omega, ih rest (m + 1) f h1' (fun d hd => h2 d (List.mem_cons_of_mem _ hd)) (by omega) hn h5, show fr + (m + 1) + w.length + 1 = fr + m + (w.length + 1) + 1 by omega]
theorem tw_seg (hT : T ≤ 400) (hb : bR T b tx) {k p j fr : Nat} {cs : List Nat} (hk : okS k cs) (hp : p ≤ T) (hj : j < 1000) : ∀ (w rest : List Nat) (m f : Nat), cs.drop (fr + m) = w ++ 32 :: rest → (∀ c, c ∈ w → 97 ≤ c ∧ c ≤ 122) → m < 100 → fr < 200 → p + m ≤ T →
    mCursor_takeWord_l15 tx (nn T) (nn p) k (f + (w.length + 1)) (nn j) (nn m) (nn fr) (nn (fr + m)) = if run b T (p + m) = w then some (nn j, nn (p + m + w.length)) else mCursor_takeWord_l15 tx (nn T) (nn p) k f (nn (j + 1)) (nn 0) (nn (fr + m + w.length + 1)) (nn (fr + m + w.length + 1)) := by
  have hk0 := hk
  obtain ⟨k1, k2, k3, k4⟩ := hk
  intro w
  induction w with
  | nil =>
    intro rest m f h1 h2 h4 h5 h6
    have hlen : fr + m < cs.length := by
      have := congrArg List.length h1
      rw [List.length_drop, List.nil_append, List.length_cons] at this
      omega
    have hc : cs.getD (fr + m) 0 = 32 := by
      rw [List.getD_eq_getElem?_getD, ← Nat.add_zero (fr + m), ← List.getElem?_drop, h1]; rfl
    have h32 : nn (cs.getD (fr + m) 0) = 32 := by rw [hc]; rfl
    rw [List.length_nil, Nat.zero_add, Nat.add_zero]
    conv => lhs; unfold mCursor_takeWord_l15
    rw [rq_dec k1, show nI (lenJS.getD k 0) = nn cs.length by rw [k2]; rfl, ifle_f (by omega) (by omega), rq_dec k1, k2, rq_inb hlen (by omega), k4 _ hlen, if_pos h32]
    unfold mCursor_takeWord_j40
    rw [if_neg (show ¬ (1 : Int32) = 0 by decide), nn_sub (by omega) (by omega), show fr + m - fr = m by omega, ifeq_t rfl, nn_add, xc_isLetter hT hb (by omega), bs]
    by_cases e : isLt b T (p + m) = true
    · rw [ifb_t e, if_neg (by rw [run_lt e]; exact fun h => by cases h)]
      unfold mCursor_takeWord_j81
      rw [if_neg (show ¬ (1 : Int32) = 0 by decide), ltp, li0, li1, nn_add, nn_add]
    · rw [ifb_f e, ltp, if_pos (run_no (by rw [← Bool.not_eq_true]; exact e))]
      rfl
  | cons c w ih =>
    intro rest m f h1 h2 h4 h5 h6
    have hlen : fr + m < cs.length := by
      have := congrArg List.length h1
      rw [List.length_drop, List.cons_append, List.length_cons] at this
      omega
    have hc : cs.getD (fr + m) 0 = c := by
      rw [List.getD_eq_getElem?_getD, ← Nat.add_zero (fr + m), ← List.getElem?_drop, h1]; rfl
    have hcc := h2 c List.mem_cons_self
    have h32 : ¬ nn (cs.getD (fr + m) 0) = 32 := by rw [hc, show (32 : Int32) = nn 32 from rfl, nn_inj (by omega) (by omega)]; omega
    have h1' : cs.drop (fr + (m + 1)) = w ++ 32 :: rest := by
      rw [show fr + (m + 1) = (fr + m) + 1 by omega, ← List.drop_drop, h1]; rfl
    have hn : m + 1 < 100 := by
      have := congrArg List.length h1
      rw [List.length_drop, List.cons_append, List.length_cons] at this
      omega
    rw [List.length_cons, show f + (w.length + 1 + 1) = (f + (w.length + 1)) + 1 by omega]
    conv => lhs; unfold mCursor_takeWord_l15
    rw [rq_dec k1, show nI (lenJS.getD k 0) = nn cs.length by rw [k2]; rfl, ifle_f (by omega) (by omega), rq_dec k1, k2, rq_inb hlen (by omega), k4 _ hlen, if_neg h32]
    unfold mCursor_takeWord_j40
    rw [if_pos (show (0 : Int32) = 0 from rfl)]
    unfold mCursor_takeWord_j81
    rw [if_pos (show (0 : Int32) = 0 from rfl), nn_sub (by omega) (by omega), show fr + m - fr = m by omega, ifeq_t rfl, nn_add, li1, nn_add, nn_add, show fr + m + 1 = fr + (m + 1) by omega]
    have mis : ¬ run b T (p + m) = c :: w → mCursor_takeWord_l15 tx (nn T) (nn p) k (f + (w.length + 1)) (nn j) (nn m) (nn fr) (nn (fr + (m + 1))) = if run b T (p + m) = c :: w then some (nn j, nn (p + m + (w.length + 1))) else mCursor_takeWord_l15 tx (nn T) (nn p) k f (nn (j + 1)) (nn 0) (nn (fr + m + (w.length + 1) + 1)) (nn (fr + m + (w.length + 1) + 1)) := by
      intro hne
      rw [if_neg hne, tw_mis hk0 (by omega) hj w rest (m + 1) f h1' (fun d hd => by have := h2 d (List.mem_cons_of_mem _ hd); omega) (by omega) (by omega) h5, show fr + (m + 1) + w.length + 1 = fr + m + (w.length + 1) + 1 by omega]
    by_cases e : p + m < T
    · rw [ifle_f (by omega) (by omega), rq_inb (by omega) (by omega), rq_dec k1, k2, rq_inb hlen (by omega), nn_tn (by omega), hb _ e, k4 _ hlen, hc]
      by_cases e2 : b (p + m) = nn c
      · have hl : isLt b T (p + m) = true := by
          rw [isLt_t, e2, nn_lt (by omega) (by omega), nn_lt (by omega) (by omega)]; omega
        have hr : run b T (p + m) = c :: run b T (p + m + 1) := by rw [run_lt hl, e2, nn_tn (by omega)]
        rw [if_pos e2, ih rest (m + 1) f h1' (fun d hd => h2 d (List.mem_cons_of_mem _ hd)) hn h5 (by omega), hr, show p + (m + 1) = p + m + 1 by omega]
        by_cases e3 : run b T (p + m + 1) = w
        · rw [if_pos e3, if_pos (by rw [e3]), show p + m + 1 + w.length = p + m + (w.length + 1) by omega]
        · rw [if_neg e3, if_neg (fun h => e3 (List.cons.inj h).2), show fr + (m + 1) + w.length + 1 = fr + m + (w.length + 1) + 1 by omega]
      · rw [if_neg e2]
        refine mis (fun h => ?_)
        by_cases hl : isLt b T (p + m) = true
        · obtain ⟨d, d1, d2, d3, d4⟩ := lt_val hl
          rw [run_lt hl, d4] at h
          exact e2 (by rw [d1, (List.cons.inj h).1])
        · rw [run_no (by rw [← Bool.not_eq_true]; exact hl)] at h
          cases h
    · rw [ifle_t (by omega) (by omega)]
      refine mis (fun h => ?_)
      rw [run_no (by rw [← Bool.not_eq_true, isLt_t]; omega)] at h
      cases h
/-- which of these words -/
def twS (b : Nat → Int32) (T p : Nat) : List (List Nat) → Nat → Int32 × Int32
  | [], _ => (-nn 1, nn p)
  | w :: ws, j => if run b T p = w then (nn j, nn (p + w.length)) else twS b T p ws (j + 1)
theorem tw_all (hT : T ≤ 400) (hb : bR T b tx) {k p : Nat} {cs : List Nat} (hk : okS k cs) (hp : p ≤ T) : ∀ (ws : List (List Nat)) (j fr f : Nat), cs.drop fr = (ws.map (fun w => w ++ [32])).flatten → (∀ w, w ∈ ws → ∀ c, c ∈ w → 97 ≤ c ∧ c ≤ 122) → fr ≤ cs.length → cs.length - fr < f → j + ws.length < 1000 →
    mCursor_takeWord_l15 tx (nn T) (nn p) k f (nn j) (nn 0) (nn fr) (nn fr) = some (twS b T p ws j) := by
  intro ws
  induction ws with
  | nil =>
    intro j fr f h1 h2 h3 h4 h5
    match f, h4 with
    | f + 1, _ =>
    obtain ⟨k1, k2, k3, k4⟩ := hk
    have hl : cs.length ≤ fr := by
      have := congrArg List.length h1
      rw [List.length_drop] at this
      simp at this
      omega
    unfold mCursor_takeWord_l15
    rw [rq_dec k1, show nI (lenJS.getD k 0) = nn cs.length by rw [k2]; rfl, ifle_t (by omega) (by omega)]
    rfl
  | cons w ws ih =>
    intro j fr f h1 h2 h3 h4 h5
    have hd : cs.drop (fr + 0) = w ++ 32 :: (ws.map (fun w => w ++ [32])).flatten := by
      rw [Nat.add_zero, h1, List.map_cons, List.flatten_cons, List.append_assoc]; rfl
    have hl : fr + w.length + 1 ≤ cs.length := by
      have := congrArg List.length hd
      rw [List.length_drop, List.length_append, List.length_cons] at this
      omega
    have hk3 := hk.2.2.1
    rw [List.length_cons] at h5
    have h6 := tw_seg hT hb (j := j) (fr := fr) hk hp (by omega) w _ 0 (f - (w.length + 1)) hd (h2 w List.mem_cons_self) (by omega) (by omega) (by omega)
    rw [show f - (w.length + 1) + (w.length + 1) = f by omega, Nat.add_zero, Nat.add_zero] at h6
    rw [h6]
    unfold twS
    by_cases e : run b T p = w
    · rw [if_pos e, if_pos e]
    · rw [if_neg e, if_neg e]
      refine ih (j + 1) (fr + w.length + 1) _ ?_ (fun v hv => h2 v (List.mem_cons_of_mem _ hv)) hl (by omega) (by omega)
      rw [show fr + w.length + 1 = fr + (w.length + 1) by omega, ← List.drop_drop, ← Nat.add_zero fr, hd, show w ++ 32 :: (ws.map (fun w => w ++ [32])).flatten = (w ++ [32]) ++ (ws.map (fun w => w ++ [32])).flatten by rw [List.append_assoc]; rfl, show w.length + 1 = (w ++ [32]).length by rw [List.length_append]; rfl, List.drop_left]
theorem xc_takeWord (hT : T ≤ 400) (hb : bR T b tx) {k p : Nat} {ws : List (List Nat)} (hk : okS k (ws.map (fun w => w ++ [32])).flatten) (hw : ∀ w, w ∈ ws → ∀ c, c ∈ w → 97 ≤ c ∧ c ≤ 122) (hl : ws.length < 100) (hp : p ≤ T) : mCursor_takeWord k tx (nn T) (nn p) = some (twS b T (skp b T p) ws 0) := by
  unfold mCursor_takeWord
  rw [xc_see hT hb hp, bs]
  dsimp only
  rw [li0]
  have h3 := hk.2.2.1
  exact tw_all hT hb hk (skp_le hp) ws 0 0 FU rfl hw (by omega) (by unfold FU; omega) (by omega)
/-- which of these signs -/
def tsS (c : Int32) (q : Nat) : List Nat → Nat → Int32 × Int32
  | [], _ => (-nn 1, nn q)
  | d :: l, j => if c = nn d then (nn j, nn (q + 1)) else tsS c q l (j + 1)
theorem ts_all {k q : Nat} {c : Int32} {cs : List Nat} (hk : okS k cs) : ∀ (l : List Nat) (j f : Nat), cs.drop j = l → j ≤ cs.length → cs.length - j < f → mCursor_takeSign_l7 tx (nn T) (nn q) k c f (nn j) = some (tsS c q l j) := by
  obtain ⟨k1, k2, k3, k4⟩ := hk
  intro l
  induction l with
  | nil =>
    intro j f h1 h3 h4
    match f, h4 with
    | f + 1, _ =>
    have hl : cs.length ≤ j := by
      have := congrArg List.length h1
      rw [List.length_drop] at this
      simp at this
      omega
    unfold mCursor_takeSign_l7
    rw [rq_dec k1, show nI (lenJS.getD k 0) = nn cs.length by rw [k2]; rfl, ifle_t (by omega) (by omega)]
    rfl
  | cons d l ih =>
    intro j f h1 h3 h4
    match f, h4 with
    | f + 1, h4 =>
    have hl : j < cs.length := by
      have := congrArg List.length h1
      rw [List.length_drop, List.length_cons] at this
      omega
    have hc : cs.getD j 0 = d := by
      rw [List.getD_eq_getElem?_getD, ← Nat.add_zero j, ← List.getElem?_drop, h1]; rfl
    unfold mCursor_takeSign_l7
    rw [rq_dec k1, show nI (lenJS.getD k 0) = nn cs.length by rw [k2]; rfl, ifle_f (by omega) (by omega), rq_dec k1, k2, rq_inb hl (by omega), k4 _ hl, hc]
    unfold tsS
    by_cases e : c = nn d
    · rw [if_pos e, if_pos e, ltp, li1, nn_add]
    · rw [if_neg e, if_neg e, li1, nn_add]
      exact ih (j + 1) f (by rw [← List.drop_drop, h1]; rfl) (by omega) (by omega)
theorem xc_takeSign (hT : T ≤ 400) (hb : bR T b tx) {k p : Nat} {cs : List Nat} (hk : okS k cs) (hp : p ≤ T) : mCursor_takeSign k tx (nn T) (nn p) = some (tsS (seB b T (skp b T p)) (skp b T p) cs 0) := by
  unfold mCursor_takeSign
  rw [xc_see hT hb hp, bs]
  dsimp only
  rw [li0]
  have h3 := hk.2.2.1
  exact ts_all hk cs 0 FU rfl (by omega) (by unfold FU; omega)
end take
