/-! values -/
def WD : List (List Nat) := [[98, 117, 121, 101, 114], [115, 116, 97, 108, 108], [112, 117, 114, 115, 101], [112, 114, 105, 99, 101], [112, 114, 97, 105, 115, 101], [99, 97, 109, 101], [103, 111, 111, 100, 115], [115, 111, 108, 100], [104, 97, 100], [103, 114, 117, 100, 103, 101], [109, 105, 110, 117, 116, 101], [100, 97, 121]]
def WF : List (List Nat) := [[102, 97, 105, 114], [115, 116, 97, 108, 108], [103, 114, 117, 100, 103, 101], [98, 117, 121, 101, 114]]
def wx : List (List Nat) → List Nat → Nat → Option Nat
  | [], _, _ => none
  | w :: ws, r, j => if r = w then some j else wx ws r (j + 1)
theorem twS_wx {b : Nat → Int32} {T p : Nat} : ∀ (ws : List (List Nat)) (j : Nat), twS b T p ws j = match wx ws (run b T p) j with | none => (-nn 1, nn p) | some i => (nn i, nn (p + (run b T p).length)) := by
  intro ws
  induction ws with
  | nil => intro j; rfl
  | cons w ws ih =>
    intro j
    unfold twS wx
    by_cases e : run b T p = w
    · rw [if_pos e, if_pos e, ← e]
    · rw [if_neg e, if_neg e]; exact ih (j + 1)
theorem wx_lt : ∀ (ws : List (List Nat)) (r : List Nat) (j i : Nat), wx ws r j = some i → j ≤ i ∧ i < j + ws.length := by
  intro ws
  induction ws with
  | nil => intro r j i h; cases h
  | cons w ws ih =>
    intro r j i h
    unfold wx at h
    rw [List.length_cons]
    by_cases e : r = w
    · rw [if_pos e] at h; cases h; omega
    · rw [if_neg e] at h
      have := ih r (j + 1) i h
      omega
theorem wx_mem : ∀ (ws : List (List Nat)) (r : List Nat) (j i : Nat), wx ws r j = some i → r ∈ ws := by
  intro ws
  induction ws with
  | nil => intro r j i h; cases h
  | cons w ws ih =>
    intro r j i h
    unfold wx at h
    by_cases e : r = w
    · rw [e]; exact List.mem_cons_self
    · rw [if_neg e] at h
      exact List.mem_cons_of_mem _ (ih r (j + 1) i h)
theorem okS_3 : okS 3 (WD.map (fun w => w ++ [32])).flatten := by unfold okS; decide +kernel
theorem okS_0 : okS 0 (WF.map (fun w => w ++ [32])).flatten := by unfold okS; decide +kernel
theorem okS_1 : okS 1 [59] := by unfold okS; decide +kernel
theorem okS_2 : okS 2 (([[98, 117, 121]] : List (List Nat)).map (fun w => w ++ [32])).flatten := by unfold okS; decide +kernel
theorem okS_4 : okS 4 [42, 47, 37] := by unfold okS; decide +kernel
theorem okS_5 : okS 5 [43, 45] := by unfold okS; decide +kernel
theorem okS_6 : okS 6 (([[105, 102]] : List (List Nat)).map (fun w => w ++ [32])).flatten := by unfold okS; decide +kernel
theorem okS_7 : okS 7 (([[110, 111, 116]] : List (List Nat)).map (fun w => w ++ [32])).flatten := by unfold okS; decide +kernel
theorem okS_8 : okS 8 [93] := by unfold okS; decide +kernel
theorem okS_9 : okS 9 [60, 61, 62] := by unfold okS; decide +kernel
theorem okS_10 : okS 10 (([[97, 110, 100]] : List (List Nat)).map (fun w => w ++ [32])).flatten := by unfold okS; decide +kernel
theorem okS_11 : okS 11 (([[111, 114]] : List (List Nat)).map (fun w => w ++ [32])).flatten := by unfold okS; decide +kernel
theorem WD_let : ∀ w, w ∈ WD → ∀ c, c ∈ w → 97 ≤ c ∧ c ≤ 122 := by decide +kernel
theorem WF_let : ∀ w, w ∈ WF → ∀ c, c ∈ w → 97 ≤ c ∧ c ≤ 122 := by decide +kernel
section value
variable {b tx : Nat → Int32} {T : Nat}
theorem isW_iff {W : List Nat} {p : Nat} : isW b T W p = true ↔ run b T p = W := by unfold isW; simp
theorem w_and (hT : T ≤ 400) (hb : bR T b tx) {p : Nat} (hp : p ≤ T) : m_isWord (6385252 : Int64) tx (nn T) (nn p) = some (b01 (isW b T [97, 110, 100] (skp b T p) = true), nn (skp b T p)) := xm_isWord hT hb hp (by unfold pkR; decide +kernel) (by decide +kernel) (by decide) (by decide)
theorem w_buy (hT : T ≤ 400) (hb : bR T b tx) {p : Nat} (hp : p ≤ T) : m_isWord (6452601 : Int64) tx (nn T) (nn p) = some (b01 (isW b T [98, 117, 121] (skp b T p) = true), nn (skp b T p)) := xm_isWord hT hb hp (by unfold pkR; decide +kernel) (by decide +kernel) (by decide) (by decide)
theorem w_buyer (hT : T ≤ 400) (hb : bR T b tx) {p : Nat} (hp : p ≤ T) : m_isWord (422877685106 : Int64) tx (nn T) (nn p) = some (b01 (isW b T [98, 117, 121, 101, 114] (skp b T p) = true), nn (skp b T p)) := xm_isWord hT hb hp (by unfold pkR; decide +kernel) (by decide +kernel) (by decide) (by decide)
theorem w_came (hT : T ≤ 400) (hb : bR T b tx) {p : Nat} (hp : p ≤ T) : m_isWord (1667329381 : Int64) tx (nn T) (nn p) = some (b01 (isW b T [99, 97, 109, 101] (skp b T p) = true), nn (skp b T p)) := xm_isWord hT hb hp (by unfold pkR; decide +kernel) (by decide +kernel) (by decide) (by decide)
theorem w_day (hT : T ≤ 400) (hb : bR T b tx) {p : Nat} (hp : p ≤ T) : m_isWord (6578553 : Int64) tx (nn T) (nn p) = some (b01 (isW b T [100, 97, 121] (skp b T p) = true), nn (skp b T p)) := xm_isWord hT hb hp (by unfold pkR; decide +kernel) (by decide +kernel) (by decide) (by decide)
theorem w_fair (hT : T ≤ 400) (hb : bR T b tx) {p : Nat} (hp : p ≤ T) : m_isWord (1717660018 : Int64) tx (nn T) (nn p) = some (b01 (isW b T [102, 97, 105, 114] (skp b T p) = true), nn (skp b T p)) := xm_isWord hT hb hp (by unfold pkR; decide +kernel) (by decide +kernel) (by decide) (by decide)
theorem w_goods (hT : T ≤ 400) (hb : bR T b tx) {p : Nat} (hp : p ≤ T) : m_isWord (444251202675 : Int64) tx (nn T) (nn p) = some (b01 (isW b T [103, 111, 111, 100, 115] (skp b T p) = true), nn (skp b T p)) := xm_isWord hT hb hp (by unfold pkR; decide +kernel) (by decide +kernel) (by decide) (by decide)
theorem w_grudge (hT : T ≤ 400) (hb : bR T b tx) {p : Nat} (hp : p ≤ T) : m_isWord (113741293447013 : Int64) tx (nn T) (nn p) = some (b01 (isW b T [103, 114, 117, 100, 103, 101] (skp b T p) = true), nn (skp b T p)) := xm_isWord hT hb hp (by unfold pkR; decide +kernel) (by decide +kernel) (by decide) (by decide)
theorem w_had (hT : T ≤ 400) (hb : bR T b tx) {p : Nat} (hp : p ≤ T) : m_isWord (6840676 : Int64) tx (nn T) (nn p) = some (b01 (isW b T [104, 97, 100] (skp b T p) = true), nn (skp b T p)) := xm_isWord hT hb hp (by unfold pkR; decide +kernel) (by decide +kernel) (by decide) (by decide)
theorem w_if (hT : T ≤ 400) (hb : bR T b tx) {p : Nat} (hp : p ≤ T) : m_isWord (26982 : Int64) tx (nn T) (nn p) = some (b01 (isW b T [105, 102] (skp b T p) = true), nn (skp b T p)) := xm_isWord hT hb hp (by unfold pkR; decide +kernel) (by decide +kernel) (by decide) (by decide)
theorem w_minute (hT : T ≤ 400) (hb : bR T b tx) {p : Nat} (hp : p ≤ T) : m_isWord (120299592184933 : Int64) tx (nn T) (nn p) = some (b01 (isW b T [109, 105, 110, 117, 116, 101] (skp b T p) = true), nn (skp b T p)) := xm_isWord hT hb hp (by unfold pkR; decide +kernel) (by decide +kernel) (by decide) (by decide)
theorem w_not (hT : T ≤ 400) (hb : bR T b tx) {p : Nat} (hp : p ≤ T) : m_isWord (7237492 : Int64) tx (nn T) (nn p) = some (b01 (isW b T [110, 111, 116] (skp b T p) = true), nn (skp b T p)) := xm_isWord hT hb hp (by unfold pkR; decide +kernel) (by decide +kernel) (by decide) (by decide)
theorem w_or (hT : T ≤ 400) (hb : bR T b tx) {p : Nat} (hp : p ≤ T) : m_isWord (28530 : Int64) tx (nn T) (nn p) = some (b01 (isW b T [111, 114] (skp b T p) = true), nn (skp b T p)) := xm_isWord hT hb hp (by unfold pkR; decide +kernel) (by decide +kernel) (by decide) (by decide)
theorem w_praise (hT : T ≤ 400) (hb : bR T b tx) {p : Nat} (hp : p ≤ T) : m_isWord (123636562883429 : Int64) tx (nn T) (nn p) = some (b01 (isW b T [112, 114, 97, 105, 115, 101] (skp b T p) = true), nn (skp b T p)) := xm_isWord hT hb hp (by unfold pkR; decide +kernel) (by decide +kernel) (by decide) (by decide)
theorem w_price (hT : T ≤ 400) (hb : bR T b tx) {p : Nat} (hp : p ≤ T) : m_isWord (482955846501 : Int64) tx (nn T) (nn p) = some (b01 (isW b T [112, 114, 105, 99, 101] (skp b T p) = true), nn (skp b T p)) := xm_isWord hT hb hp (by unfold pkR; decide +kernel) (by decide +kernel) (by decide) (by decide)
theorem w_purse (hT : T ≤ 400) (hb : bR T b tx) {p : Nat} (hp : p ≤ T) : m_isWord (483006772069 : Int64) tx (nn T) (nn p) = some (b01 (isW b T [112, 117, 114, 115, 101] (skp b T p) = true), nn (skp b T p)) := xm_isWord hT hb hp (by unfold pkR; decide +kernel) (by decide +kernel) (by decide) (by decide)
theorem w_sold (hT : T ≤ 400) (hb : bR T b tx) {p : Nat} (hp : p ≤ T) : m_isWord (1936682084 : Int64) tx (nn T) (nn p) = some (b01 (isW b T [115, 111, 108, 100] (skp b T p) = true), nn (skp b T p)) := xm_isWord hT hb hp (by unfold pkR; decide +kernel) (by decide +kernel) (by decide) (by decide)
theorem w_stall (hT : T ≤ 400) (hb : bR T b tx) {p : Nat} (hp : p ≤ T) : m_isWord (495873780844 : Int64) tx (nn T) (nn p) = some (b01 (isW b T [115, 116, 97, 108, 108] (skp b T p) = true), nn (skp b T p)) := xm_isWord hT hb hp (by unfold pkR; decide +kernel) (by decide +kernel) (by decide) (by decide)
theorem xm_wordHere (hT : T ≤ 400) (hb : bR T b tx) {p : Nat} (hp : p ≤ T) : m_wordHere tx (nn T) (nn p) = some (match wx WD (run b T (skp b T p)) 0 with | none => (-nn 1, nn (skp b T p)) | some i => (nn i, nn (skp b T p))) := by
  have hq := skp_le (b := b) hp
  unfold m_wordHere WD
  rw [w_buyer hT hb hp, bs]
  dsimp only
  unfold wx
  by_cases e0 : run b T (skp b T p) = [98, 117, 121, 101, 114]
  · rw [ifb_t (isW_iff.2 e0), if_pos e0]
    rfl
  rw [ifb_f (fun h => e0 (isW_iff.1 h)), if_neg e0]
  rw [w_stall hT hb hq, skp_skp, bs]
  dsimp only
  unfold wx
  by_cases e1 : run b T (skp b T p) = [115, 116, 97, 108, 108]
  · rw [ifb_t (isW_iff.2 e1), if_pos e1]
    rfl
  rw [ifb_f (fun h => e1 (isW_iff.1 h)), if_neg e1]
  rw [w_purse hT hb hq, skp_skp, bs]
  dsimp only
  unfold wx
  by_cases e2 : run b T (skp b T p) = [112, 117, 114, 115, 101]
  · rw [ifb_t (isW_iff.2 e2), if_pos e2]
    rfl
  rw [ifb_f (fun h => e2 (isW_iff.1 h)), if_neg e2]
  rw [w_price hT hb hq, skp_skp, bs]
  dsimp only
  unfold wx
  by_cases e3 : run b T (skp b T p) = [112, 114, 105, 99, 101]
  · rw [ifb_t (isW_iff.2 e3), if_pos e3]
    rfl
  rw [ifb_f (fun h => e3 (isW_iff.1 h)), if_neg e3]
  rw [w_praise hT hb hq, skp_skp, bs]
  dsimp only
  unfold wx
  by_cases e4 : run b T (skp b T p) = [112, 114, 97, 105, 115, 101]
  · rw [ifb_t (isW_iff.2 e4), if_pos e4]
    rfl
  rw [ifb_f (fun h => e4 (isW_iff.1 h)), if_neg e4]
  rw [w_came hT hb hq, skp_skp, bs]
  dsimp only
  unfold wx
  by_cases e5 : run b T (skp b T p) = [99, 97, 109, 101]
  · rw [ifb_t (isW_iff.2 e5), if_pos e5]
    rfl
  rw [ifb_f (fun h => e5 (isW_iff.1 h)), if_neg e5]
  rw [w_goods hT hb hq, skp_skp, bs]
  dsimp only
  unfold wx
  by_cases e6 : run b T (skp b T p) = [103, 111, 111, 100, 115]
  · rw [ifb_t (isW_iff.2 e6), if_pos e6]
    rfl
  rw [ifb_f (fun h => e6 (isW_iff.1 h)), if_neg e6]
  rw [w_sold hT hb hq, skp_skp, bs]
  dsimp only
  unfold wx
  by_cases e7 : run b T (skp b T p) = [115, 111, 108, 100]
  · rw [ifb_t (isW_iff.2 e7), if_pos e7]
    rfl
  rw [ifb_f (fun h => e7 (isW_iff.1 h)), if_neg e7]
  rw [w_had hT hb hq, skp_skp, bs]
  dsimp only
  unfold wx
  by_cases e8 : run b T (skp b T p) = [104, 97, 100]
  · rw [ifb_t (isW_iff.2 e8), if_pos e8]
    rfl
  rw [ifb_f (fun h => e8 (isW_iff.1 h)), if_neg e8]
  rw [w_grudge hT hb hq, skp_skp, bs]
  dsimp only
  unfold wx
  by_cases e9 : run b T (skp b T p) = [103, 114, 117, 100, 103, 101]
  · rw [ifb_t (isW_iff.2 e9), if_pos e9]
    rfl
  rw [ifb_f (fun h => e9 (isW_iff.1 h)), if_neg e9]
  rw [w_minute hT hb hq, skp_skp, bs]
  dsimp only
  unfold wx
  by_cases e10 : run b T (skp b T p) = [109, 105, 110, 117, 116, 101]
  · rw [ifb_t (isW_iff.2 e10), if_pos e10]
    rfl
  rw [ifb_f (fun h => e10 (isW_iff.1 h)), if_neg e10]
  rw [w_day hT hb hq, skp_skp, bs]
  dsimp only
  unfold wx
  by_cases e11 : run b T (skp b T p) = [100, 97, 121]
  · rw [ifb_t (isW_iff.2 e11), if_pos e11]
    rfl
  rw [ifb_f (fun h => e11 (isW_iff.1 h)), if_neg e11]
  rfl
end value
