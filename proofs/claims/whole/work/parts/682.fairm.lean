/-! a fair is read: the reference -/
abbrev RR : Type := Int32 × (Nat → Int32) × Int32 × Int32 × Int32
def rsR (x : Except Nat (Nat × (Nat → Int32))) (r : Option RR) : Prop :=
  match x with
  | .ok y => ∃ nb, r = some (nn 1, y.2, nn y.1, nn 0, nb)
  | .error F => ∃ rd' nx nb, r = some (nn 0, rd', nx, nn F, nb)
theorem rq0 {α : Type} (x : Option α) : rq (inb (0 : Int32) 125) x = x := rq_true (by decide)
theorem rq3 {α : Type} (x : Option α) : rq (inb (3 : Int32) 125) x = x := rq_true (by decide)
theorem rq4 {α : Type} (x : Option α) : rq (inb (4 : Int32) 125) x = x := rq_true (by decide)
section fairm
variable {b tx : Nat → Int32} {T : Nat}
theorem cell_ok (hT : T ≤ 400) (hb : bR T b tx) {x1 x2 nb : Int32} {c p : Nat} {rd : Nat → Int32} {w : Nat × Nat} (hp : p ≤ T) (hc : c < 125) (e : nuS b T x1 x2 p = Except.ok w) : m_cellHere (nn c) x1 x2 tx (nn T) rd (nn p) (nn 0) nb = some (nn 1, upd rd c (nn w.1), nn w.2, nn 0, nn w.1) := by
  unfold m_cellHere
  rw [numH_ok hT hb hp e, bs]
  dsimp only
  rw [ifn1, rq_inb hc (by omega), ltp, nn_tn (by omega)]
  rfl
theorem cell_er (hT : T ≤ 400) (hb : bR T b tx) {x1 x2 nb : Int32} {c p F : Nat} {rd : Nat → Int32} (hp : p ≤ T) (e : nuS b T x1 x2 p = Except.error F) : ∃ nx nb', m_cellHere (nn c) x1 x2 tx (nn T) rd (nn p) (nn 0) nb = some (nn 0, rd, nx, nn F, nb') := by
  obtain ⟨nx, nb', h⟩ := numH_er hT hb (nb := nb) hp e
  unfold m_cellHere
  rw [h, bs]
  dsimp only
  rw [ifn0]
  exact ⟨_, _, rfl⟩
theorem xm_f0 (hT : T ≤ 400) (hb : bR T b tx) {q : Nat} {x nb : Int32} {rd : Nat → Int32} (hq : q ≤ T) (h0 : rd 0 = nn 0) : rsR (f0S b T (q + (run b T q).length) rd) (m_isFairHere x tx (nn T) rd (nn q) (nn 0) nb) := by
  have hl := run_le (b := b) hq
  unfold m_isFairHere f0S
  simp only [rq0, rq3, rq4]
  rw [show (0 : Int32).toNatClampNeg = 0 from rfl, h0, if_pos (show nn 0 ≤ (0 : Int32) by decide), xm_passWord hT hb hq, bs]
  generalize q + (run b T q).length = p at hl
  rw [show (1 : Int32) = nn 1 from id rfl, show (20 : Int32) = nn 20 from id rfl, show (2 : Int32) = nn 2 from id rfl, show (9 : Int32) = nn 9 from id rfl, show (0 : Int32) = nn 0 from id rfl]
  cases e1 : nuS b T (nn 1) (nn 20) p with
  | error F =>
    obtain ⟨nx, nb', h⟩ := cell_er hT hb (nb := nb) (c := 1) (rd := rd) hl e1
    rw [h, bs]
    dsimp only
    rw [if_pos rfl]
    exact ⟨_, _, _, rfl⟩
  | ok v =>
    obtain ⟨_, _, a1, _⟩ := nuS_ok hl e1
    rw [cell_ok hT hb hl (by omega) e1, bs]
    dsimp only
    rw [if_neg (show ¬ nn 1 = nn 0 by decide)]
    cases e2 : nuS b T (nn 0) (nn 9) v.2 with
    | error F =>
      obtain ⟨nx, nb', h⟩ := cell_er hT hb (nb := nn v.1) (c := 2) (rd := upd rd 1 (nn v.1)) a1 e2
      rw [h, bs]
      dsimp only
      rw [if_pos rfl]
      exact ⟨_, _, _, rfl⟩
    | ok w =>
      rw [cell_ok hT hb a1 (by omega) e2, bs]
      dsimp only
      rw [if_neg (show ¬ nn 1 = nn 0 by decide), ltp]
      exact ⟨_, rfl⟩
theorem xm_f1 (hT : T ≤ 400) (hb : bR T b tx) {q N : Nat} {x nb : Int32} {rd : Nat → Int32} (hq : q ≤ T) (hN : N < 6) (h3 : rd 3 = nn N) : rsR (f1S b T N (q + (run b T q).length) rd) (m_isStallHere x tx (nn T) rd (nn q) (nn 0) nb) := by
  have hl := run_le (b := b) hq
  unfold m_isStallHere f1S
  simp only [rq0, rq3, rq4]
  rw [show (3 : Int32).toNatClampNeg = 3 from rfl, h3, show (6 : Int32) = nn 6 from id rfl, ifeq_f (by omega) (by omega) (by omega), xm_passWord hT hb hq, bs, ltp]
  generalize q + (run b T q).length = p at hl
  rw [show (101 : Int32) = nn 101 from id rfl, show (107 : Int32) = nn 107 from id rfl, show (89 : Int32) = nn 89 from id rfl, nn_add, nn_add, nn_add, show (1 : Int32) = nn 1 from id rfl, show (20 : Int32) = nn 20 from id rfl, show (40 : Int32) = nn 40 from id rfl, show (0 : Int32) = nn 0 from id rfl]
  cases e1 : nuS b T (nn 0) (nn 20) p with
  | error F =>
    obtain ⟨nx, nb', h⟩ := cell_er hT hb (nb := nb) (c := 101 + N) (rd := rd) hl e1
    rw [h, bs]
    dsimp only
    rw [if_pos rfl]
    exact ⟨_, _, _, rfl⟩
  | ok u =>
    obtain ⟨_, _, a1, _⟩ := nuS_ok hl e1
    rw [cell_ok hT hb hl (by omega) e1, bs]
    dsimp only
    rw [if_neg (show ¬ nn 1 = nn 0 by decide)]
    cases e2 : nuS b T (nn 1) (nn 40) u.2 with
    | error F =>
      obtain ⟨nx, nb', h⟩ := cell_er hT hb (nb := nn u.1) (c := 107 + N) (rd := upd rd (101 + N) (nn u.1)) a1 e2
      rw [h, bs]
      dsimp only
      rw [if_pos rfl]
      exact ⟨_, _, _, rfl⟩
    | ok v =>
      obtain ⟨_, _, b1, _⟩ := nuS_ok a1 e2
      rw [cell_ok hT hb a1 (by omega) e2, bs]
      dsimp only
      rw [if_neg (show ¬ nn 1 = nn 0 by decide)]
      cases e3 : nuS b T (nn 0) (nn 20) v.2 with
      | error F =>
        obtain ⟨nx, nb', h⟩ := cell_er hT hb (nb := nn v.1) (c := 89 + N) (rd := upd (upd rd (101 + N) (nn u.1)) (107 + N) (nn v.1)) b1 e3
        rw [h, bs]
        dsimp only
        rw [if_pos rfl]
        exact ⟨_, _, _, rfl⟩
      | ok w =>
        rw [cell_ok hT hb b1 (by omega) e3, bs]
        dsimp only
        rw [if_neg (show ¬ nn 1 = nn 0 by decide), ltp, upd_o (by omega), upd_o (by omega), upd_o (by omega), h3, nn_add]
        exact ⟨_, rfl⟩
theorem xm_f2 (hT : T ≤ 400) (hb : bR T b tx) {q N : Nat} {nb : Int32} {rd : Nat → Int32} (hq : q ≤ T) (hN : N ≤ 6) (h3 : rd 3 = nn N) : rsR (f2S b T N (q + (run b T q).length) rd) (m_isGrudgeHere tx (nn T) rd (nn q) (nn 0) nb) := by
  have hl := run_le (b := b) hq
  unfold m_isGrudgeHere f2S
  simp only [rq0, rq3, rq4]
  rw [xm_passWord hT hb hq, bs, show (3 : Int32).toNatClampNeg = 3 from rfl, h3]
  generalize q + (run b T q).length = p at hl
  rw [show (1 : Int32) = nn 1 from id rfl, show (0 : Int32) = nn 0 from id rfl]
  cases e1 : nuS b T (nn 0) (nn N - nn 1) p with
  | error F =>
    obtain ⟨nx, nb', h⟩ := numH_er hT hb (nb := nb) hl e1
    rw [h, bs]
    dsimp only
    rw [if_pos rfl]
    exact ⟨_, _, _, rfl⟩
  | ok u =>
    obtain ⟨_, _, a1, a2, a3, a4, a5⟩ := nuS_ok hl e1
    have hu := nm1 hN a5
    have hqa := skp_le (b := b) a1
    rw [numH_ok hT hb hl e1, bs]
    dsimp only
    rw [if_neg (show ¬ nn 1 = nn 0 by decide), xm_see hT hb a1, bs]
    dsimp only
    cases e2 : nuS b T (nn 0) (nn N - nn 1) (skp b T u.2) with
    | error F =>
      obtain ⟨nx, nb', h⟩ := numH_er hT hb (nb := nn u.1) hqa e2
      rw [h, bs]
      dsimp only
      rw [if_pos rfl]
      exact ⟨_, _, _, rfl⟩
    | ok v =>
      obtain ⟨_, _, b1, b2, b3, b4, b5⟩ := nuS_ok hqa e2
      have hv := nm1 hN b5
      rw [numH_ok hT hb hqa e2, bs]
      dsimp only
      rw [if_neg (show ¬ nn 1 = nn 0 by decide)]
      by_cases eq : u.1 = v.1
      · rw [if_pos eq, ifeq_t eq, m_fails_ev, bs, rq_bo0]
        exact ⟨_, _, _, rfl⟩
      · rw [if_neg eq, ifeq_f eq (by omega) (by omega), ltp, show (113 : Int32) = nn 113 from id rfl, nn_add, rq_inb (by omega) (by omega), rq_inb (by omega) (by omega), ltp, nn_tn (by omega), show (31 : Int32) = nn 31 from id rfl]
        exact ⟨_, rfl⟩
theorem xm_f3 (hT : T ≤ 400) (hb : bR T b tx) {q N B : Nat} {x nb : Int32} {rd : Nat → Int32} (hq : q ≤ T) (hN : N ≤ 6) (hB : B < 6) (h3 : rd 3 = nn N) (h4 : rd 4 = nn B) : rsR (f3S b T N B (q + (run b T q).length) rd) (m_isBuyerHere x tx (nn T) rd (nn q) (nn 0) nb) := by
  have hl := run_le (b := b) hq
  unfold m_isBuyerHere f3S
  simp only [rq0, rq3, rq4]
  rw [show (4 : Int32).toNatClampNeg = 4 from rfl, h4, show (6 : Int32) = nn 6 from id rfl, ifeq_f (by omega) (by omega) (by omega), xm_passWord hT hb hq, bs]
  generalize q + (run b T q).length = p at hl
  rw [show (119 : Int32) = nn 119 from id rfl, nn_add, show (1 : Int32) = nn 1 from id rfl, show (99 : Int32) = nn 99 from id rfl, show (0 : Int32) = nn 0 from id rfl]
  cases e1 : nuS b T (nn 0) (nn 99) p with
  | error F =>
    obtain ⟨nx, nb', h⟩ := cell_er hT hb (nb := nb) (c := 119 + B) (rd := rd) hl e1
    rw [h, bs]
    dsimp only
    rw [if_pos rfl]
    exact ⟨_, _, _, rfl⟩
  | ok u =>
    obtain ⟨_, _, a1, _⟩ := nuS_ok hl e1
    rw [cell_ok hT hb hl (by omega) e1, bs]
    dsimp only
    rw [if_neg (show ¬ nn 1 = nn 0 by decide), show (3 : Int32).toNatClampNeg = 3 from rfl, upd_o (show ¬ 4 = 119 + B by omega), upd_o (show ¬ 3 = 119 + B by omega), h3, h4, show (95 : Int32) = nn 95 from id rfl, nn_add]
    cases e2 : nuS b T (nn 0) (nn N - nn 1) u.2 with
    | error F =>
      obtain ⟨nx, nb', h⟩ := cell_er hT hb (nb := nn u.1) (c := 95 + B) (rd := upd rd (119 + B) (nn u.1)) a1 e2
      rw [h, bs]
      dsimp only
      rw [if_pos rfl]
      exact ⟨_, _, _, rfl⟩
    | ok v =>
      rw [cell_ok hT hb a1 (by omega) e2, bs]
      dsimp only
      rw [if_neg (show ¬ nn 1 = nn 0 by decide), ltp, upd_o (show ¬ 4 = 95 + B by omega), upd_o (show ¬ 4 = 119 + B by omega), h4, nn_add]
      exact ⟨_, rfl⟩
abbrev WF0 : List Nat := [102, 97, 105, 114]
abbrev WF1 : List Nat := [115, 116, 97, 108, 108]
abbrev WF2 : List Nat := [103, 114, 117, 100, 103, 101]
abbrev WF3 : List Nat := [98, 117, 121, 101, 114]
def rsQ (x : Except Nat FX) (r : Option RR) : Prop :=
  match x with
  | .ok z => ∃ nb, r = some (nn 1, z.2.2.2, nn z.1, nn 0, nb)
  | .error F => ∃ rd' nx nb, r = some (nn 0, rd', nx, nn F, nb)
theorem rsR_Q {N B : Nat} {x : Except Nat (Nat × (Nat → Int32))} {r : Option RR} (h : rsR x r) : rsQ (adX N B x) (r.bind (fun q => rq (bo q.1) (some (q.1, q.2.1, q.2.2.1, q.2.2.2.1, q.2.2.2.2)))) := by
  cases x with
  | error F =>
    obtain ⟨rd', nx, nb, h⟩ := h
    rw [h, bs, rq_bo0]
    exact ⟨_, _, _, rfl⟩
  | ok y =>
    obtain ⟨nb, h⟩ := h
    rw [h, bs, rq_bo1]
    exact ⟨_, rfl⟩
theorem xm_line (hT : T ≤ 400) (hb : bR T b tx) {li q N B k : Nat} {nb : Int32} {rd : Nat → Int32} (hq : q ≤ T) (hqq : skp b T q = q) (hli : li < 40) (ho : rdO li N B rd) (hk : wx WF (run b T q) 0 = some k) :
    rsQ (if noS li k N B then Except.error (1 + 8 * q + 4) else cxK b T k (q + (run b T q).length) N B rd) (m_fairLineHere (nn q) tx (nn T) rd (nn q) (nn 0) nb) := by
  obtain ⟨h1, h2, h3, h4, h5, h6, h7, h8⟩ := ho
  unfold m_fairLineHere
  simp only [rq0]
  rw [show m_isWord (1717660018 : Int64) tx (nn T) (nn q) = some (b01 (isW b T WF0 (skp b T q) = true), nn (skp b T q)) from w_fair hT hb hq, hqq, bs]
  dsimp only
  unfold WF wx at hk
  by_cases w0 : run b T q = WF0
  · rw [if_pos w0] at hk
    cases hk
    rw [ifb_t (isW_iff.2 w0)]
    by_cases l0 : li = 0
    · rw [if_pos l0] at h5
      rw [if_neg (show ¬ noS li 0 N B by rintro (h | h | ⟨h, _⟩ | ⟨h, _⟩) <;> omega)]
      unfold cxK
      rw [if_pos rfl]
      exact rsR_Q (xm_f0 hT hb hq h5)
    · rw [if_neg l0] at h5
      rw [if_pos (show noS li 0 N B from Or.inr (Or.inl (by omega)))]
      unfold m_isFairHere
      simp only [rq0, rq3, rq4]
      rw [show (0 : Int32).toNatClampNeg = 0 from rfl, h5, if_neg (show ¬ nn 1 ≤ (0 : Int32) by decide), show (4 : Int32) = nn 4 from id rfl, m_fails_ev, bs, rq_bo0, bs, rq_bo0]
      exact ⟨_, _, _, rfl⟩
  rw [if_neg w0] at hk
  rw [ifb_f (fun h => w0 (isW_iff.1 h)), show (0 : Int32).toNatClampNeg = 0 from rfl, h5]
  unfold wx at hk
  by_cases l0 : li = 0
  · have hk0 : ¬ k = 0 := by
      intro c
      subst c
      revert hk
      unfold wx wx wx
      intro hk
      by_cases c1 : run b T q = [115, 116, 97, 108, 108]
      · rw [if_pos c1] at hk; cases hk
      · rw [if_neg c1] at hk
        by_cases c2 : run b T q = [103, 114, 117, 100, 103, 101]
        · rw [if_pos c2] at hk; cases hk
        · rw [if_neg c2] at hk
          by_cases c3 : run b T q = [98, 117, 121, 101, 114]
          · rw [if_pos c3] at hk; cases hk
          · rw [if_neg c3] at hk; cases hk
    rw [if_pos l0, ifn0, if_pos (show noS li k N B from Or.inr (Or.inl (by omega))), show (4 : Int32) = nn 4 from id rfl, m_fails_ev, bs, rq_bo0]
    exact ⟨_, _, _, rfl⟩
  rw [if_neg l0, ifn1, show m_isWord (495873780844 : Int64) tx (nn T) (nn q) = some (b01 (isW b T WF1 (skp b T q) = true), nn (skp b T q)) from w_stall hT hb hq, hqq, bs]
  dsimp only
  by_cases w1 : run b T q = WF1
  · rw [if_pos w1] at hk
    cases hk
    rw [ifb_t (isW_iff.2 w1)]
    by_cases hN : 6 ≤ N
    · rw [if_pos (show noS li (0 + 1) N B from Or.inr (Or.inr (Or.inl ⟨rfl, hN⟩)))]
      unfold m_isStallHere
      simp only [rq0, rq3, rq4]
      rw [show (3 : Int32).toNatClampNeg = 3 from rfl, h3, show (6 : Int32) = nn 6 from id rfl, ifeq_t (by omega), show (4 : Int32) = nn 4 from id rfl, m_fails_ev, bs, rq_bo0, bs, rq_bo0]
      exact ⟨_, _, _, rfl⟩
    · rw [if_neg (show ¬ noS li (0 + 1) N B by rintro (h | h | ⟨_, h⟩ | ⟨h, _⟩) <;> omega)]
      unfold cxK
      rw [if_neg (by omega), if_pos rfl]
      exact rsR_Q (xm_f1 hT hb hq (by omega) h3)
  rw [if_neg w1] at hk
  unfold wx at hk
  rw [ifb_f (fun h => w1 (isW_iff.1 h)), show m_isWord (113741293447013 : Int64) tx (nn T) (nn q) = some (b01 (isW b T WF2 (skp b T q) = true), nn (skp b T q)) from w_grudge hT hb hq, hqq, bs]
  dsimp only
  by_cases w2 : run b T q = WF2
  · rw [if_pos w2] at hk
    cases hk
    rw [ifb_t (isW_iff.2 w2), if_neg (show ¬ noS li (0 + 1 + 1) N B by rintro (h | h | ⟨h, _⟩ | ⟨h, _⟩) <;> omega)]
    unfold cxK
    rw [if_neg (by omega), if_neg (by omega), if_pos rfl]
    exact rsR_Q (xm_f2 hT hb hq h1 h3)
  rw [if_neg w2] at hk
  unfold wx at hk
  rw [ifb_f (fun h => w2 (isW_iff.1 h))]
  by_cases w3 : run b T q = WF3
  · rw [if_pos w3] at hk
    cases hk
    by_cases hB : 6 ≤ B
    · rw [if_pos (show noS li (0 + 1 + 1 + 1) N B from Or.inr (Or.inr (Or.inr ⟨rfl, hB⟩)))]
      unfold m_isBuyerHere
      simp only [rq0, rq3, rq4]
      rw [show (4 : Int32).toNatClampNeg = 4 from rfl, h4, show (6 : Int32) = nn 6 from id rfl, ifeq_t (by omega), show (4 : Int32) = nn 4 from id rfl, m_fails_ev, bs, rq_bo0, bs, rq_bo0]
      exact ⟨_, _, _, rfl⟩
    · rw [if_neg (show ¬ noS li (0 + 1 + 1 + 1) N B by rintro (h | h | ⟨h, _⟩ | ⟨_, h⟩) <;> omega)]
      unfold cxK
      rw [if_neg (by omega), if_neg (by omega), if_neg (by omega)]
      exact rsR_Q (xm_f3 hT hb hq h1 (by omega) h3 h4)
  · rw [if_neg w3] at hk
    unfold wx at hk
    cases hk
theorem xm_fword (hT : T ≤ 400) (hb : bR T b tx) {q : Nat} (hq : q ≤ T) (hqq : skp b T q = q) : m_isFairWord tx (nn T) (nn q) = some (match wx WF (run b T q) 0 with | none => (nn 0, nn q) | some _ => (nn 1, nn q)) := by
  unfold m_isFairWord
  rw [show m_isWord (1717660018 : Int64) tx (nn T) (nn q) = some (b01 (isW b T WF0 (skp b T q) = true), nn (skp b T q)) from w_fair hT hb hq, hqq, bs]
  dsimp only
  unfold WF wx
  by_cases w0 : run b T q = WF0
  · rw [ifb_t (isW_iff.2 w0), if_pos w0]; rfl
  rw [ifb_f (fun h => w0 (isW_iff.1 h)), if_neg w0, show m_isWord (495873780844 : Int64) tx (nn T) (nn q) = some (b01 (isW b T WF1 (skp b T q) = true), nn (skp b T q)) from w_stall hT hb hq, hqq, bs]
  dsimp only
  unfold wx
  by_cases w1 : run b T q = WF1
  · rw [ifb_t (isW_iff.2 w1), if_pos w1]; rfl
  rw [ifb_f (fun h => w1 (isW_iff.1 h)), if_neg w1, show m_isWord (113741293447013 : Int64) tx (nn T) (nn q) = some (b01 (isW b T WF2 (skp b T q) = true), nn (skp b T q)) from w_grudge hT hb hq, hqq, bs]
  dsimp only
  unfold wx
  by_cases w2 : run b T q = WF2
  · rw [ifb_t (isW_iff.2 w2), if_pos w2]; rfl
  rw [ifb_f (fun h => w2 (isW_iff.1 h)), if_neg w2, show m_isWord (422877685106 : Int64) tx (nn T) (nn q) = some (b01 (isW b T WF3 (skp b T q) = true), nn (skp b T q)) from w_buyer hT hb hq, hqq, bs]
  dsimp only
  unfold wx
  by_cases w3 : run b T q = WF3
  · rw [ifb_t (isW_iff.2 w3), if_pos w3]; rfl
  rw [ifb_f (fun h => w3 (isW_iff.1 h)), if_neg w3]
  rfl
section loops
variable {sign length clause clauses opn : Nat → Int32} {md dp od : Int32}
def rsZ (sign length clause clauses opn : Nat → Int32) (md dp od : Int32) (li : Nat) (x : Except Nat FX) (r : Option LR) : Prop :=
  match x with
  | .ok z => ∃ nb, r = some (nn 1, sign, length, clause, clauses, z.2.2.2, nn z.1, nn 0, nb, md, dp, nn (li + 1), opn, od)
  | .error F => ∃ rd' nx nb li', r = some (nn 0, sign, length, clause, clauses, rd', nx, nn F, nb, md, dp, li', opn, od)
theorem xm_fclause (hT : T ≤ 400) (hb : bR T b tx) {li : Nat} {s : FX} {nb : Int32} (hli : li ≤ 40) (hp : s.1 ≤ T) (ho : rdO li s.2.1 s.2.2.1 s.2.2.2) :
    rsZ sign length clause clauses opn md dp od li (cxS b T li s) (m_clauseHere tx (nn T) sign length clause clauses s.2.2.2 (nn s.1) (nn 0) nb (nn 6) md dp (nn li) opn od) := by
  have hq := skp_le (b := b) hp
  have hqq := skp_skp (b := b) (T := T) (p := s.1)
  unfold m_clauseHere cxS
  rw [xm_see hT hb hp, bs]
  dsimp only
  generalize skp b T s.1 = q at hq hqq
  rw [show (6 : Int32) = nn 6 from id rfl, ifeq_t rfl]
  unfold m_clauseHere_j24
  rw [if_neg (show ¬ (1 : Int32) = 0 by decide), xm_fword hT hb hq hqq, bs]
  cases hk : wx WF (run b T q) 0 with
  | none =>
    dsimp only
    rw [ifn0, li0, m_fails_ev, bs, rq_bo0]
    exact ⟨_, _, _, _, rfl⟩
  | some k =>
    dsimp only
    rw [ifn1]
    unfold m_clauseHere_j56
    rw [if_neg (show ¬ (1 : Int32) = 0 by decide), show (40 : Int32) = nn 40 from id rfl]
    by_cases e40 : li = 40
    · rw [ifeq_t e40, if_pos (show noS li k s.2.1 s.2.2.1 from Or.inl (by omega)), show (4 : Int32) = nn 4 from id rfl, m_fails_ev, bs, rq_bo0]
      exact ⟨_, _, _, _, rfl⟩
    · rw [ifeq_f e40 (by omega) (by omega), ltp, if_neg (show ¬ (1 : Int32) = 0 by decide), li1, nn_add]
      have hv := xm_line hT hb (nb := nb) hq hqq (by omega) ho hk
      cases hc : (if noS li k s.2.1 s.2.2.1 then Except.error (1 + 8 * q + 4) else cxK b T k (q + (run b T q).length) s.2.1 s.2.2.1 s.2.2.2) with
      | error F =>
        rw [hc] at hv
        obtain ⟨rd', nx, nb', v1⟩ := hv
        rw [v1, bs, rq_bo0]
        exact ⟨_, _, _, _, rfl⟩
      | ok z =>
        rw [hc] at hv
        obtain ⟨nb', v1⟩ := hv
        rw [v1, bs, rq_bo1]
        exact ⟨_, rfl⟩
def rsW (sign length clause clauses opn : Nat → Int32) (md dp od : Int32) (x : Except Nat FX) (r : Option AR) : Prop :=
  match x with
  | .ok z => ∃ nx nb li', r = some (nn 1, nn 0, sign, length, clause, clauses, z.2.2.2, nx, nn 0, nb, md, dp, li', opn, od)
  | .error F => ∃ rd' nx nb li', r = some (nn 0, nn 0, sign, length, clause, clauses, rd', nx, nn F, nb, md, dp, li', opn, od)
theorem xm_freads (hT : T ≤ 400) (hb : bR T b tx) : ∀ (n li : Nat) (s : FX) (M : Nat) (nb : Int32), li ≤ 40 → 40 < li + n → n < M → s.1 ≤ T → rdO li s.2.1 s.2.2.1 s.2.2.2 →
    rsW sign length clause clauses opn md dp od (fxS b T n li s) ((m_clauseHere tx (nn T) sign length clause clauses s.2.2.2 (nn s.1) (nn 0) nb (nn 6) md dp (nn li) opn od).bind (fun q14 => m_readsAll_l35 tx (nn T) (nn 6) M q14.1 q14.2.1 q14.2.2.1 q14.2.2.2.1 q14.2.2.2.2.1 q14.2.2.2.2.2.1 q14.2.2.2.2.2.2.1 q14.2.2.2.2.2.2.2.1 q14.2.2.2.2.2.2.2.2.1 q14.2.2.2.2.2.2.2.2.2.1 q14.2.2.2.2.2.2.2.2.2.2.1 q14.2.2.2.2.2.2.2.2.2.2.2.1 q14.2.2.2.2.2.2.2.2.2.2.2.2.1 q14.2.2.2.2.2.2.2.2.2.2.2.2.2)) := by
  intro n
  induction n with
  | zero => intro li s M nb h1 h2; omega
  | succ n ih =>
    intro li s M nb h1 h2 h3 hp ho
    match M, h3 with
    | M + 1, h3 =>
    have hv := xm_fclause (sign := sign) (length := length) (clause := clause) (clauses := clauses) (opn := opn) (md := md) (dp := dp) (od := od) hT hb (nb := nb) h1 hp ho
    unfold fxS
    cases hc : cxS b T li s with
    | error F =>
      have hF := cs_er hT hp hc
      rw [hc] at hv
      obtain ⟨a1, a2, a3, a4, v1⟩ := hv
      rw [v1, bs]
      dsimp only
      unfold m_readsAll_l35
      rw [ifn0]
      unfold m_readsAll_j66
      rw [ifn0, if_neg (show ¬ nn F = 0 by rw [li0, nn_inj (by omega) (by omega)]; omega)]
      exact ⟨_, _, _, _, rfl⟩
    | ok z =>
      obtain ⟨z1, z2, z3, z4⟩ := cs_ok hp ho hc
      rw [hc] at hv
      obtain ⟨nb', v1⟩ := hv
      rw [v1, bs]
      dsimp only
      conv => rhs; unfold m_readsAll_l35
      rw [ifn1, xm_see hT hb z1, bs]
      dsimp only
      have hz := skp_le (b := b) z1
      have hzz := skp_skp (b := b) (T := T) (p := z.1)
      generalize skp b T z.1 = qz at hz hzz
      rw [show (59 : Int32) = nn 59 from id rfl]
      by_cases e59 : seB b T qz = nn 59
      · have hlt := seB_lt (b := b) (by omega) e59
        rw [if_pos e59, if_pos e59, ltp, li1, nn_add]
        exact ih (li + 1) (qz + 1, z.2) M nb' (by omega) (by omega) (by omega) (by dsimp only; omega) z3
      · rw [if_neg e59, if_neg e59]
        unfold m_readsAll_j66
        rw [ifn1, xm_see hT hb hz, hzz, bs]
        dsimp only
        by_cases eT : qz < T
        · rw [if_pos eT, if_neg (show ¬ seB b T qz = (-1 : Int32) from fun h => (seB_end.1 h) eT), li0, m_fails_ev, bs]
          dsimp only
          rw [if_neg (show ¬ nn (1 + 8 * qz + 0) = nn 0 by rw [nn_inj (by omega) (by omega)]; omega)]
          exact ⟨_, _, _, _, rfl⟩
        · rw [if_neg eT, if_pos (show seB b T qz = (-1 : Int32) from seB_end.2 eT), ifn0]
          exact ⟨_, _, _, rfl⟩
end loops
end fairm
