/-! Worlds as lists of blocks: a call takes some blocks, the others stay. -/
def stm : List va_W → List Nat → List va_W → List va_W
  | bs, i :: is, c :: cs => stm (bs.set i c) is cs
  | bs, _, _ => bs
theorem stm_len : ∀ (is : List Nat) (bs cs : List va_W), (stm bs is cs).length = bs.length
  | [], bs, cs => by cases cs <;> rfl
  | i :: is, bs, [] => rfl
  | i :: is, bs, c :: cs => by
    show (stm (bs.set i c) is cs).length = bs.length
    rw [stm_len is, List.length_set]
theorem stm_set : ∀ (is : List Nat) (bs cs : List va_W) (i : Nat) (x : va_W), i ∉ is → stm (bs.set i x) is cs = (stm bs is cs).set i x
  | [], bs, cs, i, x, _ => by cases cs <;> rfl
  | j :: is, bs, [], i, x, _ => rfl
  | j :: is, bs, c :: cs, i, x, h => by
    show stm ((bs.set i x).set j c) is cs = (stm (bs.set j c) is cs).set i x
    rw [List.set_comm _ _ (fun e => h (by rw [e]; exact List.mem_cons_self)), stm_set is _ _ _ _ (fun e => h (List.mem_cons_of_mem _ e))]
theorem fl_set : ∀ (bs : List va_W) (i : Nat) (c : va_W), i < bs.length → (bs.set i c).flatten.Perm (c ++ (bs.set i []).flatten)
  | [], i, c, h => absurd h (Nat.not_lt_zero _)
  | b :: bs, 0, c, _ => by
    simp only [List.set_cons_zero, List.flatten_cons, List.nil_append]
    exact List.Perm.refl _
  | b :: bs, i + 1, c, h => by
    simp only [List.set_cons_succ, List.flatten_cons]
    have h1 := fl_set bs i c (Nat.lt_of_succ_lt_succ h)
    refine (List.Perm.append_left b h1).trans ?_
    rw [← List.append_assoc, ← List.append_assoc]
    exact List.Perm.append_right _ List.perm_append_comm
theorem set_same : ∀ (bs : List va_W) (i : Nat) (b : va_W), bs[i]? = some b → bs.set i b = bs
  | [], i, b, h => rfl
  | x :: bs, 0, b, h => by
    rw [List.getElem?_cons_zero] at h
    rw [List.set_cons_zero, Option.some.inj h]
  | x :: bs, i + 1, b, h => by
    rw [List.getElem?_cons_succ] at h
    rw [List.set_cons_succ, set_same bs i b h]
theorem blk_perm : ∀ (is : List Nat) (bs cs cs1 : List va_W), is.Nodup → is.map (fun i => bs[i]?) = cs.map some → cs1.length = is.length → ∃ rest : va_W, bs.flatten.Perm (cs.flatten ++ rest) ∧ (stm bs is cs1).flatten.Perm (cs1.flatten ++ rest)
  | [], bs, cs, cs1, _, hc, hl => by
    have e1 : cs = [] := by cases cs with
      | nil => rfl
      | cons _ _ => simp at hc
    have e2 : cs1 = [] := List.eq_nil_of_length_eq_zero hl
    subst e1; subst e2
    exact ⟨bs.flatten, by simp, by simp [stm]⟩
  | i :: is, bs, [], cs1, _, hc, _ => by simp at hc
  | i :: is, bs, c :: cs, [], _, _, hl => by simp at hl
  | i :: is, bs, c :: cs, c1 :: cs1, hn, hc, hl => by
    have hn' := List.nodup_cons.mp hn
    simp only [List.map_cons, List.cons.injEq] at hc
    have hlt : i < bs.length := (List.getElem?_eq_some_iff.mp hc.1).1
    have hc2 : is.map (fun j => (bs.set i [])[j]?) = cs.map some := by
      rw [← hc.2]
      apply List.map_congr_left
      intro j hj
      exact List.getElem?_set_ne (fun e => hn'.1 (by rw [e]; exact hj))
    obtain ⟨rest, h1, h2⟩ := blk_perm is (bs.set i []) cs cs1 hn'.2 hc2 (Nat.succ.inj hl)
    refine ⟨rest, ?_, ?_⟩
    · have h3 := fl_set bs i c hlt
      rw [set_same bs i c hc.1] at h3
      refine h3.trans ?_
      rw [List.flatten_cons, List.append_assoc]
      exact List.Perm.append_left c h1
    · show (stm (bs.set i c1) is cs1).flatten.Perm _
      rw [stm_set is bs cs1 i c1 hn'.1]
      refine (fl_set (stm bs is cs1) i c1 (by rw [stm_len]; exact hlt)).trans ?_
      rw [← stm_set is bs cs1 i [] hn'.1, List.flatten_cons, List.append_assoc]
      exact List.Perm.append_left c1 h2
theorem vaP_mem {D : va_G} {cl : List vw_C} {ws : va_W} {H : Heap} : va_P D cl ws H ↔ ∀ q ∈ ws, va_at D cl q H := by
  constructor
  · intro h q hq
    obtain ⟨k, hk⟩ := List.getElem?_of_mem hq
    exact h k q hk
  · intro h k q hk
    exact h q (List.mem_of_getElem? hk)
theorem vaD_iff {A : Nat → Prop} {ws : va_W} : va_D A ws ↔ (ws.map Prod.fst).Nodup ∧ ∀ q ∈ ws, A q.1 := by
  constructor
  · intro h
    refine ⟨?_, fun q hq => ?_⟩
    · rw [List.nodup_iff_pairwise_ne, List.pairwise_iff_getElem]
      intro i j hi hj hij e
      simp only [List.length_map] at hi hj
      simp only [List.getElem_map] at e
      have := h.1 i j ws[i] ws[j] (List.getElem?_eq_getElem hi) (List.getElem?_eq_getElem hj) e
      omega
    · obtain ⟨k, hk⟩ := List.getElem?_of_mem hq
      exact h.2 k q hk
  · intro h
    refine ⟨fun i j p q hi hj e => ?_, fun k q hk => h.2 q (List.mem_of_getElem? hk)⟩
    have hl : i < (ws.map Prod.fst).length := by rw [List.length_map]; exact (List.getElem?_eq_some_iff.mp hi).1
    exact List.getElem?_inj hl h.1 (by rw [List.getElem?_map, List.getElem?_map, hi, hj]; exact congrArg some e)
theorem vaD_perm {A : Nat → Prop} {w1 w2 : va_W} (hp : w1.Perm w2) (h : va_D A w1) : va_D A w2 := by
  rw [vaD_iff] at h ⊢
  exact ⟨(hp.map Prod.fst).nodup_iff.mp h.1, fun q hq => h.2 q (hp.mem_iff.mpr hq)⟩
theorem vaP_perm {D : va_G} {cl : List vw_C} {w1 w2 : va_W} {H : Heap} (hp : w1.Perm w2) (h : va_P D cl w1 H) : va_P D cl w2 H := by
  rw [vaP_mem] at h ⊢
  exact fun q hq => h q (hp.mem_iff.mpr hq)
theorem vaA_iff {ws : va_W} {sz q : Nat} : va_A ws sz q ↔ q ∈ ws.map Prod.fst ∨ sz ≤ q := by
  constructor
  · rintro (⟨k, e, h⟩ | h)
    · exact Or.inl (List.mem_map.mpr ⟨(q, e), List.mem_of_getElem? h, rfl⟩)
    · exact Or.inr h
  · rintro (h | h)
    · obtain ⟨x, hx, rfl⟩ := List.mem_map.mp h
      obtain ⟨k, hk⟩ := List.getElem?_of_mem hx
      exact Or.inl ⟨k, x.2, hk⟩
    · exact Or.inr h
theorem fl_at {bs : List va_W} {i j : Nat} {b : va_W} {c : Nat × va_E} (hb : bs[i]? = some b) (hj : b[j]? = some c) : ∃ k, bs.flatten[k]? = some c ∧ ∀ c1, bs.flatten.set k c1 = (bs.set i (b.set j c1)).flatten := by
  induction bs generalizing i with
  | nil => simp at hb
  | cons x bs ih =>
    cases i with
    | zero =>
      rw [List.getElem?_cons_zero] at hb
      cases hb
      have hlt := (List.getElem?_eq_some_iff.mp hj).1
      refine ⟨j, ?_, fun c1 => ?_⟩
      · rw [List.flatten_cons, List.getElem?_append_left hlt]; exact hj
      · rw [List.flatten_cons, List.set_cons_zero, List.flatten_cons, List.set_append_left _ _ hlt]
    | succ i =>
      rw [List.getElem?_cons_succ] at hb
      obtain ⟨k, h1, h2⟩ := ih hb
      refine ⟨x.length + k, ?_, fun c1 => ?_⟩
      · rw [List.flatten_cons, List.getElem?_append_right (Nat.le_add_right _ _), Nat.add_sub_cancel_left]; exact h1
      · rw [List.flatten_cons, List.set_cons_succ, List.flatten_cons, List.set_append_right _ _ (Nat.le_add_right _ _), Nat.add_sub_cancel_left, h2]
theorem r_hj {D : va_G} {A : Nat → Prop} {H : Heap} {bs bs1 cs cs1 : List va_W} (isC : List Nat) (hnd : isC.Nodup) (hC : isC.map (fun i => bs[i]?) = cs.map some) (hlen : cs1.length = isC.length) (h1 : stm bs isC cs1 = bs1) (hP : va_P D vwCl bs.flatten H) (hD : va_D A bs.flatten) (hA : ∀ q, H.size ≤ q → A q) :
    (va_P D vwCl cs.flatten H ∧ va_D A cs.flatten) ∧ (∀ q, va_A cs.flatten H.size q → A q) ∧ ∀ H1 : Heap, (∀ q : Nat, q < H.size → ¬ va_A cs.flatten H.size q → H1[q]? = H[q]?) → va_P D vwCl cs1.flatten H1 → va_D (va_A cs.flatten H.size) cs1.flatten → va_P D vwCl bs1.flatten H1 ∧ va_D A bs1.flatten := by
  obtain ⟨rest, p1, p2⟩ := blk_perm isC bs cs cs1 hnd hC hlen
  rw [h1] at p2
  have hP' := vaP_perm p1 hP
  have hD' := vaD_perm p1 hD
  rw [vaP_mem] at hP'
  rw [vaD_iff, List.map_append] at hD'
  have hnd2 := List.nodup_append.mp hD'.1
  have hF : ∀ q, va_A cs.flatten H.size q → A q := by
    intro q hq
    rcases vaA_iff.mp hq with h | h
    · obtain ⟨x, hx, rfl⟩ := List.mem_map.mp h
      exact hD'.2 x (List.mem_append_left _ hx)
    · exact hA q h
  refine ⟨⟨vaP_mem.mpr fun q hq => hP' q (List.mem_append_left _ hq), vaD_iff.mpr ⟨hnd2.1, fun q hq => hD'.2 q (List.mem_append_left _ hq)⟩⟩, hF, fun H1 hk hP1 hD1 => ?_⟩
  have hrest : ∀ q ∈ rest, q.1 < H.size ∧ ¬ va_A cs.flatten H.size q.1 := by
    intro q hq
    have hl := (hP' q (List.mem_append_right _ hq)).lt
    refine ⟨hl, fun h => ?_⟩
    rcases vaA_iff.mp h with h | h
    · exact hnd2.2.2 q.1 h q.1 (List.mem_map.mpr ⟨q, hq, rfl⟩) rfl
    · omega
  refine ⟨vaP_perm p2.symm (vaP_mem.mpr fun q hq => ?_), vaD_perm p2.symm (vaD_iff.mpr ⟨?_, fun q hq => ?_⟩)⟩
  · rcases List.mem_append.mp hq with h | h
    · exact vaP_mem.mp hP1 q h
    · exact (hP' q (List.mem_append_right _ h)).kept (hk q.1 (hrest q h).1 (hrest q h).2)
  · rw [List.map_append, List.nodup_append]
    refine ⟨(vaD_iff.mp hD1).1, hnd2.2.1, fun a ha b hb e => ?_⟩
    obtain ⟨x, hx, rfl⟩ := List.mem_map.mp ha
    obtain ⟨y, hy, rfl⟩ := List.mem_map.mp hb
    exact (hrest y hy).2 (by rw [← e]; exact (vaD_iff.mp hD1).2 x hx)
  · rcases List.mem_append.mp hq with h | h
    · exact hF q.1 ((vaD_iff.mp hD1).2 q h)
    · exact hD'.2 q (List.mem_append_right _ h)
