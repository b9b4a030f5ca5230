/-! Worlds as lists of blocks: a call takes some blocks, the others stay. -/
def stm : List va_W → List Nat → List va_W → List va_W
  | bs, i :: is, c :: cs => stm (bs.set i c) is cs
  | bs, _, _ => bs
theorem stm_len : ∀ (is : List Nat) (bs cs : List va_W), (stm bs is cs).length = bs.length
  | [], bs, cs => by cases cs <;> rfl
  | i :: is, bs, [] => rfl
  | i :: is, bs, c :: cs => by
    show (stm (bs.set i c) is cs).length = bs.length
    rw [stm_len is, List.length_set]
theorem stm_set : ∀ (is : List Nat) (bs cs : List va_W) (i : Nat) (x : va_W), i ∉ is → stm (bs.set i x) is cs = (stm bs is cs).set i x
  | [], bs, cs, i, x, _ => by cases cs <;> rfl
  | j :: is, bs, [], i, x, _ => rfl
  | j :: is, bs, c :: cs, i, x, h => by
    show stm ((bs.set i x).set j c) is cs = (stm (bs.set j c) is cs).set i x
    rw [List.set_comm _ _ (fun e => h (by rw [e]; exact List.mem_cons_self)), stm_set is _ _ _ _ (fun e => h (List.mem_cons_of_mem _ e))]
theorem fl_set : ∀ (bs : List va_W) (i : Nat) (c : va_W), i < bs.length → (bs.set i c).flatten.Perm (c ++ (bs.set i []).flatten)
  | [], i, c, h => absurd h (Nat.not_lt_zero _)
  | b :: bs, 0, c, _ => by
    simp only [List.set_cons_zero, List.flatten_cons, List.nil_append]
    exact List.Perm.refl _
  | b :: bs, i + 1, c, h => by
    simp only [List.set_cons_succ, List.flatten_cons]
    have h1 := fl_set bs i c (Nat.lt_of_succ_lt_succ h)
    refine (List.Perm.append_left b h1).trans ?_
    rw [← List.append_assoc, ← List.append_assoc]
    exact List.Perm.append_right _ List.perm_append_comm
theorem set_same : ∀ (bs : List va_W) (i : Nat) (b : va_W), bs[i]? = some b → bs.set i b = bs
  | [], i, b, h => rfl
  | x :: bs, 0, b, h => by
    rw [List.getElem?_cons_zero] at h
    rw [List.set_cons_zero, Option.some.inj h]
  | x :: bs, i + 1, b, h => by
    rw [List.getElem?_cons_succ] at h
    rw [List.set_cons_succ, set_same bs i b h]
theorem blk_perm : ∀ (is : List Nat) (bs cs cs1 : List va_W), is.Nodup → is.map (fun i => bs[i]?) = cs.map some → cs1.length = is.length → ∃ rest : va_W, bs.flatten.Perm (cs.flatten ++ rest) ∧ (stm bs is cs1).flatten.Perm (cs1.flatten ++ rest)
  | [], bs, cs, cs1, _, hc, hl => by
    have e1 : cs = [] := by cases cs with
      | nil => rfl
      | cons _ _ => simp at hc
    have e2 : cs1 = [] := List.eq_nil_of_length_eq_zero hl
    subst e1; subst e2
    exact ⟨bs.flatten, by simp, by simp [stm]⟩
  | i :: is, bs, [], cs1, _, hc, _ => by simp at hc
  | i :: is, bs, c :: cs, [], _, _, hl => by simp at hl
  | i :: is, bs, c :: cs, c1 :: cs1, hn, hc, hl => by
    have hn' := List.nodup_cons.mp hn
    simp only [List.map_cons, List.cons.injEq] at hc
    have hlt : i < bs.length := (List.getElem?_eq_some_iff.mp hc.1).1
    have hc2 : is.map (fun j => (bs.set i [])[j]?) = cs.map some := by
      rw [← hc.2]
      apply List.map_congr_left
      intro j hj
      exact List.getElem?_set_ne (fun e => hn'.1 (by rw [e]; exact hj))
    obtain ⟨rest, h1, h2⟩ := blk_perm is (bs.set i []) cs cs1 hn'.2 hc2 (Nat.succ.inj hl)
    refine ⟨rest, ?_, ?_⟩
    · have h3 := fl_set bs i c hlt
      rw [set_same bs i c hc.1] at h3
      refine h3.trans ?_
      rw [List.flatten_cons, List.append_assoc]
      exact List.Perm.append_left c h1
    · show (stm (bs.set i c1) is cs1).flatten.Perm _
      rw [stm_set is bs cs1 i c1 hn'.1]
      refine (fl_set (stm bs is cs1) i c1 (by rw [stm_len]; exact hlt)).trans ?_
      rw [← stm_set is bs cs1 i [] hn'.1, List.flatten_cons, List.append_assoc]
      exact List.Perm.append_left c1 h2
theorem vaP_mem {D : va_G} {cl : List vw_C} {ws : va_W} {H : Heap} : va_P D cl ws H ↔ ∀ q ∈ ws, va_at D cl q H := by
  constructor
  · intro h q hq
    obtain ⟨k, hk⟩ := List.getElem?_of_mem hq
    exact h k q hk
  · intro h k q hk
    exact h q (List.mem_of_getElem? hk)
theorem vaD_iff {A : Nat → Prop} {ws : va_W} : va_D A ws ↔ (ws.map Prod.fst).Nodup ∧ ∀ q ∈ ws, A q.1 := by
  constructor
  · intro h
    refine ⟨?_, fun q hq => ?_⟩
    · rw [List.nodup_iff_pairwise_ne, List.pairwise_iff_getElem]
      intro i j hi hj hij e
      simp only [List.length_map] at hi hj
      simp only [List.getElem_map] at e
      have := h.1 i j ws[i] ws[j] (List.getElem?_eq_getElem hi) (List.getElem?_eq_getElem hj) e
      omega
    · obtain ⟨k, hk⟩ := List.getElem?_of_mem hq
      exact h.2 k q hk
  · intro h
    refine ⟨fun i j p q hi hj e => ?_, fun k q hk => h.2 q (List.mem_of_getElem? hk)⟩
    have hl : i < (ws.map Prod.fst).length := by rw [List.length_map]; exact (List.getElem?_eq_some_iff.mp hi).1
    exact (List.getElem?_inj hl h.1).mp (by rw [List.getElem?_map, List.getElem?_map, hi, hj]; exact congrArg some e)
theorem vaD_perm {A : Nat → Prop} {w1 w2 : va_W} (hp : w1.Perm w2) (h : va_D A w1) : va_D A w2 := by
  rw [vaD_iff] at h ⊢
  exact ⟨(hp.map Prod.fst).nodup_iff.mp h.1, fun q hq => h.2 q (hp.mem_iff.mpr hq)⟩
theorem vaP_perm {D : va_G} {cl : List vw_C} {w1 w2 : va_W} {H : Heap} (hp : w1.Perm w2) (h : va_P D cl w1 H) : va_P D cl w2 H := by
  rw [vaP_mem] at h ⊢
  exact fun q hq => h q (hp.mem_iff.mpr hq)
theorem vaA_iff {ws : va_W} {sz q : Nat} : va_A ws sz q ↔ q ∈ ws.map Prod.fst ∨ sz ≤ q := by
  constructor
  · rintro (⟨k, e, h⟩ | h)
    · exact Or.inl (List.mem_map.mpr ⟨(q, e), List.mem_of_getElem? h, rfl⟩)
    · exact Or.inr h
  · rintro (h | h)
    · obtain ⟨x, hx, rfl⟩ := List.mem_map.mp h
      obtain ⟨k, hk⟩ := List.getElem?_of_mem hx
      exact Or.inl ⟨k, x.2, hk⟩
    · exact Or.inr h
theorem fl_at {bs : List va_W} {i j : Nat} {b : va_W} {c : Nat × va_E} (hb : bs[i]? = some b) (hj : b[j]? = some c) : ∃ k, bs.flatten[k]? = some c ∧ ∀ c1, bs.flatten.set k c1 = (bs.set i (b.set j c1)).flatten := by
  induction bs generalizing i with
  | nil => simp at hb
  | cons x bs ih =>
    cases i with
    | zero =>
      rw [List.getElem?_cons_zero] at hb
      cases hb
      have hlt := (List.getElem?_eq_some_iff.mp hj).1
      refine ⟨j, ?_, fun c1 => ?_⟩
      · rw [List.flatten_cons, List.getElem?_append_left hlt]; exact hj
      · rw [List.flatten_cons, List.set_cons_zero, List.flatten_cons, List.set_append_left _ _ hlt]
    | succ i =>
      rw [List.getElem?_cons_succ] at hb
      obtain ⟨k, h1, h2⟩ := ih hb
      refine ⟨x.length + k, ?_, fun c1 => ?_⟩
      · rw [List.flatten_cons, List.getElem?_append_right (Nat.le_add_right _ _), Nat.add_sub_cancel_left]; exact h1
      · rw [List.flatten_cons, List.set_cons_succ, List.flatten_cons, List.set_append_right _ _ (Nat.le_add_right _ _), Nat.add_sub_cancel_left, h2]
theorem r_hj {D : va_G} {A : Nat → Prop} {H : Heap} {bs bs1 cs cs1 : List va_W} (isC : List Nat) (hnd : isC.Nodup) (hC : isC.map (fun i => bs[i]?) = cs.map some) (hlen : cs1.length = isC.length) (h1 : stm bs isC cs1 = bs1) (hP : va_P D vwCl bs.flatten H) (hD : va_D A bs.flatten) (hA : ∀ q, H.size ≤ q → A q) :
    (va_P D vwCl cs.flatten H ∧ va_D A cs.flatten) ∧ (∀ q, va_A cs.flatten H.size q → A q) ∧ ∀ H1 : Heap, (∀ q : Nat, q < H.size → ¬ va_A cs.flatten H.size q → H1[q]? = H[q]?) → va_P D vwCl cs1.flatten H1 → va_D (va_A cs.flatten H.size) cs1.flatten → va_P D vwCl bs1.flatten H1 ∧ va_D A bs1.flatten := by
  obtain ⟨rest, p1, p2⟩ := blk_perm isC bs cs cs1 hnd hC hlen
  rw [h1] at p2
  have hP' := vaP_perm p1 hP
  have hD' := vaD_perm p1 hD
  rw [vaP_mem] at hP'
  rw [vaD_iff, List.map_append] at hD'
  have hnd2 := List.nodup_append.mp hD'.1
  have hF : ∀ q, va_A cs.flatten H.size q → A q := by
    intro q hq
    rcases vaA_iff.mp hq with h | h
    · obtain ⟨x, hx, rfl⟩ := List.mem_map.mp h
      exact hD'.2 x (List.mem_append_left _ hx)
    · exact hA q h
  refine ⟨⟨vaP_mem.mpr fun q hq => hP' q (List.mem_append_left _ hq), vaD_iff.mpr ⟨hnd2.1, fun q hq => hD'.2 q (List.mem_append_left _ hq)⟩⟩, hF, fun H1 hk hP1 hD1 => ?_⟩
  have hrest : ∀ q ∈ rest, q.1 < H.size ∧ ¬ va_A cs.flatten H.size q.1 := by
    intro q hq
    have hl := (hP' q (List.mem_append_right _ hq)).lt
    refine ⟨hl, fun h => ?_⟩
    rcases vaA_iff.mp h with h | h
    · exact hnd2.2.2 q.1 h q.1 (List.mem_map.mpr ⟨q, hq, rfl⟩) rfl
    · omega
  refine ⟨vaP_perm p2.symm (vaP_mem.mpr fun q hq => ?_), vaD_perm p2.symm (vaD_iff.mpr ⟨?_, fun q hq => ?_⟩)⟩
  · rcases List.mem_append.mp hq with h | h
    · exact vaP_mem.mp hP1 q h
    · exact (hP' q (List.mem_append_right _ h)).kept (hk q.1 (hrest q h).1 (hrest q h).2)
  · rw [List.map_append, List.nodup_append]
    refine ⟨(vaD_iff.mp hD1).1, hnd2.2.1, fun a ha b hb e => ?_⟩
    obtain ⟨x, hx, rfl⟩ := List.mem_map.mp ha
    obtain ⟨y, hy, rfl⟩ := List.mem_map.mp hb
    exact (hrest y hy).2 (by rw [← e]; exact (vaD_iff.mp hD1).2 x hx)
  · rcases List.mem_append.mp hq with h | h
    · exact hF q.1 ((vaD_iff.mp hD1).2 q h)
    · exact hD'.2 q (List.mem_append_right _ h)
section BR
variable {l : Launch} {D : va_G} {Z : (Nat → Nat) × (Nat → Nat)} {tys : List (ClassId × FieldType)} {M : rx_M} {pc : Nat} {lv lv' : List (Nat × Value)} {st : List Value} {ws ws' ws1 : va_W} {bs bs1 : List va_W} {b : va_W} {v : Option Value}
theorem r_st {st' : List Value} (h : st = st') (k : rW l D Z tys M pc lv st' ws ws' v) : rW l D Z tys M pc lv st ws ws' v := by rw [h]; exact k
theorem r_getN (ci k q0 : Nat) {C : String} {T : u_T} {N index a : Nat} {fs : List Value} {x : Value} {host : String} (hin : ∀ w ∈ u_ws C T N, w ∈ TB) (hc : vwCl[ci]? = some (C, T, N)) (hk : k < N) (hw : (M.1, index, (T k).1, (T k).2.1, (T k).2.2.1, host) ∈ NBf) (hq : ws[q0]? = some (a, .inr (ci, fs))) (hv : fs[k]? = some x) (hdg : decode M.2.2.1 pc = .ok (.getfield index, 3)) (kk : rW l D Z tys M (pc + 3) lv (x :: st) ws ws' v) : rW l D Z tys M pc lv (.ref a :: st) ws ws' v :=
  fun p e s m args below meth c A C0 H locs ls hP hD hS hl => va_getN C0.1 C0.2.1 C0.2.2.2.2.2.1 (fun w h => List.mem_cons_of_mem _ (hin w h)) C0.2.2.2.2.1 C0.2.2.2.2.2.2.2.1 hP q0 hq hc k hk (va_Nw.use rfl (C0.2.2.2.2.2.2.2.2.2.1 _ hw)) (fun _ h => h) hv hdg (kk p e s m args below meth c A C0 H locs ls hP hD hS hl)
theorem r_putN (ci k q0 : Nat) {C : String} {T : u_T} {N index a : Nat} {fs : List Value} {x : Value} {ty : FieldType} {host : String} (hin : ∀ w ∈ u_ws C T N, w ∈ TB) (hc : vwCl[ci]? = some (C, T, N)) (hk : k < N) (hw : (M.1, index, (T k).1, (T k).2.1, (T k).2.2.1, host) ∈ NBf) (ty0 : Nat → FieldType) (hty : ∀ k, k < N → parseFieldDescriptor (T k).2.2.1 = some (ty0 k)) (hnm : ∀ a, a < N → ∀ b, b < N → a ≠ b → (T a).2.1 ≠ (T b).2.1) (hfin : (T k).2.2.2 = false) (hd : ty0 k = ty) (hq : ws[q0]? = some (a, .inr (ci, fs))) (hl0 : k < fs.length) (hn : narrow ty x = x) (hfit : fits ty x = true) (h1 : ws.set q0 (a, .inr (ci, fs.set k x)) = ws1) (hdg : decode M.2.2.1 pc = .ok (.putfield index, 3)) (kk : rW l D Z tys M (pc + 3) lv st ws1 ws' v) : rW l D Z tys M pc lv (x :: .ref a :: st) ws ws' v := by
  intro p e s m args below meth c A C0 H locs ls hP hD hS hl
  subst h1
  exact va_putN C0.1 C0.2.1 C0.2.2.2.2.2.1 (fun w h => List.mem_cons_of_mem _ (hin w h)) ty0 hty hnm C0.2.2.2.2.1 C0.2.2.2.2.2.2.2.1 hP hD hS q0 hq hc k hk (va_Nw.use rfl (C0.2.2.2.2.2.2.2.2.2.1 _ hw)) (fun _ h => h) hfin (by rw [hty k hk, hd]) hn hfit hl0 hdg (fun H1 locs1 hP hD hS => kk p e s m args below meth c A C0 H1 locs1 ls hP hD hS hl)
/-! fields and arrays of a block -/
theorem b_get (i j ci k : Nat) {C : String} {T : u_T} {N index a : Nat} {fs : List Value} {x : Value} (hin : ∀ w ∈ u_ws C T N, w ∈ TB) (hc : vwCl[ci]? = some (C, T, N)) (hk : k < N) (hw : Cond.fieldLink M.1 index (T k).1 (T k).2.1 (T k).2.2.1 ∈ TB) (hb : bs[i]? = some b) (hq : b[j]? = some (a, .inr (ci, fs))) (hv : fs[k]? = some x) (hdg : decode M.2.2.1 pc = .ok (.getfield index, 3)) (kk : rW l D Z tys M (pc + 3) lv (x :: st) bs.flatten ws' v) : rW l D Z tys M pc lv (.ref a :: st) bs.flatten ws' v := by
  obtain ⟨q0, h1, -⟩ := fl_at hb hq
  exact r_get ci k q0 hin hc hk hw h1 hv hdg kk
theorem b_getN (i j ci k : Nat) {C : String} {T : u_T} {N index a : Nat} {fs : List Value} {x : Value} {host : String} (hin : ∀ w ∈ u_ws C T N, w ∈ TB) (hc : vwCl[ci]? = some (C, T, N)) (hk : k < N) (hw : (M.1, index, (T k).1, (T k).2.1, (T k).2.2.1, host) ∈ NBf) (hb : bs[i]? = some b) (hq : b[j]? = some (a, .inr (ci, fs))) (hv : fs[k]? = some x) (hdg : decode M.2.2.1 pc = .ok (.getfield index, 3)) (kk : rW l D Z tys M (pc + 3) lv (x :: st) bs.flatten ws' v) : rW l D Z tys M pc lv (.ref a :: st) bs.flatten ws' v := by
  obtain ⟨q0, h1, -⟩ := fl_at hb hq
  exact r_getN ci k q0 hin hc hk hw h1 hv hdg kk
theorem b_put (i j ci k : Nat) {C : String} {T : u_T} {N index a : Nat} {fs : List Value} {x : Value} {ty : FieldType} (hin : ∀ w ∈ u_ws C T N, w ∈ TB) (hc : vwCl[ci]? = some (C, T, N)) (hk : k < N) (hw : Cond.fieldLink M.1 index (T k).1 (T k).2.1 (T k).2.2.1 ∈ TB) (ty0 : Nat → FieldType) (hty : ∀ k, k < N → parseFieldDescriptor (T k).2.2.1 = some (ty0 k)) (hnm : ∀ a, a < N → ∀ b, b < N → a ≠ b → (T a).2.1 ≠ (T b).2.1) (hfin : (T k).2.2.2 = false) (hd : ty0 k = ty) (hb : bs[i]? = some b) (hq : b[j]? = some (a, .inr (ci, fs))) (hl0 : k < fs.length) (hn : narrow ty x = x) (hfit : fits ty x = true) (h1 : bs.set i (b.set j (a, .inr (ci, fs.set k x))) = bs1) (hdg : decode M.2.2.1 pc = .ok (.putfield index, 3)) (kk : rW l D Z tys M (pc + 3) lv st bs1.flatten ws' v) : rW l D Z tys M pc lv (x :: .ref a :: st) bs.flatten ws' v := by
  obtain ⟨q0, g1, g2⟩ := fl_at hb hq
  exact r_put ci k q0 hin hc hk hw ty0 hty hnm hfin hd g1 hl0 hn hfit (by rw [g2, h1]) hdg kk
theorem b_putN (i j ci k : Nat) {C : String} {T : u_T} {N index a : Nat} {fs : List Value} {x : Value} {ty : FieldType} {host : String} (hin : ∀ w ∈ u_ws C T N, w ∈ TB) (hc : vwCl[ci]? = some (C, T, N)) (hk : k < N) (hw : (M.1, index, (T k).1, (T k).2.1, (T k).2.2.1, host) ∈ NBf) (ty0 : Nat → FieldType) (hty : ∀ k, k < N → parseFieldDescriptor (T k).2.2.1 = some (ty0 k)) (hnm : ∀ a, a < N → ∀ b, b < N → a ≠ b → (T a).2.1 ≠ (T b).2.1) (hfin : (T k).2.2.2 = false) (hd : ty0 k = ty) (hb : bs[i]? = some b) (hq : b[j]? = some (a, .inr (ci, fs))) (hl0 : k < fs.length) (hn : narrow ty x = x) (hfit : fits ty x = true) (h1 : bs.set i (b.set j (a, .inr (ci, fs.set k x))) = bs1) (hdg : decode M.2.2.1 pc = .ok (.putfield index, 3)) (kk : rW l D Z tys M (pc + 3) lv st bs1.flatten ws' v) : rW l D Z tys M pc lv (x :: .ref a :: st) bs.flatten ws' v := by
  obtain ⟨q0, g1, g2⟩ := fl_at hb hq
  exact r_putN ci k q0 hin hc hk hw ty0 hty hnm hfin hd g1 hl0 hn hfit (by rw [g2, h1]) hdg kk
theorem b_iald (i0 j t0 : Nat) {a : Nat} {cA : ClassId} {n : Nat} {f : Nat → Int32} {i : Int32} (ht : tys[t0]? = some (cA, .int)) (hb : bs[i0]? = some b) (hq : b[j]? = some (a, .inl (cA, n, .inl f))) (hin : vp_in i n) (hdg : decode M.2.2.1 pc = .ok (.iaload, 1)) (kk : rW l D Z tys M (pc + 1) lv (.int (f i.toNatClampNeg) :: st) bs.flatten ws' v) : rW l D Z tys M pc lv (.int i :: .ref a :: st) bs.flatten ws' v := by
  obtain ⟨q0, h1, -⟩ := fl_at hb hq
  exact r_iald q0 t0 ht h1 hin hdg kk
theorem b_bald (i0 j t0 : Nat) {a : Nat} {cA : ClassId} {n : Nat} {f : Nat → Int32} {i : Int32} (ht : tys[t0]? = some (cA, .byte)) (hb : bs[i0]? = some b) (hq : b[j]? = some (a, .inl (cA, n, .inl f))) (hin : vp_in i n) (hdg : decode M.2.2.1 pc = .ok (.baload, 1)) (kk : rW l D Z tys M (pc + 1) lv (.int (f i.toNatClampNeg) :: st) bs.flatten ws' v) : rW l D Z tys M pc lv (.int i :: .ref a :: st) bs.flatten ws' v := by
  obtain ⟨q0, h1, -⟩ := fl_at hb hq
  exact r_bald q0 t0 ht h1 hin hdg kk
theorem b_zald (i0 j t0 : Nat) {a : Nat} {cA : ClassId} {n : Nat} {f : Nat → Int32} {i : Int32} (ht : tys[t0]? = some (cA, .boolean)) (hb : bs[i0]? = some b) (hq : b[j]? = some (a, .inl (cA, n, .inl f))) (hin : vp_in i n) (hdg : decode M.2.2.1 pc = .ok (.baload, 1)) (kk : rW l D Z tys M (pc + 1) lv (.int (f i.toNatClampNeg) :: st) bs.flatten ws' v) : rW l D Z tys M pc lv (.int i :: .ref a :: st) bs.flatten ws' v := by
  obtain ⟨q0, h1, -⟩ := fl_at hb hq
  exact r_zald q0 t0 ht h1 hin hdg kk
theorem b_lald (i0 j t0 : Nat) {a : Nat} {cA : ClassId} {n : Nat} {f : Nat → Int64} {i : Int32} (ht : tys[t0]? = some (cA, .long)) (hb : bs[i0]? = some b) (hq : b[j]? = some (a, .inl (cA, n, .inr (.inl f)))) (hin : vp_in i n) (hdg : decode M.2.2.1 pc = .ok (.laload, 1)) (kk : rW l D Z tys M (pc + 1) lv (.long (f i.toNatClampNeg) :: st) bs.flatten ws' v) : rW l D Z tys M pc lv (.int i :: .ref a :: st) bs.flatten ws' v := by
  obtain ⟨q0, h1, -⟩ := fl_at hb hq
  exact r_lald q0 t0 ht h1 hin hdg kk
theorem b_iast (i0 j t0 : Nat) {a : Nat} {cA : ClassId} {n : Nat} {f u : Nat → Int32} {i x : Int32} (eu : u = upd f i.toNatClampNeg x) (ht : tys[t0]? = some (cA, .int)) (hb : bs[i0]? = some b) (hq : b[j]? = some (a, .inl (cA, n, .inl f))) (hin : vp_in i n) (h1 : bs.set i0 (b.set j (a, .inl (cA, n, .inl u))) = bs1) (hdg : decode M.2.2.1 pc = .ok (.iastore, 1)) (kk : rW l D Z tys M (pc + 1) lv st bs1.flatten ws' v) : rW l D Z tys M pc lv (.int x :: .int i :: .ref a :: st) bs.flatten ws' v := by
  obtain ⟨q0, g1, g2⟩ := fl_at hb hq
  exact r_iast q0 t0 ht g1 hin (by rw [g2, ← eu, h1]) hdg kk
theorem b_bast (i0 j t0 : Nat) {a : Nat} {cA : ClassId} {n : Nat} {f u : Nat → Int32} {i x : Int32} (eu : u = upd f i.toNatClampNeg (vp_nar .byte x)) (ht : tys[t0]? = some (cA, .byte)) (hb : bs[i0]? = some b) (hq : b[j]? = some (a, .inl (cA, n, .inl f))) (hin : vp_in i n) (h1 : bs.set i0 (b.set j (a, .inl (cA, n, .inl u))) = bs1) (hdg : decode M.2.2.1 pc = .ok (.bastore, 1)) (kk : rW l D Z tys M (pc + 1) lv st bs1.flatten ws' v) : rW l D Z tys M pc lv (.int x :: .int i :: .ref a :: st) bs.flatten ws' v := by
  obtain ⟨q0, g1, g2⟩ := fl_at hb hq
  exact r_bast q0 t0 ht g1 hin (by rw [g2, ← eu, h1]) hdg kk
theorem b_zast (i0 j t0 : Nat) {a : Nat} {cA : ClassId} {n : Nat} {f u : Nat → Int32} {i x : Int32} (eu : u = upd f i.toNatClampNeg (vp_nar .boolean x)) (ht : tys[t0]? = some (cA, .boolean)) (hb : bs[i0]? = some b) (hq : b[j]? = some (a, .inl (cA, n, .inl f))) (hin : vp_in i n) (h1 : bs.set i0 (b.set j (a, .inl (cA, n, .inl u))) = bs1) (hdg : decode M.2.2.1 pc = .ok (.bastore, 1)) (kk : rW l D Z tys M (pc + 1) lv st bs1.flatten ws' v) : rW l D Z tys M pc lv (.int x :: .int i :: .ref a :: st) bs.flatten ws' v := by
  obtain ⟨q0, g1, g2⟩ := fl_at hb hq
  exact r_zast q0 t0 ht g1 hin (by rw [g2, ← eu, h1]) hdg kk
theorem b_last (i0 j t0 : Nat) {a : Nat} {cA : ClassId} {n : Nat} {f u : Nat → Int64} {i : Int32} {x : Int64} (eu : u = vp_updL f i.toNatClampNeg x) (ht : tys[t0]? = some (cA, .long)) (hb : bs[i0]? = some b) (hq : b[j]? = some (a, .inl (cA, n, .inr (.inl f)))) (hin : vp_in i n) (h1 : bs.set i0 (b.set j (a, .inl (cA, n, .inr (.inl u)))) = bs1) (hdg : decode M.2.2.1 pc = .ok (.lastore, 1)) (kk : rW l D Z tys M (pc + 1) lv st bs1.flatten ws' v) : rW l D Z tys M pc lv (.long x :: .int i :: .ref a :: st) bs.flatten ws' v := by
  obtain ⟨q0, g1, g2⟩ := fl_at hb hq
  exact r_last q0 t0 ht g1 hin (by rw [g2, ← eu, h1]) hdg kk
theorem b_aald (i0 j t0 : Nat) {a : Nat} {cA : ClassId} {C : String} {n : Nat} {f : Nat → Option Nat} {i : Int32} (ht : tys[t0]? = some (cA, .object C)) (hb : bs[i0]? = some b) (hq : b[j]? = some (a, .inl (cA, n, .inr (.inr (.inr (.inr f)))))) (hin : vp_in i n) (hdg : decode M.2.2.1 pc = .ok (.aaload, 1)) (kk : rW l D Z tys M (pc + 1) lv (va_rf (f i.toNatClampNeg) :: st) bs.flatten ws' v) : rW l D Z tys M pc lv (.int i :: .ref a :: st) bs.flatten ws' v := by
  obtain ⟨q0, h1, -⟩ := fl_at hb hq
  exact fun p e s m args below meth c A C H locs ls hP hD hS hl => va_aldq C.1 C.2.1 C.2.2.2.2.2.2.2.1 hP q0 t0 h1 ht hin hdg (kk p e s m args below meth c A C H locs ls hP hD hS hl)
theorem b_alen (i0 j t0 : Nat) {a : Nat} {cA : ClassId} {x : vp_A} {ty : FieldType} {n : Int32} (ht : tys[t0]? = some (cA, ty)) (hb : bs[i0]? = some b) (hq : b[j]? = some (a, .inl (cA, x))) (hn : Int32.ofNat x.1 = n) (hdg : decode M.2.2.1 pc = .ok (.arraylength, 1)) (kk : rW l D Z tys M (pc + 1) lv (.int n :: st) bs.flatten ws' v) : rW l D Z tys M pc lv (.ref a :: st) bs.flatten ws' v := by
  obtain ⟨q0, h1, -⟩ := fl_at hb hq
  exact fun p e s m args below meth c A C H locs ls hP hD hS hl => va_alen C.1 C.2.1 C.2.2.2.2.2.2.2.1 hP q0 t0 h1 ht hn hdg (kk p e s m args below meth c A C H locs ls hP hD hS hl)
/-- System.arraycopy of ints or bytes -/
def cpin (sp dp n : Int32) (n0 n1 : Nat) : Bool := decide (0 ≤ sp) && (decide (0 ≤ dp) && (decide (0 ≤ n) && (decide (sp.toNatClampNeg + n.toNatClampNeg ≤ n0) && decide (dp.toNatClampNeg + n.toNatClampNeg ≤ n1))))
def cpfit (f : Nat → Int32) (sp n : Int32) : Bool := decide (∀ i, i < n.toNatClampNeg → fits .byte (.int (f (sp.toNatClampNeg + i))) = true)
theorem cpin_spec {sp dp n : Int32} {n0 n1 : Nat} (h : cpin sp dp n n0 n1 = true) : ¬ sp < 0 ∧ ¬ dp < 0 ∧ ¬ n < 0 ∧ sp.toNatClampNeg + n.toNatClampNeg ≤ n0 ∧ dp.toNatClampNeg + n.toNatClampNeg ≤ n1 := by
  simp only [cpin, Bool.and_eq_true, decide_eq_true_eq] at h
  obtain ⟨h1, h2, h3, h4, h5⟩ := h
  exact ⟨Int32.not_lt.mpr h1, Int32.not_lt.mpr h2, Int32.not_lt.mpr h3, h4, h5⟩
theorem b_copy (i0 j0 i1 j1 t : Nat) {b1 : va_W} {a0 a : Nat} {c0 : ClassId} {n0 n1 : Nat} {f g u : Nat → Int32} {ty : FieldType} {index : Nat} {sp dp n : Int32} (eu : u = va_cpy f g sp.toNatClampNeg dp.toNatClampNeg n.toNatClampNeg) (hcp : cpin sp dp n n0 n1 = true) (hfit : ∀ i, i < n.toNatClampNeg → fits ty (.int (f (sp.toNatClampNeg + i))) = true) (hprim : refKind ty = false) (ht : tys[t]? = some (c0, ty)) (hb0 : bs[i0]? = some b) (hq0 : b[j0]? = some (a0, .inl (c0, n0, .inl f))) (hb1 : bs[i1]? = some b1) (hq1 : b1[j1]? = some (a, .inl (c0, n1, .inl g)))
    (h1 : bs.set i1 (b1.set j1 (a, .inl (c0, n1, .inl u))) = bs1) (w1 : Cond.methodLink M.1 index arraycopyName ∈ TB) (w2 : Cond.native arraycopyName ∈ TB) (w3 : Cond.static arraycopyName ∈ TB) (w4 : Cond.initialized "java/lang/System" ∈ TB) (hrank : 1 ≤ M.2.2.2.2.2) (hst : (st.map fun v => v.category).sum ≤ 8) (hdg : decode M.2.2.1 pc = .ok (.invokestatic index, 3)) (kk : rW l D Z tys M (pc + 3) lv st bs1.flatten ws' v) : rW l D Z tys M pc lv (.int n :: .int dp :: .ref a :: .int sp :: .ref a0 :: st) bs.flatten ws' v := by
  obtain ⟨q0, g1, -⟩ := fl_at hb0 hq0
  obtain ⟨q1, k1, k2⟩ := fl_at hb1 hq1
  obtain ⟨s1, s2, s3, s4, s5⟩ := cpin_spec hcp
  intro p e s m args below meth c A C H locs ls hP hD hS hl
  have hts := C.2.2.2.2.2.1
  refine va_copyi C.1 C.2.1 (C.2.2.2.1.trans hl.1.symm) C.2.2.2.2.1 (hts _ (List.mem_cons_of_mem _ w1)) (hts _ (List.mem_cons_of_mem _ w2)) (hts _ (List.mem_cons_of_mem _ w3)) (hts _ (List.mem_cons_of_mem _ w4)) C.2.2.2.2.2.2.2.1 hP hD hS q0 q1 t t g1 k1 ht ht hprim s1 s2 s3 s4 s5 hfit hrank ?_ hdg (fun H1 locs1 hP hD hS => ?_)
  · show (st.map fun v => v.category).sum + _ ≤ 60 * M.2.2.2.2.2
    have : nativeFrameWords "java/lang/System" "arraycopy" 5 + 11 ≤ 52 := by decide +kernel
    omega
  · rw [k2, ← eu, h1] at hP hD
    exact kk p e s m args below meth c A C H1 locs1 ls hP hD hS hl
theorem r_mmin {index : Nat} {x y : Int32} (w1 : Cond.methodLink M.1 index Lib.Math.min.name ∈ TB) (w2 : Cond.static Lib.Math.min.name ∈ TB) (w3 : Cond.initialized "java/lang/Math" ∈ TB) (w4 : Cond.code Lib.Math.min.name Lib.Math.min.code 2 (some .int) ∈ TB) (hrank : 1 ≤ M.2.2.2.2.2) (hst : (st.map fun v => v.category).sum ≤ 8) (hdg : decode M.2.2.1 pc = .ok (.invokestatic index, 3)) (kk : rW l D Z tys M (pc + 3) lv (.int (if y < x then y else x) :: st) ws ws' v) : rW l D Z tys M pc lv (.int y :: .int x :: st) ws ws' v := by
  intro p e s m args below meth c A C H locs ls hP hD hS hl
  have hts := C.2.2.2.2.2.1
  exact va_mmin C.1 C.2.1 (C.2.2.2.1.trans hl.1.symm) C.2.2.2.2.1 (hts _ (List.mem_cons_of_mem _ w1)) (hts _ (List.mem_cons_of_mem _ w2)) (hts _ (List.mem_cons_of_mem _ w3)) (hts _ (List.mem_cons_of_mem _ w4)) hrank (by show (st.map fun v => v.category).sum + 13 ≤ 60 * M.2.2.2.2.2; omega) (Nat.le_refl 0) (Nat.le_refl 0) hdg (kk p e s m args below meth c A C H locs ls hP hD hS hl)
theorem r_mmax {index : Nat} {x y : Int32} (w1 : Cond.methodLink M.1 index Lib.Math.max.name ∈ TB) (w2 : Cond.static Lib.Math.max.name ∈ TB) (w3 : Cond.initialized "java/lang/Math" ∈ TB) (w4 : Cond.code Lib.Math.max.name Lib.Math.max.code 2 (some .int) ∈ TB) (hrank : 1 ≤ M.2.2.2.2.2) (hst : (st.map fun v => v.category).sum ≤ 8) (hdg : decode M.2.2.1 pc = .ok (.invokestatic index, 3)) (kk : rW l D Z tys M (pc + 3) lv (.int (if x < y then y else x) :: st) ws ws' v) : rW l D Z tys M pc lv (.int y :: .int x :: st) ws ws' v := by
  intro p e s m args below meth c A C H locs ls hP hD hS hl
  have hts := C.2.2.2.2.2.1
  exact va_mmax C.1 C.2.1 (C.2.2.2.1.trans hl.1.symm) C.2.2.2.2.1 (hts _ (List.mem_cons_of_mem _ w1)) (hts _ (List.mem_cons_of_mem _ w2)) (hts _ (List.mem_cons_of_mem _ w3)) (hts _ (List.mem_cons_of_mem _ w4)) hrank (by show (st.map fun v => v.category).sum + 13 ≤ 60 * M.2.2.2.2.2; omega) (Nat.le_refl 0) (Nat.le_refl 0) hdg (kk p e s m args below meth c A C H locs ls hP hD hS hl)
theorem r_ifnull_ref {x : Nat} {off : Int} (hdg : decode M.2.2.1 pc = .ok (.ifnull off, 3)) (k : rW l D Z tys M (pc + 3) lv st ws ws' v) : rW l D Z tys M pc lv (.ref x :: st) ws ws' v :=
  fun p e s m args below meth c A C H locs ls hP hD hS hl => lv_ifnull C.1 C.2.1 hdg (k p e s m args below meth c A C H locs ls hP hD hS hl)
theorem r_ifnull_nil {off : Int} (tgt : Nat) (hdg : decode M.2.2.1 pc = .ok (.ifnull off, 3)) (ht : (pc : Int) + off = (tgt : Int)) (k : rW l D Z tys M tgt lv st ws ws' v) : rW l D Z tys M pc lv (.null :: st) ws ws' v :=
  fun p e s m args below meth c A C H locs ls hP hD hS hl => lv_ifnullN C.1 C.2.1 hdg ht (k p e s m args below meth c A C H locs ls hP hD hS hl)
theorem r_ifnonnull_ref {x : Nat} {off : Int} (tgt : Nat) (hdg : decode M.2.2.1 pc = .ok (.ifnonnull off, 3)) (ht : (pc : Int) + off = (tgt : Int)) (k : rW l D Z tys M tgt lv st ws ws' v) : rW l D Z tys M pc lv (.ref x :: st) ws ws' v :=
  fun p e s m args below meth c A C H locs ls hP hD hS hl => lv_ifnonnull C.1 C.2.1 hdg ht (k p e s m args below meth c A C H locs ls hP hD hS hl)
theorem r_ifnonnull_nil {off : Int} (hdg : decode M.2.2.1 pc = .ok (.ifnonnull off, 3)) (k : rW l D Z tys M (pc + 3) lv st ws ws' v) : rW l D Z tys M pc lv (.null :: st) ws ws' v :=
  fun p e s m args below meth c A C H locs ls hP hD hS hl => lv_ifnonnullN C.1 C.2.1 hdg (k p e s m args below meth c A C H locs ls hP hD hS hl)
theorem r_aload_nN (q : Nat) {i : Fin 4} (hdg : decode M.2.2.1 pc = .ok (.aload_n i, 1)) (hl0 : lv[q]? = some ((i : Nat), .null)) (k : rW l D Z tys M (pc + 1) lv (.null :: st) ws ws' v) : rW l D Z tys M pc lv st ws ws' v :=
  fun p e s m args below meth c A C H locs ls hP hD hS hl => lv_aload_nN C.1 C.2.1 hdg rfl (lv_at hl q hl0) (k p e s m args below meth c A C H locs ls hP hD hS hl)
theorem r_aloadN (q : Nat) {i : Nat} (hdg : decode M.2.2.1 pc = .ok (.aload i, 2)) (hl0 : lv[q]? = some (i, .null)) (k : rW l D Z tys M (pc + 2) lv (.null :: st) ws ws' v) : rW l D Z tys M pc lv st ws ws' v :=
  fun p e s m args below meth c A C H locs ls hP hD hS hl => lv_aloadN C.1 C.2.1 hdg (lv_at hl q hl0) (k p e s m args below meth c A C H locs ls hP hD hS hl)
/-! calls with some blocks -/
theorem r_runVN {Mc : rx_M} {n index b q0 ci : Nat} {q : vw_C} {fs As : List Value} {stk : List Value} {wc w1 : va_W} {rv : Option Value} {host : String} {p : Program} {e : Env} {s : State} {m : MethodId} {args : Array Value} {below : List Frame} {meth : Method} {c : Code} {A : Nat → Prop} {H : Heap} {locs : List Loc} {ls : Array Slot}
    (hst : stk = As.reverse ++ .ref b :: st) (hlen : As.length = n) (hcat : (st.map fun v => v.category).sum ≤ 8) (hM : rMet l D Z tys Mc (.ref b :: As) wc w1 rv) (hK : rKv Mc n) (hlink : (M.1, index, Mc.2.1, host) ∈ NBm) (hrank : Mc.2.2.2.2.2 < M.2.2.2.2.2) (hc : vwCl[ci]? = some q) (hcl : q.1 = Mc.2.1.cls) (hq : wc[q0]? = some (b, .inr (ci, fs)))
    (hdg : decode M.2.2.1 pc = .ok (.invokevirtual index, 3)) (C : rC D Z tys M p s m args meth c A) (hP : va_P D vwCl wc H) (hD : va_D A wc) (hS : va_S A s.heap H locs) (hF : ∀ q, va_A wc H.size q → A q) (hl : lv_has ls M.2.2.2.1 lv) :
    va_Run p l e (rr M.2.2.2.2.2) s m args below meth c H locs 0 0 0 0 (F0 m pc ls stk) st (rQ D tys w1 rv (va_A wc H.size) (Value.ref b :: As).toArray) (va_A wc H.size) := by
  obtain ⟨k1, k2, k3, k4, k5, k6⟩ := hK
  have hts := C.2.2.2.2.2.1
  have hr := va_recv C.2.2.2.2.2.2.2.1 hP hc hq
  rw [hcl] at hr
  refine va_runVN (As := As) (rest := st) (cc := M.2.2.1) (nL := M.2.2.2.1) (Ts := rTs M) (own := M.1) (host := host) ⟨C.1, C.2.1, C.2.2.2.1, C.2.2.2.2.1, hts⟩ (hM H.size) (C := Mc.2.1.cls) (index := index) (bytes := Mc.2.2.1) (maxL := Mc.2.2.2.1) (ret := Mc.2.2.2.2.1) (n := n) ?_ ⟨r_blind, hr, fun U hU hW => ⟨rfl, by rw [hU], by rw [hU]; exact hP, va_K.moved hW.alike C.2.2.2.2.2.2.2.1, hD.weaken (fun _ _ _ _ => trivial), C.2.2.2.2.2.2.2.2.2.call hW hU hS.2.1 hF⟩⟩ rfl hlen hl.1 hst (lv_room hcat) hdg ⟨Nat.le_refl 0, Nat.le_refl 0⟩
  exact ⟨va_cnB n hts (r_good k4) rfl rfl rfl (C.2.2.2.2.2.2.2.2.2.2.1 _ hlink) (hts _ (List.mem_cons_of_mem _ k3)) k5 (r_fits hrank k6), hts _ (List.mem_cons_of_mem _ k1), hts _ (List.mem_cons_of_mem _ k2)⟩
theorem r_runSN {Mc : rx_M} {n index : Nat} {As : List Value} {stk : List Value} {wc w1 : va_W} {rv : Option Value} {host : String} {p : Program} {e : Env} {s : State} {m : MethodId} {args : Array Value} {below : List Frame} {meth : Method} {c : Code} {A : Nat → Prop} {H : Heap} {locs : List Loc} {ls : Array Slot}
    (hst : stk = As.reverse ++ st) (hlen : As.length = n) (hcat : (st.map fun v => v.category).sum ≤ 8) (hM : rMet l D Z tys Mc As wc w1 rv) (hK : rKs Mc n) (hlink : (M.1, index, Mc.2.1, host) ∈ NBm) (hrank : Mc.2.2.2.2.2 < M.2.2.2.2.2)
    (hdg : decode M.2.2.1 pc = .ok (.invokestatic index, 3)) (C : rC D Z tys M p s m args meth c A) (hP : va_P D vwCl wc H) (hD : va_D A wc) (hS : va_S A s.heap H locs) (hF : ∀ q, va_A wc H.size q → A q) (hl : lv_has ls M.2.2.2.1 lv) :
    va_Run p l e (rr M.2.2.2.2.2) s m args below meth c H locs 0 0 0 0 (F0 m pc ls stk) st (rQ D tys w1 rv (va_A wc H.size) As.toArray) (va_A wc H.size) := by
  obtain ⟨k1, k3, k4, k5, k6⟩ := hK
  have hts := C.2.2.2.2.2.1
  refine va_runSN (As := As) (rest := st) (cc := M.2.2.1) (nL := M.2.2.2.1) (Ts := rTs M) (own := M.1) (host := host) ⟨C.1, C.2.1, C.2.2.2.1, C.2.2.2.2.1, hts⟩ (hM H.size) (index := index) (bytes := Mc.2.2.1) (maxL := Mc.2.2.2.1) (ret := Mc.2.2.2.2.1) (n := n) ?_ ⟨r_blind, fun U hU hW => ⟨rfl, by rw [hU], by rw [hU]; exact hP, va_K.moved hW.alike C.2.2.2.2.2.2.2.1, hD.weaken (fun _ _ _ _ => trivial), C.2.2.2.2.2.2.2.2.2.call hW hU hS.2.1 hF⟩⟩ rfl hlen hl.1 hst (lv_room hcat) hdg ⟨Nat.le_refl 0, Nat.le_refl 0⟩
  exact ⟨va_cnB n hts (r_good k4) rfl rfl rfl (C.2.2.2.2.2.2.2.2.2.2.1 _ hlink) (hts _ (List.mem_cons_of_mem _ k3)) k5 (r_fits hrank k6), hts _ (List.mem_cons_of_mem _ k1), trivial⟩
theorem r_hA {A : Nat → Prop} {s : State} {H : Heap} {locs : List Loc} (hS : va_S A s.heap H locs) (hA : ∀ q, s.heap.size ≤ q → A q) : ∀ q, H.size ≤ q → A q := fun q h => hA q (Nat.le_trans hS.1 h)
theorem b_callV (isC : List Nat) {Mc : rx_M} {n index ra ci : Nat} {q : vw_C} {fs As : List Value} {stk : List Value} {rv : Option Value} {cs cs1 : List va_W} {c0 : va_W} (hM : rMet l D Z tys Mc (.ref ra :: As) cs.flatten cs1.flatten rv) (hst : stk = As.reverse ++ .ref ra :: st) (hlen : As.length = n) (hcat : (st.map fun v => v.category).sum ≤ 8) (hK : rKv Mc n) (hlink : Cond.methodLink M.1 index Mc.2.1 ∈ TB) (hrank : Mc.2.2.2.2.2 < M.2.2.2.2.2) (hnd : isC.Nodup) (hC : isC.map (fun i => bs[i]?) = cs.map some) (hl1 : cs1.length = isC.length) (h1 : stm bs isC cs1 = bs1) (hc : vwCl[ci]? = some q) (hcl : q.1 = Mc.2.1.cls) (hb0 : cs[0]? = some c0) (hq : c0[0]? = some (ra, .inr (ci, fs))) (hdg : decode M.2.2.1 pc = .ok (.invokevirtual index, 3)) (k : rW l D Z tys M (pc + 3) lv (rv.toList ++ st) bs1.flatten ws' v) : rW l D Z tys M pc lv stk bs.flatten ws' v := by
  intro p e s m args below meth c A C H locs ls hP hD hS hl
  obtain ⟨⟨hPc, hDc⟩, hF, hj⟩ := r_hj isC hnd hC hl1 h1 hP hD (r_hA hS C.2.2.2.2.2.2.2.2.1)
  obtain ⟨q0, hq0, -⟩ := fl_at hb0 hq
  exact r_back (r_runV hst hlen hcat hM hK hlink hrank hc hcl hq0 hdg C hPc hDc hS hF hl) C hP hD hS hl hF hj k
theorem b_callVN (isC : List Nat) {Mc : rx_M} {n index ra ci : Nat} {q : vw_C} {fs As : List Value} {stk : List Value} {rv : Option Value} {host : String} {cs cs1 : List va_W} {c0 : va_W} (hM : rMet l D Z tys Mc (.ref ra :: As) cs.flatten cs1.flatten rv) (hst : stk = As.reverse ++ .ref ra :: st) (hlen : As.length = n) (hcat : (st.map fun v => v.category).sum ≤ 8) (hK : rKv Mc n) (hlink : (M.1, index, Mc.2.1, host) ∈ NBm) (hrank : Mc.2.2.2.2.2 < M.2.2.2.2.2) (hnd : isC.Nodup) (hC : isC.map (fun i => bs[i]?) = cs.map some) (hl1 : cs1.length = isC.length) (h1 : stm bs isC cs1 = bs1) (hc : vwCl[ci]? = some q) (hcl : q.1 = Mc.2.1.cls) (hb0 : cs[0]? = some c0) (hq : c0[0]? = some (ra, .inr (ci, fs))) (hdg : decode M.2.2.1 pc = .ok (.invokevirtual index, 3)) (k : rW l D Z tys M (pc + 3) lv (rv.toList ++ st) bs1.flatten ws' v) : rW l D Z tys M pc lv stk bs.flatten ws' v := by
  intro p e s m args below meth c A C H locs ls hP hD hS hl
  obtain ⟨⟨hPc, hDc⟩, hF, hj⟩ := r_hj isC hnd hC hl1 h1 hP hD (r_hA hS C.2.2.2.2.2.2.2.2.1)
  obtain ⟨q0, hq0, -⟩ := fl_at hb0 hq
  exact r_back (r_runVN hst hlen hcat hM hK hlink hrank hc hcl hq0 hdg C hPc hDc hS hF hl) C hP hD hS hl hF hj k
theorem b_callS (isC : List Nat) {Mc : rx_M} {n index : Nat} {As : List Value} {stk : List Value} {rv : Option Value} {cs cs1 : List va_W} (hM : rMet l D Z tys Mc As cs.flatten cs1.flatten rv) (hst : stk = As.reverse ++ st) (hlen : As.length = n) (hcat : (st.map fun v => v.category).sum ≤ 8) (hK : rKs Mc n) (hlink : Cond.methodLink M.1 index Mc.2.1 ∈ TB) (hrank : Mc.2.2.2.2.2 < M.2.2.2.2.2) (hnd : isC.Nodup) (hC : isC.map (fun i => bs[i]?) = cs.map some) (hl1 : cs1.length = isC.length) (h1 : stm bs isC cs1 = bs1) (hdg : decode M.2.2.1 pc = .ok (.invokestatic index, 3)) (k : rW l D Z tys M (pc + 3) lv (rv.toList ++ st) bs1.flatten ws' v) : rW l D Z tys M pc lv stk bs.flatten ws' v := by
  intro p e s m args below meth c A C H locs ls hP hD hS hl
  obtain ⟨⟨hPc, hDc⟩, hF, hj⟩ := r_hj isC hnd hC hl1 h1 hP hD (r_hA hS C.2.2.2.2.2.2.2.2.1)
  exact r_back (r_runS hst hlen hcat hM hK hlink hrank hdg C hPc hDc hS hF hl) C hP hD hS hl hF hj k
theorem b_callSN (isC : List Nat) {Mc : rx_M} {n index : Nat} {As : List Value} {stk : List Value} {rv : Option Value} {host : String} {cs cs1 : List va_W} (hM : rMet l D Z tys Mc As cs.flatten cs1.flatten rv) (hst : stk = As.reverse ++ st) (hlen : As.length = n) (hcat : (st.map fun v => v.category).sum ≤ 8) (hK : rKs Mc n) (hlink : (M.1, index, Mc.2.1, host) ∈ NBm) (hrank : Mc.2.2.2.2.2 < M.2.2.2.2.2) (hnd : isC.Nodup) (hC : isC.map (fun i => bs[i]?) = cs.map some) (hl1 : cs1.length = isC.length) (h1 : stm bs isC cs1 = bs1) (hdg : decode M.2.2.1 pc = .ok (.invokestatic index, 3)) (k : rW l D Z tys M (pc + 3) lv (rv.toList ++ st) bs1.flatten ws' v) : rW l D Z tys M pc lv stk bs.flatten ws' v := by
  intro p e s m args below meth c A C H locs ls hP hD hS hl
  obtain ⟨⟨hPc, hDc⟩, hF, hj⟩ := r_hj isC hnd hC hl1 h1 hP hD (r_hA hS C.2.2.2.2.2.2.2.2.1)
  exact r_back (r_runSN hst hlen hcat hM hK hlink hrank hdg C hPc hDc hS hF hl) C hP hD hS hl hF hj k
end BR
