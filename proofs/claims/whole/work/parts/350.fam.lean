/-! families of blocks: objects in rows of references -/
def fam (n : Nat) (f : Nat → va_W) : List va_W := (List.range n).map f
theorem fam_len (n : Nat) (f : Nat → va_W) : (fam n f).length = n := by simp [fam]
theorem fam_at {n j : Nat} {f : Nat → va_W} (h : j < n) : (fam n f)[j]? = some (f j) := by
  simp [fam, h]
theorem fam_up {T : Type} {B : Nat → T → va_W} {P : Nat → T} {n j : Nat} {g : T} : (fam n (fun i => B i (P i))).set j (B j g) = fam n (fun i => B i (va_up P j g i)) := by
  apply List.ext_getElem?
  intro i
  by_cases hi : i < n
  · rw [fam_at hi]
    by_cases hij : j = i
    · subst hij
      rw [List.getElem?_set_self (by rw [fam_len]; exact hi)]
      simp [va_up]
    · rw [List.getElem?_set_ne hij, fam_at hi]
      have : ¬ i = j := fun e => hij e.symm
      simp [va_up, this]
  · rw [List.getElem?_eq_none (by rw [List.length_set, fam_len]; omega), List.getElem?_eq_none (by rw [fam_len]; omega)]
theorem app_at {l r : List va_W} {L i : Nat} (h : l.length = L) : (l ++ r)[L + i]? = r[i]? := by
  subst h
  rw [List.getElem?_append_right (Nat.le_add_right _ _), Nat.add_sub_cancel_left]
theorem app_set {l r : List va_W} {L i : Nat} {c : va_W} (h : l.length = L) : (l ++ r).set (L + i) c = l ++ r.set i c := by
  subst h
  rw [List.set_append_right _ _ (Nat.le_add_right _ _), Nat.add_sub_cancel_left]
section FQ
variable {T : Type} {B : Nat → T → va_W} {P : Nat → T} {l r : List va_W} {n n0 n1 n2 L j : Nat} {g : T} {F0 F1 F2 : Nat → va_W}
theorem fq0 (hl : l.length = L) (hj : j < n) : (l ++ (fam n (fun i => B i (P i)) ++ r))[L + j]? = some (B j (P j)) := by
  rw [app_at hl, List.getElem?_append_left (by rw [fam_len]; exact hj), fam_at hj]
theorem fs0 (hl : l.length = L) (hj : j < n) : (l ++ (fam n (fun i => B i (P i)) ++ r)).set (L + j) (B j g) = l ++ (fam n (fun i => B i (va_up P j g i)) ++ r) := by
  rw [app_set hl, List.set_append_left _ _ (by rw [fam_len]; exact hj), fam_up]
theorem fq1 (hl : l.length + n0 = L) (hj : j < n) : (l ++ (fam n0 F0 ++ (fam n (fun i => B i (P i)) ++ r)))[L + j]? = some (B j (P j)) := by
  rw [← List.append_assoc]
  exact fq0 (by rw [List.length_append, fam_len]; exact hl) hj
theorem fs1 (hl : l.length + n0 = L) (hj : j < n) : (l ++ (fam n0 F0 ++ (fam n (fun i => B i (P i)) ++ r))).set (L + j) (B j g) = l ++ (fam n0 F0 ++ (fam n (fun i => B i (va_up P j g i)) ++ r)) := by
  rw [← List.append_assoc, fs0 (by rw [List.length_append, fam_len]; exact hl) hj, List.append_assoc]
theorem fq2 (hl : l.length + n0 + n1 = L) (hj : j < n) : (l ++ (fam n0 F0 ++ (fam n1 F1 ++ (fam n (fun i => B i (P i)) ++ r))))[L + j]? = some (B j (P j)) := by
  rw [← List.append_assoc]
  exact fq1 (by rw [List.length_append, fam_len]; exact hl) hj
theorem fs2 (hl : l.length + n0 + n1 = L) (hj : j < n) : (l ++ (fam n0 F0 ++ (fam n1 F1 ++ (fam n (fun i => B i (P i)) ++ r)))).set (L + j) (B j g) = l ++ (fam n0 F0 ++ (fam n1 F1 ++ (fam n (fun i => B i (va_up P j g i)) ++ r))) := by
  rw [← List.append_assoc, fs1 (by rw [List.length_append, fam_len]; exact hl) hj, List.append_assoc]
theorem fq3 (hl : l.length + n0 + n1 + n2 = L) (hj : j < n) : (l ++ (fam n0 F0 ++ (fam n1 F1 ++ (fam n2 F2 ++ (fam n (fun i => B i (P i)) ++ r)))))[L + j]? = some (B j (P j)) := by
  rw [← List.append_assoc]
  exact fq2 (by rw [List.length_append, fam_len]; exact hl) hj
theorem fs3 (hl : l.length + n0 + n1 + n2 = L) (hj : j < n) : (l ++ (fam n0 F0 ++ (fam n1 F1 ++ (fam n2 F2 ++ (fam n (fun i => B i (P i)) ++ r))))).set (L + j) (B j g) = l ++ (fam n0 F0 ++ (fam n1 F1 ++ (fam n2 F2 ++ (fam n (fun i => B i (va_up P j g i)) ++ r)))) := by
  rw [← List.append_assoc, fs2 (by rw [List.length_append, fam_len]; exact hl) hj, List.append_assoc]
end FQ
theorem map_n {bs : List va_W} : ([] : List Nat).map (fun i => bs[i]?) = ([] : List va_W).map some := rfl
theorem map_s {bs cs : List va_W} {is : List Nat} {i : Nat} {c : va_W} (h : bs[i]? = some c) (k : is.map (fun i => bs[i]?) = cs.map some) : (i :: is).map (fun i => bs[i]?) = (c :: cs).map some := by
  rw [List.map_cons, List.map_cons, h, k]
theorem stm_n {bs : List va_W} : stm bs [] [] = bs := rfl
theorem stm_s {bs bs1 bs2 cs : List va_W} {is : List Nat} {i : Nat} {c : va_W} (h : bs.set i c = bs1) (k : stm bs1 is cs = bs2) : stm bs (i :: is) (c :: cs) = bs2 := by
  show stm (bs.set i c) is cs = bs2
  rw [h]
  exact k
theorem inb_lt {i : Int32} {n : Nat} (h : inb i n = true) : i.toNatClampNeg < n := by
  simp only [inb, Bool.and_eq_true, decide_eq_true_eq] at h
  exact h.2
def mt {β : Type} (o : Option Nat) (a : β) (f : Nat → β) : β := match o with
  | none => a
  | some j => f j
theorem mt_n {β : Type} {a : Option β} {f : Nat → Option β} {q : β} (h : mt none a f = some q) : a = some q := h
theorem mt_s {β : Type} {j : Nat} {a : Option β} {f : Nat → Option β} {q : β} (h : mt (some j) a f = some q) : f j = some q := h
theorem r_astore_nN {l : Launch} {D : va_G} {Z : (Nat → Nat) × (Nat → Nat)} {tys : List (ClassId × FieldType)} {M : rx_M} {pc : Nat} {lv lv' : List (Nat × Value)} {st : List Value} {ws ws' : va_W} {v : Option Value} {i : Fin 4} (hdg : decode M.2.2.1 pc = .ok (.astore_n i, 1)) (hn : (i : Nat) < M.2.2.2.1) (hl0 : ((i : Nat), Value.null) :: lv.filter (fun q => !(q.1 == (i : Nat)) && !(q.1 + 1 == (i : Nat) && q.2.category == 2)) = lv') (k : rW l D Z tys M (pc + 1) lv' st ws ws' v) : rW l D Z tys M pc lv (.null :: st) ws ws' v :=
  fun p e s m args below meth c A C H locs ls hP hD hS hl => lv_astore_nN C.1 C.2.1 hdg rfl hl hn hl0 (fun ls hl => k p e s m args below meth c A C H locs ls hP hD hS hl)
theorem r_astoreN {l : Launch} {D : va_G} {Z : (Nat → Nat) × (Nat → Nat)} {tys : List (ClassId × FieldType)} {M : rx_M} {pc : Nat} {lv lv' : List (Nat × Value)} {st : List Value} {ws ws' : va_W} {v : Option Value} {i : Nat} (hdg : decode M.2.2.1 pc = .ok (.astore i, 2)) (hn : i < M.2.2.2.1) (hl0 : (i, Value.null) :: lv.filter (fun q => !(q.1 == i) && !(q.1 + 1 == i && q.2.category == 2)) = lv') (k : rW l D Z tys M (pc + 2) lv' st ws ws' v) : rW l D Z tys M pc lv (.null :: st) ws ws' v :=
  fun p e s m args below meth c A C H locs ls hP hD hS hl => lv_astoreN C.1 C.2.1 hdg hl hn hl0 (fun ls hl => k p e s m args below meth c A C H locs ls hP hD hS hl)
theorem map_app {bs cs cs2 : List va_W} {is is2 : List Nat} (h1 : is.map (fun i => bs[i]?) = cs.map some) (h2 : is2.map (fun i => bs[i]?) = cs2.map some) : (is ++ is2).map (fun i => bs[i]?) = (cs ++ cs2).map some := by
  rw [List.map_append, List.map_append, h1, h2]
theorem stm_a {bs bs1 bs2 : List va_W} : ∀ {is : List Nat} {cs : List va_W} {is2 : List Nat} {cs2 : List va_W}, is.length = cs.length → stm bs is cs = bs1 → stm bs1 is2 cs2 = bs2 → stm bs (is ++ is2) (cs ++ cs2) = bs2 := by
  intro is
  induction is generalizing bs with
  | nil =>
    intro cs is2 cs2 hl h k
    have e : cs = [] := List.eq_nil_of_length_eq_zero hl.symm
    subst e
    have h' : bs = bs1 := h
    subst h'
    exact k
  | cons i is ih =>
    intro cs is2 cs2 hl h k
    cases cs with
    | nil => cases hl
    | cons c cs => exact ih (bs := bs.set i c) (Nat.succ.inj hl) h k
section FF
variable {l r : List va_W} {n n0 n1 n2 L : Nat} {F F' F0 F1 F2 : Nat → va_W}
theorem map_f0 (hl : l.length = L) : (List.range' L n).map (fun i => (l ++ (fam n F ++ r))[i]?) = (fam n F).map some := by
  apply List.ext_getElem?
  intro j
  by_cases hj : j < n
  · rw [List.getElem?_map, List.getElem?_map, fam_at hj, List.getElem?_range' hj]
    simp only [Option.map_some, Nat.one_mul]
    rw [app_at hl, List.getElem?_append_left (by rw [fam_len]; exact hj), fam_at hj]
  · rw [List.getElem?_eq_none (by rw [List.length_map, List.length_range']; omega), List.getElem?_eq_none (by rw [List.length_map, fam_len]; omega)]
theorem map_f1 (hl : l.length + n0 = L) : (List.range' L n).map (fun i => (l ++ (fam n0 F0 ++ (fam n F ++ r)))[i]?) = (fam n F).map some := by
  rw [← List.append_assoc]
  exact map_f0 (by rw [List.length_append, fam_len]; exact hl)
theorem stm_at {bs cs : List va_W} : ∀ {is : List Nat}, is.Nodup → is.length = cs.length → (∀ i ∈ is, i < bs.length) → ∀ k : Nat, (∀ (q i : Nat), is[q]? = some i → i = k → (stm bs is cs)[k]? = cs[q]?) ∧ (k ∉ is → (stm bs is cs)[k]? = bs[k]?) := by
  intro is
  induction is generalizing bs cs with
  | nil =>
    intro _ hl _ k
    have e : cs = [] := List.eq_nil_of_length_eq_zero hl.symm
    subst e
    exact ⟨fun q i h => by simp at h, fun _ => rfl⟩
  | cons i is ih =>
    intro hn hl hb k
    cases cs with
    | nil => cases hl
    | cons c cs =>
      have hn' := List.nodup_cons.mp hn
      have h := ih (bs := bs.set i c) (cs := cs) hn'.2 (Nat.succ.inj hl) (fun j hj => by rw [List.length_set]; exact hb j (List.mem_cons_of_mem _ hj)) k
      refine ⟨fun q i' hq e => ?_, fun hk => ?_⟩
      · subst e
        cases q with
        | zero =>
          rw [List.getElem?_cons_zero] at hq
          cases hq
          show (stm (bs.set i c) is cs)[i]? = _
          rw [h.2 hn'.1, List.getElem?_set_self (hb i List.mem_cons_self), List.getElem?_cons_zero]
        | succ q =>
          rw [List.getElem?_cons_succ] at hq
          show (stm (bs.set i c) is cs)[i']? = _
          rw [h.1 q i' hq rfl, List.getElem?_cons_succ]
      · show (stm (bs.set i c) is cs)[k]? = _
        rw [h.2 (fun z => hk (List.mem_cons_of_mem _ z)), List.getElem?_set_ne (fun e => hk (by rw [e]; exact List.mem_cons_self))]
theorem stm_f0 (hl : l.length = L) : stm (l ++ (fam n F ++ r)) (List.range' L n) (fam n F') = l ++ (fam n F' ++ r) := by
  subst hl
  apply List.ext_getElem?
  intro k
  have h := stm_at (bs := l ++ (fam n F ++ r)) (cs := fam n F') (is := List.range' l.length n) List.nodup_range' (by rw [List.length_range', fam_len]) (fun i hi => by
    have := List.mem_range'_1.mp hi
    rw [List.length_append, List.length_append, fam_len]
    omega) k
  by_cases h1 : k < l.length
  · rw [h.2 (fun z => by have := List.mem_range'_1.mp z; omega), List.getElem?_append_left h1, List.getElem?_append_left h1]
  · by_cases h2 : k < l.length + n
    · have e := h.1 (k - l.length) k (by rw [List.getElem?_range' (by omega)]; congr 1; omega) rfl
      rw [e, List.getElem?_append_right (by omega), List.getElem?_append_left (by rw [fam_len]; omega)]
    · have a : ∀ X : Nat → va_W, (l ++ (fam n X ++ r))[k]? = r[k - l.length - n]? := fun X => by
        rw [List.getElem?_append_right (by omega), List.getElem?_append_right (by rw [fam_len]; omega), fam_len]
      rw [h.2 (fun z => by have := List.mem_range'_1.mp z; omega), a F, a F']
theorem stm_f1 (hl : l.length + n0 = L) : stm (l ++ (fam n0 F0 ++ (fam n F ++ r))) (List.range' L n) (fam n F') = l ++ (fam n0 F0 ++ (fam n F' ++ r)) := by
  rw [← List.append_assoc, stm_f0 (by rw [List.length_append, fam_len]; exact hl), List.append_assoc]
end FF
