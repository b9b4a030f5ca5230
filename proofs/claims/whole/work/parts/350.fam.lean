/-! families of blocks: objects in rows of references -/
def fam (n : Nat) (f : Nat → va_W) : List va_W := (List.range n).map f
theorem fam_len (n : Nat) (f : Nat → va_W) : (fam n f).length = n := by simp [fam]
theorem fam_at {n j : Nat} {f : Nat → va_W} (h : j < n) : (fam n f)[j]? = some (f j) := by
  simp [fam, h]
theorem fam_up {T : Type} {B : Nat → T → va_W} {P : Nat → T} {n j : Nat} {g : T} : (fam n (fun i => B i (P i))).set j (B j g) = fam n (fun i => B i (va_up P j g i)) := by
  apply List.ext_getElem?
  intro i
  by_cases hi : i < n
  · rw [fam_at hi]
    by_cases hij : j = i
    · subst hij
      rw [List.getElem?_set_self (by rw [fam_len]; exact hi)]
      simp [va_up]
    · rw [List.getElem?_set_ne hij, fam_at hi]
      have : ¬ i = j := fun e => hij e.symm
      simp [va_up, this]
  · rw [List.getElem?_eq_none (by rw [List.length_set, fam_len]; omega), List.getElem?_eq_none (by rw [fam_len]; omega)]
theorem app_at {l r : List va_W} {L i : Nat} (h : l.length = L) : (l ++ r)[L + i]? = r[i]? := by
  subst h
  rw [List.getElem?_append_right (Nat.le_add_right _ _), Nat.add_sub_cancel_left]
theorem app_set {l r : List va_W} {L i : Nat} {c : va_W} (h : l.length = L) : (l ++ r).set (L + i) c = l ++ r.set i c := by
  subst h
  rw [List.set_append_right _ _ (Nat.le_add_right _ _), Nat.add_sub_cancel_left]
section FQ
variable {T : Type} {B : Nat → T → va_W} {P : Nat → T} {l r : List va_W} {n n0 n1 n2 L j : Nat} {g : T} {F0 F1 F2 : Nat → va_W}
theorem fq0 (hl : l.length = L) (hj : j < n) : (l ++ (fam n (fun i => B i (P i)) ++ r))[L + j]? = some (B j (P j)) := by
  rw [app_at hl, List.getElem?_append_left (by rw [fam_len]; exact hj), fam_at hj]
theorem fs0 (hl : l.length = L) (hj : j < n) : (l ++ (fam n (fun i => B i (P i)) ++ r)).set (L + j) (B j g) = l ++ (fam n (fun i => B i (va_up P j g i)) ++ r) := by
  rw [app_set hl, List.set_append_left _ _ (by rw [fam_len]; exact hj), fam_up]
theorem fq1 (hl : l.length + n0 = L) (hj : j < n) : (l ++ (fam n0 F0 ++ (fam n (fun i => B i (P i)) ++ r)))[L + j]? = some (B j (P j)) := by
  rw [← List.append_assoc]
  exact fq0 (by rw [List.length_append, fam_len]; exact hl) hj
theorem fs1 (hl : l.length + n0 = L) (hj : j < n) : (l ++ (fam n0 F0 ++ (fam n (fun i => B i (P i)) ++ r))).set (L + j) (B j g) = l ++ (fam n0 F0 ++ (fam n (fun i => B i (va_up P j g i)) ++ r)) := by
  rw [← List.append_assoc, fs0 (by rw [List.length_append, fam_len]; exact hl) hj, List.append_assoc]
theorem fq2 (hl : l.length + n0 + n1 = L) (hj : j < n) : (l ++ (fam n0 F0 ++ (fam n1 F1 ++ (fam n (fun i => B i (P i)) ++ r))))[L + j]? = some (B j (P j)) := by
  rw [← List.append_assoc]
  exact fq1 (by rw [List.length_append, fam_len]; exact hl) hj
theorem fs2 (hl : l.length + n0 + n1 = L) (hj : j < n) : (l ++ (fam n0 F0 ++ (fam n1 F1 ++ (fam n (fun i => B i (P i)) ++ r)))).set (L + j) (B j g) = l ++ (fam n0 F0 ++ (fam n1 F1 ++ (fam n (fun i => B i (va_up P j g i)) ++ r))) := by
  rw [← List.append_assoc, fs1 (by rw [List.length_append, fam_len]; exact hl) hj, List.append_assoc]
theorem fq3 (hl : l.length + n0 + n1 + n2 = L) (hj : j < n) : (l ++ (fam n0 F0 ++ (fam n1 F1 ++ (fam n2 F2 ++ (fam n (fun i => B i (P i)) ++ r)))))[L + j]? = some (B j (P j)) := by
  rw [← List.append_assoc]
  exact fq2 (by rw [List.length_append, fam_len]; exact hl) hj
theorem fs3 (hl : l.length + n0 + n1 + n2 = L) (hj : j < n) : (l ++ (fam n0 F0 ++ (fam n1 F1 ++ (fam n2 F2 ++ (fam n (fun i => B i (P i)) ++ r))))).set (L + j) (B j g) = l ++ (fam n0 F0 ++ (fam n1 F1 ++ (fam n2 F2 ++ (fam n (fun i => B i (va_up P j g i)) ++ r)))) := by
  rw [← List.append_assoc, fs2 (by rw [List.length_append, fam_len]; exact hl) hj, List.append_assoc]
end FQ
theorem map_n {bs : List va_W} : ([] : List Nat).map (fun i => bs[i]?) = ([] : List va_W).map some := rfl
theorem map_s {bs cs : List va_W} {is : List Nat} {i : Nat} {c : va_W} (h : bs[i]? = some c) (k : is.map (fun i => bs[i]?) = cs.map some) : (i :: is).map (fun i => bs[i]?) = (c :: cs).map some := by
  rw [List.map_cons, List.map_cons, h, k]
theorem stm_n {bs : List va_W} : stm bs [] [] = bs := rfl
theorem stm_s {bs bs1 bs2 cs : List va_W} {is : List Nat} {i : Nat} {c : va_W} (h : bs.set i c = bs1) (k : stm bs1 is cs = bs2) : stm bs (i :: is) (c :: cs) = bs2 := by
  show stm (bs.set i c) is cs = bs2
  rw [h]
  exact k
theorem inb_lt {i : Int32} {n : Nat} (h : inb i n = true) : i.toNatClampNeg < n := by
  simp only [inb, Bool.and_eq_true, decide_eq_true_eq] at h
  exact h.2
def mt {β : Type} (o : Option Nat) (a : β) (f : Nat → β) : β := match o with
  | none => a
  | some j => f j
theorem mt_n {β : Type} {a : Option β} {f : Nat → Option β} {q : β} (h : mt none a f = some q) : a = some q := h
theorem mt_s {β : Type} {j : Nat} {a : Option β} {f : Nat → Option β} {q : β} (h : mt (some j) a f = some q) : f j = some q := h
