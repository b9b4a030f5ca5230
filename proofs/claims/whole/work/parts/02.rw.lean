/-! A light judgement over W: a method's world is ws, its answer v and its last world ws' are known beforehand. -/
/-- own class, name, code, locals, answer's type, rank (height in the call graph; room grows with it) -/
abbrev rx_M : Type := String × MethodName × ByteArray × Nat × Option FieldType × Nat
def rr (k : Nat) : Room := { frames := k, cells := 0, slots := 0, locals := 60 * k }
def rTs (M : rx_M) : List Cond := Cond.code M.2.1 M.2.2.1 M.2.2.2.1 M.2.2.2.2.1 :: TB
/-- what the tables say of nest mates, what the heap holds of String constants and of two statics: all outside of A -/
def rX (Z : (Nat → Nat) × (Nat → Nat)) (A : Nat → Prop) (U : State) (H : Heap) : Prop :=
  (∀ q ∈ NBf, va_Nw (.fieldLinkNest q.1 q.2.1 q.2.2.1 q.2.2.2.1 q.2.2.2.2.1 q.2.2.2.2.2) U) ∧ (∀ q ∈ NBm, va_Nw (.methodLinkNest q.1 q.2.1 q.2.2.1 q.2.2.2) U) ∧ vk_S nJS lenJS bytJS Z.1 Z.2 A U H ∧ va_Z "java/lang/String" "COMPACT_STRINGS" "Z" (.int 1) A U H ∧ va_Zq "jdk/internal/util/Preconditions" "SIOOBE_FORMATTER" "Ljava/util/function/BiFunction;" A U H ∧ ∀ q ∈ SRs, vk_R q.1 q.2.1 q.2.2.1 (Z.1 q.2.2.2) U
theorem rX.same {Z : (Nat → Nat) × (Nat → Nat)} {A : Nat → Prop} {U V : State} (h : rX Z A U U.heap) (hv : V.vm = U.vm) (hh : V.heap = U.heap) : rX Z A V V.heap := by
  obtain ⟨h1, h2, h3, h4, h5, h6⟩ := h
  have ha : U.vm.Alike V.vm := by rw [hv]; exact Vm.Alike.refl U.vm
  rw [hh]
  exact ⟨fun q hq => va_Nw.same rfl hv.symm (h1 q hq), fun q hq => va_Nw.same rfl hv.symm (h2 q hq), h3.moved ha, h4.moved ha, h5.moved ha, fun q hq => vk_R.same hv (h6 q hq)⟩
theorem rX.call {Z : (Nat → Nat) × (Nat → Nat)} {A B : Nat → Prop} {s U : State} {H : Heap} (h : rX Z A s s.heap) (hW : s.WarmedH U.vm) (hU : U.heap = H) (hS : ∀ q : Nat, q < s.heap.size → ¬ A q → H[q]? = s.heap[q]?) (hAB : ∀ q, B q → A q) : rX Z B U U.heap := by
  obtain ⟨h1, h2, h3, h4, h5, h6⟩ := h
  rw [hU]
  exact ⟨fun q hq => va_Nw.warmF hW (h1 q hq), fun q hq => va_Nw.warmM hW (h2 q hq), ((h3.moved hW.alike).kept hS).narrow hAB, ((h4.moved hW.alike).kept hS).narrow hAB, ((h5.moved hW.alike).kept hS).narrow hAB, fun q hq => vk_R.warm hW (h6 q hq)⟩
def rC (D : va_G) (Z : (Nat → Nat) × (Nat → Nat)) (tys : List (ClassId × FieldType)) (M : rx_M) (p : Program) (s : State) (m : MethodId) (args : Array Value) (meth : Method) (c : Code) (A : Nat → Prop) : Prop :=
  p.tables.exec = Jvm.exec ∧ c.code = M.2.2.1 ∧ meth.sig.returnType = M.2.2.2.2.1 ∧ c.maxLocals = M.2.2.2.1 ∧ s.vm.findClass M.1 = some m.cls ∧ (∀ w ∈ rTs M, w.before args s = true) ∧ meth.locks = false ∧ va_K D vwCl tys s ∧ (∀ q, s.heap.size ≤ q → A q) ∧ rX Z A s s.heap
def rQ (D : va_G) (tys : List (ClassId × FieldType)) (ws' : va_W) (v : Option Value) (A : Nat → Prop) : Array Value → State → Outcome → State → Prop := fun _ st oc t =>
  (oc = .returned v ∧ va_P D vwCl ws' t.heap ∧ va_K D vwCl tys t ∧ va_D A ws') ∧ va_F A st t
def rW (l : Launch) (D : va_G) (Z : (Nat → Nat) × (Nat → Nat)) (tys : List (ClassId × FieldType)) (M : rx_M) (pc : Nat) (lv : List (Nat × Value)) (st : List Value) (ws ws' : va_W) (v : Option Value) : Prop :=
  ∀ (p : Program) (e : Env) (s : State) (m : MethodId) (args : Array Value) (below : List Frame) (meth : Method) (c : Code) (A : Nat → Prop), rC D Z tys M p s m args meth c A →
    ∀ (H : Heap) (locs : List Loc) (ls : Array Slot), va_P D vwCl ws H → va_D A ws → va_S A s.heap H locs → lv_has ls M.2.2.2.1 lv →
      W p l e (rr M.2.2.2.2.2) s m args below meth c H locs 0 0 (MQ below (rQ D tys ws' v A) args s 0 0 A) (F0 m pc ls st)
def rMet (l : Launch) (D : va_G) (Z : (Nat → Nat) × (Nat → Nat)) (tys : List (ClassId × FieldType)) (M : rx_M) (av : List Value) (ws ws' : va_W) (v : Option Value) : Prop :=
  ∀ sz : Nat, Met l M.2.1 (rTs M) (rr M.2.2.2.2.2) (va_Pc av (fun U => U.heap.size = sz ∧ va_P D vwCl ws U.heap ∧ va_K D vwCl tys U ∧ va_D (fun _ => True) ws ∧ rX Z (va_A ws sz) U U.heap)) (rQ D tys ws' v (va_A ws sz)) 0 0 (va_A ws sz)
section RW
variable {l : Launch} {D : va_G} {Z : (Nat → Nat) × (Nat → Nat)} {tys : List (ClassId × FieldType)} {M : rx_M} {pc : Nat} {lv lv' : List (Nat × Value)} {st : List Value} {ws ws' ws1 : va_W} {v : Option Value}
/-- the contract out of the walk -/
theorem rMet.of {av : List Value} (hy : plainName M.2.1.cls = true) (hown : M.1 = M.2.1.cls) (hn : (lg_sl av).length ≤ M.2.2.2.1) (k : rW l D Z tys M 0 (lv_args 0 av) [] ws ws' v) : rMet l D Z tys M av ws ws' v := by
  intro sz
  refine Met.ofW (cc := M.2.2.1) (maxL := M.2.2.2.1) (ret := M.2.2.2.2.1) hy rfl ?_
  intro p e s m args below meth c s₁ B hml hv
  obtain ⟨rfl, hsz, hP, hK, hD0, hX0⟩ := hv
  subst hsz
  have hts := atoms_spec (ws := rTs M) B.pre
  have hown' : s.vm.findClass M.1 = some m.cls := by rw [hown]; exact findClass_of_methodNamed B.named
  rw [lg_entry_eq]
  exact k p e s m _ below meth c _ ⟨B.exec, B.bytes, B.returns, hml, hown', hts, B.notSynchronized, hK, fun q h => Or.inr h, hX0⟩ s.heap [] _ hP (hD0.self (sz := s.heap.size)) va_S.rf (lv_entry av hn)
theorem r_sub (ks : List Nat) (hl : lv_pick lv ks = lv') (k : rW l D Z tys M pc lv' st ws ws' v) : rW l D Z tys M pc lv st ws ws' v :=
  fun p e s m args below meth c A C H locs ls hP hD hS hl0 => k p e s m args below meth c A C H locs ls hP hD hS (lv_sub hl0 ks hl)
theorem r_iconst {n : Int} {x : Int32} (hdg : decode M.2.2.1 pc = .ok (.iconst n, 1)) (hv : Int32.ofInt n = x) (k : rW l D Z tys M (pc + 1) lv (.int x :: st) ws ws' v) : rW l D Z tys M pc lv st ws ws' v :=
  fun p e s m args below meth c A C H locs ls hP hD hS hl => lv_iconst C.1 C.2.1 hdg hv (k p e s m args below meth c A C H locs ls hP hD hS hl)
theorem r_bipush {n : Int} {x : Int32} (hdg : decode M.2.2.1 pc = .ok (.bipush n, 2)) (hv : (Int8.ofInt n).toInt32 = x) (k : rW l D Z tys M (pc + 2) lv (.int x :: st) ws ws' v) : rW l D Z tys M pc lv st ws ws' v :=
  fun p e s m args below meth c A C H locs ls hP hD hS hl => lv_bipush C.1 C.2.1 hdg hv (k p e s m args below meth c A C H locs ls hP hD hS hl)
theorem r_sipush {n : Int} {x : Int32} (hdg : decode M.2.2.1 pc = .ok (.sipush n, 3)) (hv : (Int16.ofInt n).toInt32 = x) (k : rW l D Z tys M (pc + 3) lv (.int x :: st) ws ws' v) : rW l D Z tys M pc lv st ws ws' v :=
  fun p e s m args below meth c A C H locs ls hP hD hS hl => lv_sipush C.1 C.2.1 hdg hv (k p e s m args below meth c A C H locs ls hP hD hS hl)
theorem r_lconst {n : Fin 2} {x : Int64} (hdg : decode M.2.2.1 pc = .ok (.lconst n, 1)) (hv : Int64.ofNat (n : Nat) = x) (k : rW l D Z tys M (pc + 1) lv (.long x :: st) ws ws' v) : rW l D Z tys M pc lv st ws ws' v :=
  fun p e s m args below meth c A C H locs ls hP hD hS hl => lv_lconst C.1 C.2.1 hdg hv (k p e s m args below meth c A C H locs ls hP hD hS hl)
theorem r_ldc {index : Nat} {x : Int32} (hw : Cond.constant M.1 index x ∈ TB) (hdg : decode M.2.2.1 pc = .ok (.ldc index, 2)) (k : rW l D Z tys M (pc + 2) lv (.int x :: st) ws ws' v) : rW l D Z tys M pc lv st ws ws' v :=
  fun p e s m args below meth c A C H locs ls hP hD hS hl => lv_ldc C.1 C.2.1 C.2.2.2.2.1 (C.2.2.2.2.2.1 _ (List.mem_cons_of_mem _ hw)) hdg (k p e s m args below meth c A C H locs ls hP hD hS hl)
theorem r_ldc2 {index : Nat} {x : Int64} (hw : Cond.constantLong M.1 index x ∈ TB) (hdg : decode M.2.2.1 pc = .ok (.ldc2_w index, 3)) (k : rW l D Z tys M (pc + 3) lv (.long x :: st) ws ws' v) : rW l D Z tys M pc lv st ws ws' v :=
  fun p e s m args below meth c A C H locs ls hP hD hS hl => lv_ldc2 C.1 C.2.1 C.2.2.2.2.1 (C.2.2.2.2.2.1 _ (List.mem_cons_of_mem _ hw)) hdg (k p e s m args below meth c A C H locs ls hP hD hS hl)
theorem r_iload_n (q : Nat) {i : Fin 4} {x : Int32} (hdg : decode M.2.2.1 pc = .ok (.iload_n i, 1)) (hl0 : lv[q]? = some ((i : Nat), .int x)) (k : rW l D Z tys M (pc + 1) lv (.int x :: st) ws ws' v) : rW l D Z tys M pc lv st ws ws' v :=
  fun p e s m args below meth c A C H locs ls hP hD hS hl => lv_iload_n C.1 C.2.1 hdg rfl (lv_at hl q hl0) (k p e s m args below meth c A C H locs ls hP hD hS hl)
theorem r_iload (q : Nat) {i : Nat} {x : Int32} (hdg : decode M.2.2.1 pc = .ok (.iload i, 2)) (hl0 : lv[q]? = some (i, .int x)) (k : rW l D Z tys M (pc + 2) lv (.int x :: st) ws ws' v) : rW l D Z tys M pc lv st ws ws' v :=
  fun p e s m args below meth c A C H locs ls hP hD hS hl => lv_iload C.1 C.2.1 hdg (lv_at hl q hl0) (k p e s m args below meth c A C H locs ls hP hD hS hl)
theorem r_lload_n (q : Nat) {i : Fin 4} {x : Int64} (hdg : decode M.2.2.1 pc = .ok (.lload_n i, 1)) (hl0 : lv[q]? = some ((i : Nat), .long x)) (k : rW l D Z tys M (pc + 1) lv (.long x :: st) ws ws' v) : rW l D Z tys M pc lv st ws ws' v :=
  fun p e s m args below meth c A C H locs ls hP hD hS hl => lv_lload_n C.1 C.2.1 hdg rfl (lv_at hl q hl0) (k p e s m args below meth c A C H locs ls hP hD hS hl)
theorem r_lload (q : Nat) {i : Nat} {x : Int64} (hdg : decode M.2.2.1 pc = .ok (.lload i, 2)) (hl0 : lv[q]? = some (i, .long x)) (k : rW l D Z tys M (pc + 2) lv (.long x :: st) ws ws' v) : rW l D Z tys M pc lv st ws ws' v :=
  fun p e s m args below meth c A C H locs ls hP hD hS hl => lv_lload C.1 C.2.1 hdg (lv_at hl q hl0) (k p e s m args below meth c A C H locs ls hP hD hS hl)
theorem r_aload_n (q : Nat) {i : Fin 4} {x : Nat} (hdg : decode M.2.2.1 pc = .ok (.aload_n i, 1)) (hl0 : lv[q]? = some ((i : Nat), .ref x)) (k : rW l D Z tys M (pc + 1) lv (.ref x :: st) ws ws' v) : rW l D Z tys M pc lv st ws ws' v :=
  fun p e s m args below meth c A C H locs ls hP hD hS hl => lv_aload_n C.1 C.2.1 hdg rfl (lv_at hl q hl0) (k p e s m args below meth c A C H locs ls hP hD hS hl)
theorem r_aload (q : Nat) {i : Nat} {x : Nat} (hdg : decode M.2.2.1 pc = .ok (.aload i, 2)) (hl0 : lv[q]? = some (i, .ref x)) (k : rW l D Z tys M (pc + 2) lv (.ref x :: st) ws ws' v) : rW l D Z tys M pc lv st ws ws' v :=
  fun p e s m args below meth c A C H locs ls hP hD hS hl => lv_aload C.1 C.2.1 hdg (lv_at hl q hl0) (k p e s m args below meth c A C H locs ls hP hD hS hl)
theorem r_istore_n {i : Fin 4} {x : Int32} (hdg : decode M.2.2.1 pc = .ok (.istore_n i, 1)) (hn : (i : Nat) < M.2.2.2.1) (hl0 : ((i : Nat), Value.int x) :: lv.filter (fun q => !(q.1 == (i : Nat)) && !(q.1 + 1 == (i : Nat) && q.2.category == 2)) = lv') (k : rW l D Z tys M (pc + 1) lv' st ws ws' v) : rW l D Z tys M pc lv (.int x :: st) ws ws' v :=
  fun p e s m args below meth c A C H locs ls hP hD hS hl => lv_istore_n C.1 C.2.1 hdg rfl hl hn hl0 (fun ls hl => k p e s m args below meth c A C H locs ls hP hD hS hl)
theorem r_istore {i : Nat} {x : Int32} (hdg : decode M.2.2.1 pc = .ok (.istore i, 2)) (hn : i < M.2.2.2.1) (hl0 : (i, Value.int x) :: lv.filter (fun q => !(q.1 == i) && !(q.1 + 1 == i && q.2.category == 2)) = lv') (k : rW l D Z tys M (pc + 2) lv' st ws ws' v) : rW l D Z tys M pc lv (.int x :: st) ws ws' v :=
  fun p e s m args below meth c A C H locs ls hP hD hS hl => lv_istore C.1 C.2.1 hdg hl hn hl0 (fun ls hl => k p e s m args below meth c A C H locs ls hP hD hS hl)
theorem r_lstore_n {i : Fin 4} {x : Int64} (hdg : decode M.2.2.1 pc = .ok (.lstore_n i, 1)) (hn : (i : Nat) + 1 < M.2.2.2.1) (hl0 : ((i : Nat), Value.long x) :: lv.filter (fun q => !(q.1 == (i : Nat)) && (!(q.1 == (i : Nat) + 1) && !(q.1 + 1 == (i : Nat) && q.2.category == 2))) = lv') (k : rW l D Z tys M (pc + 1) lv' st ws ws' v) : rW l D Z tys M pc lv (.long x :: st) ws ws' v :=
  fun p e s m args below meth c A C H locs ls hP hD hS hl => lv_lstore_n C.1 C.2.1 hdg rfl hl hn hl0 (fun ls hl => k p e s m args below meth c A C H locs ls hP hD hS hl)
theorem r_lstore {i : Nat} {x : Int64} (hdg : decode M.2.2.1 pc = .ok (.lstore i, 2)) (hn : i + 1 < M.2.2.2.1) (hl0 : (i, Value.long x) :: lv.filter (fun q => !(q.1 == i) && (!(q.1 == i + 1) && !(q.1 + 1 == i && q.2.category == 2))) = lv') (k : rW l D Z tys M (pc + 2) lv' st ws ws' v) : rW l D Z tys M pc lv (.long x :: st) ws ws' v :=
  fun p e s m args below meth c A C H locs ls hP hD hS hl => lv_lstore C.1 C.2.1 hdg hl hn hl0 (fun ls hl => k p e s m args below meth c A C H locs ls hP hD hS hl)
theorem r_astore_n {i : Fin 4} {x : Nat} (hdg : decode M.2.2.1 pc = .ok (.astore_n i, 1)) (hn : (i : Nat) < M.2.2.2.1) (hl0 : ((i : Nat), Value.ref x) :: lv.filter (fun q => !(q.1 == (i : Nat)) && !(q.1 + 1 == (i : Nat) && q.2.category == 2)) = lv') (k : rW l D Z tys M (pc + 1) lv' st ws ws' v) : rW l D Z tys M pc lv (.ref x :: st) ws ws' v :=
  fun p e s m args below meth c A C H locs ls hP hD hS hl => lv_astore_n C.1 C.2.1 hdg rfl hl hn hl0 (fun ls hl => k p e s m args below meth c A C H locs ls hP hD hS hl)
theorem r_astore {i : Nat} {x : Nat} (hdg : decode M.2.2.1 pc = .ok (.astore i, 2)) (hn : i < M.2.2.2.1) (hl0 : (i, Value.ref x) :: lv.filter (fun q => !(q.1 == i) && !(q.1 + 1 == i && q.2.category == 2)) = lv') (k : rW l D Z tys M (pc + 2) lv' st ws ws' v) : rW l D Z tys M pc lv (.ref x :: st) ws ws' v :=
  fun p e s m args below meth c A C H locs ls hP hD hS hl => lv_astore C.1 C.2.1 hdg hl hn hl0 (fun ls hl => k p e s m args below meth c A C H locs ls hP hD hS hl)
theorem r_iinc (q : Nat) {i : Nat} {n : Int} {x y : Int32} (hdg : decode M.2.2.1 pc = .ok (.iinc i n, 3)) (hl1 : lv[q]? = some (i, .int x)) (hv : x + Int32.ofInt n = y) (hn : i < M.2.2.2.1) (hl0 : (i, Value.int y) :: lv.filter (fun q => !(q.1 == i) && !(q.1 + 1 == i && q.2.category == 2)) = lv') (k : rW l D Z tys M (pc + 3) lv' st ws ws' v) : rW l D Z tys M pc lv st ws ws' v :=
  fun p e s m args below meth c A C H locs ls hP hD hS hl => lv_iinc C.1 C.2.1 hdg hl hl1 hv hn hl0 (fun ls hl => k p e s m args below meth c A C H locs ls hP hD hS hl)
theorem r_iadd {x y : Int32} (hdg : decode M.2.2.1 pc = .ok (.iadd, 1)) (k : rW l D Z tys M (pc + 1) lv (.int (x + y) :: st) ws ws' v) : rW l D Z tys M pc lv (.int y :: .int x :: st) ws ws' v :=
  fun p e s m args below meth c A C H locs ls hP hD hS hl => lv_iadd C.1 C.2.1 hdg (k p e s m args below meth c A C H locs ls hP hD hS hl)
theorem r_isub {x y : Int32} (hdg : decode M.2.2.1 pc = .ok (.isub, 1)) (k : rW l D Z tys M (pc + 1) lv (.int (x - y) :: st) ws ws' v) : rW l D Z tys M pc lv (.int y :: .int x :: st) ws ws' v :=
  fun p e s m args below meth c A C H locs ls hP hD hS hl => lv_isub C.1 C.2.1 hdg (k p e s m args below meth c A C H locs ls hP hD hS hl)
theorem r_imul {x y : Int32} (hdg : decode M.2.2.1 pc = .ok (.imul, 1)) (k : rW l D Z tys M (pc + 1) lv (.int (x * y) :: st) ws ws' v) : rW l D Z tys M pc lv (.int y :: .int x :: st) ws ws' v :=
  fun p e s m args below meth c A C H locs ls hP hD hS hl => lv_imul C.1 C.2.1 hdg (k p e s m args below meth c A C H locs ls hP hD hS hl)
theorem r_iand {x y : Int32} (hdg : decode M.2.2.1 pc = .ok (.iand, 1)) (k : rW l D Z tys M (pc + 1) lv (.int (x &&& y) :: st) ws ws' v) : rW l D Z tys M pc lv (.int y :: .int x :: st) ws ws' v :=
  fun p e s m args below meth c A C H locs ls hP hD hS hl => lv_iand C.1 C.2.1 hdg (k p e s m args below meth c A C H locs ls hP hD hS hl)
theorem r_ior {x y : Int32} (hdg : decode M.2.2.1 pc = .ok (.ior, 1)) (k : rW l D Z tys M (pc + 1) lv (.int (x ||| y) :: st) ws ws' v) : rW l D Z tys M pc lv (.int y :: .int x :: st) ws ws' v :=
  fun p e s m args below meth c A C H locs ls hP hD hS hl => lv_ior C.1 C.2.1 hdg (k p e s m args below meth c A C H locs ls hP hD hS hl)
theorem r_ixor {x y : Int32} (hdg : decode M.2.2.1 pc = .ok (.ixor, 1)) (k : rW l D Z tys M (pc + 1) lv (.int (x ^^^ y) :: st) ws ws' v) : rW l D Z tys M pc lv (.int y :: .int x :: st) ws ws' v :=
  fun p e s m args below meth c A C H locs ls hP hD hS hl => lv_ixor C.1 C.2.1 hdg (k p e s m args below meth c A C H locs ls hP hD hS hl)
theorem r_ladd {x y : Int64} (hdg : decode M.2.2.1 pc = .ok (.ladd, 1)) (k : rW l D Z tys M (pc + 1) lv (.long (x + y) :: st) ws ws' v) : rW l D Z tys M pc lv (.long y :: .long x :: st) ws ws' v :=
  fun p e s m args below meth c A C H locs ls hP hD hS hl => lv_ladd C.1 C.2.1 hdg (k p e s m args below meth c A C H locs ls hP hD hS hl)
theorem r_lsub {x y : Int64} (hdg : decode M.2.2.1 pc = .ok (.lsub, 1)) (k : rW l D Z tys M (pc + 1) lv (.long (x - y) :: st) ws ws' v) : rW l D Z tys M pc lv (.long y :: .long x :: st) ws ws' v :=
  fun p e s m args below meth c A C H locs ls hP hD hS hl => lv_lsub C.1 C.2.1 hdg (k p e s m args below meth c A C H locs ls hP hD hS hl)
theorem r_lmul {x y : Int64} (hdg : decode M.2.2.1 pc = .ok (.lmul, 1)) (k : rW l D Z tys M (pc + 1) lv (.long (x * y) :: st) ws ws' v) : rW l D Z tys M pc lv (.long y :: .long x :: st) ws ws' v :=
  fun p e s m args below meth c A C H locs ls hP hD hS hl => lv_lmul C.1 C.2.1 hdg (k p e s m args below meth c A C H locs ls hP hD hS hl)
theorem r_land {x y : Int64} (hdg : decode M.2.2.1 pc = .ok (.land, 1)) (k : rW l D Z tys M (pc + 1) lv (.long (x &&& y) :: st) ws ws' v) : rW l D Z tys M pc lv (.long y :: .long x :: st) ws ws' v :=
  fun p e s m args below meth c A C H locs ls hP hD hS hl => lv_land C.1 C.2.1 hdg (k p e s m args below meth c A C H locs ls hP hD hS hl)
theorem r_lor {x y : Int64} (hdg : decode M.2.2.1 pc = .ok (.lor, 1)) (k : rW l D Z tys M (pc + 1) lv (.long (x ||| y) :: st) ws ws' v) : rW l D Z tys M pc lv (.long y :: .long x :: st) ws ws' v :=
  fun p e s m args below meth c A C H locs ls hP hD hS hl => lv_lor C.1 C.2.1 hdg (k p e s m args below meth c A C H locs ls hP hD hS hl)
theorem r_lxor {x y : Int64} (hdg : decode M.2.2.1 pc = .ok (.lxor, 1)) (k : rW l D Z tys M (pc + 1) lv (.long (x ^^^ y) :: st) ws ws' v) : rW l D Z tys M pc lv (.long y :: .long x :: st) ws ws' v :=
  fun p e s m args below meth c A C H locs ls hP hD hS hl => lv_lxor C.1 C.2.1 hdg (k p e s m args below meth c A C H locs ls hP hD hS hl)
theorem r_ishl {x y : Int32} (hdg : decode M.2.2.1 pc = .ok (.ishl, 1)) (k : rW l D Z tys M (pc + 1) lv (.int (x <<< (y &&& 31)) :: st) ws ws' v) : rW l D Z tys M pc lv (.int y :: .int x :: st) ws ws' v :=
  fun p e s m args below meth c A C H locs ls hP hD hS hl => lv_ishl C.1 C.2.1 hdg (k p e s m args below meth c A C H locs ls hP hD hS hl)
theorem r_ishr {x y : Int32} (hdg : decode M.2.2.1 pc = .ok (.ishr, 1)) (k : rW l D Z tys M (pc + 1) lv (.int (x >>> (y &&& 31)) :: st) ws ws' v) : rW l D Z tys M pc lv (.int y :: .int x :: st) ws ws' v :=
  fun p e s m args below meth c A C H locs ls hP hD hS hl => lv_ishr C.1 C.2.1 hdg (k p e s m args below meth c A C H locs ls hP hD hS hl)
theorem r_lshl {x : Int64} {y : Int32} (hdg : decode M.2.2.1 pc = .ok (.lshl, 1)) (k : rW l D Z tys M (pc + 1) lv (.long (x <<< (y.toInt64 &&& 63)) :: st) ws ws' v) : rW l D Z tys M pc lv (.int y :: .long x :: st) ws ws' v :=
  fun p e s m args below meth c A C H locs ls hP hD hS hl => lv_lshl C.1 C.2.1 hdg rfl (k p e s m args below meth c A C H locs ls hP hD hS hl)
theorem r_idiv {x y : Int32} (hdg : decode M.2.2.1 pc = .ok (.idiv, 1)) (hne : ¬ y = 0) (k : rW l D Z tys M (pc + 1) lv (.int (x / y) :: st) ws ws' v) : rW l D Z tys M pc lv (.int y :: .int x :: st) ws ws' v :=
  fun p e s m args below meth c A C H locs ls hP hD hS hl => lv_idiv C.1 C.2.1 hdg hne (k p e s m args below meth c A C H locs ls hP hD hS hl)
theorem r_irem {x y : Int32} (hdg : decode M.2.2.1 pc = .ok (.irem, 1)) (hne : ¬ y = 0) (k : rW l D Z tys M (pc + 1) lv (.int (x - x / y * y) :: st) ws ws' v) : rW l D Z tys M pc lv (.int y :: .int x :: st) ws ws' v :=
  fun p e s m args below meth c A C H locs ls hP hD hS hl => lv_irem C.1 C.2.1 hdg hne (k p e s m args below meth c A C H locs ls hP hD hS hl)
theorem r_ldiv {x y : Int64} (hdg : decode M.2.2.1 pc = .ok (.ldiv, 1)) (hne : ¬ y = 0) (k : rW l D Z tys M (pc + 1) lv (.long (x / y) :: st) ws ws' v) : rW l D Z tys M pc lv (.long y :: .long x :: st) ws ws' v :=
  fun p e s m args below meth c A C H locs ls hP hD hS hl => lv_ldiv C.1 C.2.1 hdg hne (k p e s m args below meth c A C H locs ls hP hD hS hl)
theorem r_lrem {x y : Int64} (hdg : decode M.2.2.1 pc = .ok (.lrem, 1)) (hne : ¬ y = 0) (k : rW l D Z tys M (pc + 1) lv (.long (x - x / y * y) :: st) ws ws' v) : rW l D Z tys M pc lv (.long y :: .long x :: st) ws ws' v :=
  fun p e s m args below meth c A C H locs ls hP hD hS hl => lv_lrem C.1 C.2.1 hdg hne (k p e s m args below meth c A C H locs ls hP hD hS hl)
theorem r_i2b {x : Int32} (hdg : decode M.2.2.1 pc = .ok (.i2b, 1)) (k : rW l D Z tys M (pc + 1) lv (.int x.toInt8.toInt32 :: st) ws ws' v) : rW l D Z tys M pc lv (.int x :: st) ws ws' v :=
  fun p e s m args below meth c A C H locs ls hP hD hS hl => lv_i2b C.1 C.2.1 hdg rfl (k p e s m args below meth c A C H locs ls hP hD hS hl)
theorem r_i2l {x : Int32} (hdg : decode M.2.2.1 pc = .ok (.i2l, 1)) (k : rW l D Z tys M (pc + 1) lv (.long x.toInt64 :: st) ws ws' v) : rW l D Z tys M pc lv (.int x :: st) ws ws' v :=
  fun p e s m args below meth c A C H locs ls hP hD hS hl => lv_i2l C.1 C.2.1 hdg rfl (k p e s m args below meth c A C H locs ls hP hD hS hl)
theorem r_l2i {x : Int64} (hdg : decode M.2.2.1 pc = .ok (.l2i, 1)) (k : rW l D Z tys M (pc + 1) lv (.int x.toInt32 :: st) ws ws' v) : rW l D Z tys M pc lv (.long x :: st) ws ws' v :=
  fun p e s m args below meth c A C H locs ls hP hD hS hl => lv_l2i C.1 C.2.1 hdg rfl (k p e s m args below meth c A C H locs ls hP hD hS hl)
theorem r_lcmp {x y : Int64} (hdg : decode M.2.2.1 pc = .ok (.lcmp, 1)) (k : rW l D Z tys M (pc + 1) lv (.int (lg_cmp x y) :: st) ws ws' v) : rW l D Z tys M pc lv (.long y :: .long x :: st) ws ws' v :=
  fun p e s m args below meth c A C H locs ls hP hD hS hl => W.lcmp C.1 C.2.1 hdg (k p e s m args below meth c A C H locs ls hP hD hS hl)
theorem r_dup {va : Value} (hdg : decode M.2.2.1 pc = .ok (.dup, 1)) (hva : va.category = 1) (k : rW l D Z tys M (pc + 1) lv (va :: va :: st) ws ws' v) : rW l D Z tys M pc lv (va :: st) ws ws' v :=
  fun p e s m args below meth c A C H locs ls hP hD hS hl => lv_dup C.1 C.2.1 hdg hva (k p e s m args below meth c A C H locs ls hP hD hS hl)
theorem r_dup_x1 {va vb : Value} (hdg : decode M.2.2.1 pc = .ok (.dup_x1, 1)) (hva : va.category = 1) (hvb : vb.category = 1) (k : rW l D Z tys M (pc + 1) lv (va :: vb :: va :: st) ws ws' v) : rW l D Z tys M pc lv (va :: vb :: st) ws ws' v :=
  fun p e s m args below meth c A C H locs ls hP hD hS hl => lv_dup_x1 C.1 C.2.1 hdg hva hvb (k p e s m args below meth c A C H locs ls hP hD hS hl)
theorem r_dup_x2 {va vb vd : Value} (hdg : decode M.2.2.1 pc = .ok (.dup_x2, 1)) (hva : va.category = 1) (hvb : vb.category = 1) (hvd : vd.category = 1) (k : rW l D Z tys M (pc + 1) lv (va :: vb :: vd :: va :: st) ws ws' v) : rW l D Z tys M pc lv (va :: vb :: vd :: st) ws ws' v :=
  fun p e s m args below meth c A C H locs ls hP hD hS hl => lv_dup_x2 C.1 C.2.1 hdg hva hvb hvd (k p e s m args below meth c A C H locs ls hP hD hS hl)
theorem r_dup2 {va vb : Value} (hdg : decode M.2.2.1 pc = .ok (.dup2, 1)) (hva : va.category = 1) (hvb : vb.category = 1) (k : rW l D Z tys M (pc + 1) lv (va :: vb :: va :: vb :: st) ws ws' v) : rW l D Z tys M pc lv (va :: vb :: st) ws ws' v :=
  fun p e s m args below meth c A C H locs ls hP hD hS hl => lv_dup2_11 C.1 C.2.1 hdg hva hvb (k p e s m args below meth c A C H locs ls hP hD hS hl)
theorem r_pop {va : Value} (hdg : decode M.2.2.1 pc = .ok (.pop, 1)) (hva : va.category = 1) (k : rW l D Z tys M (pc + 1) lv st ws ws' v) : rW l D Z tys M pc lv (va :: st) ws ws' v :=
  fun p e s m args below meth c A C H locs ls hP hD hS hl => lv_pop C.1 C.2.1 hdg hva (k p e s m args below meth c A C H locs ls hP hD hS hl)
theorem r_null (hdg : decode M.2.2.1 pc = .ok (.aconst_null, 1)) (k : rW l D Z tys M (pc + 1) lv (.null :: st) ws ws' v) : rW l D Z tys M pc lv st ws ws' v :=
  fun p e s m args below meth c A C H locs ls hP hD hS hl => lv_null C.1 C.2.1 hdg (k p e s m args below meth c A C H locs ls hP hD hS hl)
theorem r_goto {off : Int} (tgt : Nat) (hdg : decode M.2.2.1 pc = .ok (.goto off, 3)) (ht : (pc : Int) + off = (tgt : Int)) (k : rW l D Z tys M tgt lv st ws ws' v) : rW l D Z tys M pc lv st ws ws' v :=
  fun p e s m args below meth c A C H locs ls hP hD hS hl => lv_goto C.1 C.2.1 hdg ht (k p e s m args below meth c A C H locs ls hP hD hS hl)
theorem r_if_eq {x : Int32} {off : Int} (tgt : Nat) (hdg : decode M.2.2.1 pc = .ok (.ifCond .eq off, 3)) (ht : (pc : Int) + off = (tgt : Int)) (kt : x = 0 → rW l D Z tys M tgt lv st ws ws' v) (kf : ¬ (x = 0) → rW l D Z tys M (pc + 3) lv st ws ws' v) : rW l D Z tys M pc lv (.int x :: st) ws ws' v :=
  fun p e s m args below meth c A C H locs ls hP hD hS hl => lv_if_eq C.1 C.2.1 hdg ht (fun h => kt h p e s m args below meth c A C H locs ls hP hD hS hl) (fun h => kf h p e s m args below meth c A C H locs ls hP hD hS hl)
theorem r_if_ne {x : Int32} {off : Int} (tgt : Nat) (hdg : decode M.2.2.1 pc = .ok (.ifCond .ne off, 3)) (ht : (pc : Int) + off = (tgt : Int)) (kt : ¬ x = 0 → rW l D Z tys M tgt lv st ws ws' v) (kf : x = 0 → rW l D Z tys M (pc + 3) lv st ws ws' v) : rW l D Z tys M pc lv (.int x :: st) ws ws' v :=
  fun p e s m args below meth c A C H locs ls hP hD hS hl => lv_if_ne C.1 C.2.1 hdg ht (fun h => kt h p e s m args below meth c A C H locs ls hP hD hS hl) (fun h => kf h p e s m args below meth c A C H locs ls hP hD hS hl)
theorem r_if_lt {x : Int32} {off : Int} (tgt : Nat) (hdg : decode M.2.2.1 pc = .ok (.ifCond .lt off, 3)) (ht : (pc : Int) + off = (tgt : Int)) (kt : x < 0 → rW l D Z tys M tgt lv st ws ws' v) (kf : ¬ (x < 0) → rW l D Z tys M (pc + 3) lv st ws ws' v) : rW l D Z tys M pc lv (.int x :: st) ws ws' v :=
  fun p e s m args below meth c A C H locs ls hP hD hS hl => lv_if_lt C.1 C.2.1 hdg ht (fun h => kt h p e s m args below meth c A C H locs ls hP hD hS hl) (fun h => kf h p e s m args below meth c A C H locs ls hP hD hS hl)
theorem r_if_ge {x : Int32} {off : Int} (tgt : Nat) (hdg : decode M.2.2.1 pc = .ok (.ifCond .ge off, 3)) (ht : (pc : Int) + off = (tgt : Int)) (kt : 0 ≤ x → rW l D Z tys M tgt lv st ws ws' v) (kf : ¬ (0 ≤ x) → rW l D Z tys M (pc + 3) lv st ws ws' v) : rW l D Z tys M pc lv (.int x :: st) ws ws' v :=
  fun p e s m args below meth c A C H locs ls hP hD hS hl => lv_if_ge C.1 C.2.1 hdg ht (fun h => kt h p e s m args below meth c A C H locs ls hP hD hS hl) (fun h => kf h p e s m args below meth c A C H locs ls hP hD hS hl)
theorem r_if_gt {x : Int32} {off : Int} (tgt : Nat) (hdg : decode M.2.2.1 pc = .ok (.ifCond .gt off, 3)) (ht : (pc : Int) + off = (tgt : Int)) (kt : 0 < x → rW l D Z tys M tgt lv st ws ws' v) (kf : ¬ (0 < x) → rW l D Z tys M (pc + 3) lv st ws ws' v) : rW l D Z tys M pc lv (.int x :: st) ws ws' v :=
  fun p e s m args below meth c A C H locs ls hP hD hS hl => lv_if_gt C.1 C.2.1 hdg ht (fun h => kt h p e s m args below meth c A C H locs ls hP hD hS hl) (fun h => kf h p e s m args below meth c A C H locs ls hP hD hS hl)
theorem r_if_le {x : Int32} {off : Int} (tgt : Nat) (hdg : decode M.2.2.1 pc = .ok (.ifCond .le off, 3)) (ht : (pc : Int) + off = (tgt : Int)) (kt : x ≤ 0 → rW l D Z tys M tgt lv st ws ws' v) (kf : ¬ (x ≤ 0) → rW l D Z tys M (pc + 3) lv st ws ws' v) : rW l D Z tys M pc lv (.int x :: st) ws ws' v :=
  fun p e s m args below meth c A C H locs ls hP hD hS hl => lv_if_le C.1 C.2.1 hdg ht (fun h => kt h p e s m args below meth c A C H locs ls hP hD hS hl) (fun h => kf h p e s m args below meth c A C H locs ls hP hD hS hl)
theorem r_icmp_eq {x y : Int32} {off : Int} (tgt : Nat) (hdg : decode M.2.2.1 pc = .ok (.if_icmp .eq off, 3)) (ht : (pc : Int) + off = (tgt : Int)) (kt : x = y → rW l D Z tys M tgt lv st ws ws' v) (kf : ¬ (x = y) → rW l D Z tys M (pc + 3) lv st ws ws' v) : rW l D Z tys M pc lv (.int y :: .int x :: st) ws ws' v :=
  fun p e s m args below meth c A C H locs ls hP hD hS hl => lv_icmp_eq C.1 C.2.1 hdg ht (fun h => kt h p e s m args below meth c A C H locs ls hP hD hS hl) (fun h => kf h p e s m args below meth c A C H locs ls hP hD hS hl)
theorem r_icmp_ne {x y : Int32} {off : Int} (tgt : Nat) (hdg : decode M.2.2.1 pc = .ok (.if_icmp .ne off, 3)) (ht : (pc : Int) + off = (tgt : Int)) (kt : ¬ x = y → rW l D Z tys M tgt lv st ws ws' v) (kf : x = y → rW l D Z tys M (pc + 3) lv st ws ws' v) : rW l D Z tys M pc lv (.int y :: .int x :: st) ws ws' v :=
  fun p e s m args below meth c A C H locs ls hP hD hS hl => lv_icmp_ne C.1 C.2.1 hdg ht (fun h => kt h p e s m args below meth c A C H locs ls hP hD hS hl) (fun h => kf h p e s m args below meth c A C H locs ls hP hD hS hl)
theorem r_icmp_lt {x y : Int32} {off : Int} (tgt : Nat) (hdg : decode M.2.2.1 pc = .ok (.if_icmp .lt off, 3)) (ht : (pc : Int) + off = (tgt : Int)) (kt : x < y → rW l D Z tys M tgt lv st ws ws' v) (kf : ¬ (x < y) → rW l D Z tys M (pc + 3) lv st ws ws' v) : rW l D Z tys M pc lv (.int y :: .int x :: st) ws ws' v :=
  fun p e s m args below meth c A C H locs ls hP hD hS hl => lv_icmp_lt C.1 C.2.1 hdg ht (fun h => kt h p e s m args below meth c A C H locs ls hP hD hS hl) (fun h => kf h p e s m args below meth c A C H locs ls hP hD hS hl)
theorem r_icmp_ge {x y : Int32} {off : Int} (tgt : Nat) (hdg : decode M.2.2.1 pc = .ok (.if_icmp .ge off, 3)) (ht : (pc : Int) + off = (tgt : Int)) (kt : y ≤ x → rW l D Z tys M tgt lv st ws ws' v) (kf : ¬ (y ≤ x) → rW l D Z tys M (pc + 3) lv st ws ws' v) : rW l D Z tys M pc lv (.int y :: .int x :: st) ws ws' v :=
  fun p e s m args below meth c A C H locs ls hP hD hS hl => lv_icmp_ge C.1 C.2.1 hdg ht (fun h => kt h p e s m args below meth c A C H locs ls hP hD hS hl) (fun h => kf h p e s m args below meth c A C H locs ls hP hD hS hl)
theorem r_icmp_gt {x y : Int32} {off : Int} (tgt : Nat) (hdg : decode M.2.2.1 pc = .ok (.if_icmp .gt off, 3)) (ht : (pc : Int) + off = (tgt : Int)) (kt : y < x → rW l D Z tys M tgt lv st ws ws' v) (kf : ¬ (y < x) → rW l D Z tys M (pc + 3) lv st ws ws' v) : rW l D Z tys M pc lv (.int y :: .int x :: st) ws ws' v :=
  fun p e s m args below meth c A C H locs ls hP hD hS hl => lv_icmp_gt C.1 C.2.1 hdg ht (fun h => kt h p e s m args below meth c A C H locs ls hP hD hS hl) (fun h => kf h p e s m args below meth c A C H locs ls hP hD hS hl)
theorem r_icmp_le {x y : Int32} {off : Int} (tgt : Nat) (hdg : decode M.2.2.1 pc = .ok (.if_icmp .le off, 3)) (ht : (pc : Int) + off = (tgt : Int)) (kt : x ≤ y → rW l D Z tys M tgt lv st ws ws' v) (kf : ¬ (x ≤ y) → rW l D Z tys M (pc + 3) lv st ws ws' v) : rW l D Z tys M pc lv (.int y :: .int x :: st) ws ws' v :=
  fun p e s m args below meth c A C H locs ls hP hD hS hl => lv_icmp_le C.1 C.2.1 hdg ht (fun h => kt h p e s m args below meth c A C H locs ls hP hD hS hl) (fun h => kf h p e s m args below meth c A C H locs ls hP hD hS hl)
theorem r_mem {w : Cond} (hw : w ∈ TB) : w ∈ rTs M := List.mem_cons_of_mem _ hw
/-- a field of an object of the world -/
theorem r_get (ci k q0 : Nat) {C : String} {T : u_T} {N index a : Nat} {fs : List Value} {x : Value} (hin : ∀ w ∈ u_ws C T N, w ∈ TB) (hc : vwCl[ci]? = some (C, T, N)) (hk : k < N) (hw : Cond.fieldLink M.1 index (T k).1 (T k).2.1 (T k).2.2.1 ∈ TB) (hq : ws[q0]? = some (a, .inr (ci, fs))) (hv : fs[k]? = some x) (hdg : decode M.2.2.1 pc = .ok (.getfield index, 3)) (kk : rW l D Z tys M (pc + 3) lv (x :: st) ws ws' v) : rW l D Z tys M pc lv (.ref a :: st) ws ws' v :=
  fun p e s m args below meth c A C0 H locs ls hP hD hS hl => va_get C0.1 C0.2.1 C0.2.2.2.2.2.1 (fun w h => List.mem_cons_of_mem _ (hin w h)) C0.2.2.2.2.1 C0.2.2.2.2.2.2.2.1 hP q0 hq hc k hk (C0.2.2.2.2.2.1 _ (List.mem_cons_of_mem _ hw)) (fun _ h => h) hv hdg (kk p e s m args below meth c A C0 H locs ls hP hD hS hl)
theorem r_put (ci k q0 : Nat) {C : String} {T : u_T} {N index a : Nat} {fs : List Value} {x : Value} {ty : FieldType} (hin : ∀ w ∈ u_ws C T N, w ∈ TB) (hc : vwCl[ci]? = some (C, T, N)) (hk : k < N) (hw : Cond.fieldLink M.1 index (T k).1 (T k).2.1 (T k).2.2.1 ∈ TB) (ty0 : Nat → FieldType) (hty : ∀ k, k < N → parseFieldDescriptor (T k).2.2.1 = some (ty0 k)) (hnm : ∀ a, a < N → ∀ b, b < N → a ≠ b → (T a).2.1 ≠ (T b).2.1) (hfin : (T k).2.2.2 = false) (hd : ty0 k = ty) (hq : ws[q0]? = some (a, .inr (ci, fs))) (hl0 : k < fs.length) (hn : narrow ty x = x) (hfit : fits ty x = true) (h1 : ws.set q0 (a, .inr (ci, fs.set k x)) = ws1) (hdg : decode M.2.2.1 pc = .ok (.putfield index, 3)) (kk : rW l D Z tys M (pc + 3) lv st ws1 ws' v) : rW l D Z tys M pc lv (x :: .ref a :: st) ws ws' v := by
  intro p e s m args below meth c A C0 H locs ls hP hD hS hl
  subst h1
  exact va_put C0.1 C0.2.1 C0.2.2.2.2.2.1 (fun w h => List.mem_cons_of_mem _ (hin w h)) ty0 hty hnm C0.2.2.2.2.1 C0.2.2.2.2.2.2.2.1 hP hD hS q0 hq hc k hk (C0.2.2.2.2.2.1 _ (List.mem_cons_of_mem _ hw)) (fun _ h => h) hfin (by rw [hty k hk, hd]) hn hfit hl0 hdg (fun H1 locs1 hP hD hS => kk p e s m args below meth c A C0 H1 locs1 ls hP hD hS hl)
/-- arrays -/
theorem r_iald (q0 t0 : Nat) {a : Nat} {cA : ClassId} {n : Nat} {f : Nat → Int32} {i : Int32} (ht : tys[t0]? = some (cA, .int)) (hq : ws[q0]? = some (a, .inl (cA, n, .inl f))) (hin : vp_in i n) (hdg : decode M.2.2.1 pc = .ok (.iaload, 1)) (kk : rW l D Z tys M (pc + 1) lv (.int (f i.toNatClampNeg) :: st) ws ws' v) : rW l D Z tys M pc lv (.int i :: .ref a :: st) ws ws' v :=
  fun p e s m args below meth c A C H locs ls hP hD hS hl => va_iald C.1 C.2.1 C.2.2.2.2.2.2.2.1 hP q0 t0 hq ht hin hdg (kk p e s m args below meth c A C H locs ls hP hD hS hl)
theorem r_bald (q0 t0 : Nat) {a : Nat} {cA : ClassId} {n : Nat} {f : Nat → Int32} {i : Int32} (ht : tys[t0]? = some (cA, .byte)) (hq : ws[q0]? = some (a, .inl (cA, n, .inl f))) (hin : vp_in i n) (hdg : decode M.2.2.1 pc = .ok (.baload, 1)) (kk : rW l D Z tys M (pc + 1) lv (.int (f i.toNatClampNeg) :: st) ws ws' v) : rW l D Z tys M pc lv (.int i :: .ref a :: st) ws ws' v :=
  fun p e s m args below meth c A C H locs ls hP hD hS hl => va_bald C.1 C.2.1 C.2.2.2.2.2.2.2.1 hP q0 t0 hq ht hin hdg (kk p e s m args below meth c A C H locs ls hP hD hS hl)
theorem r_zald (q0 t0 : Nat) {a : Nat} {cA : ClassId} {n : Nat} {f : Nat → Int32} {i : Int32} (ht : tys[t0]? = some (cA, .boolean)) (hq : ws[q0]? = some (a, .inl (cA, n, .inl f))) (hin : vp_in i n) (hdg : decode M.2.2.1 pc = .ok (.baload, 1)) (kk : rW l D Z tys M (pc + 1) lv (.int (f i.toNatClampNeg) :: st) ws ws' v) : rW l D Z tys M pc lv (.int i :: .ref a :: st) ws ws' v :=
  fun p e s m args below meth c A C H locs ls hP hD hS hl => va_zald C.1 C.2.1 C.2.2.2.2.2.2.2.1 hP q0 t0 hq ht hin hdg (kk p e s m args below meth c A C H locs ls hP hD hS hl)
theorem r_lald (q0 t0 : Nat) {a : Nat} {cA : ClassId} {n : Nat} {f : Nat → Int64} {i : Int32} (ht : tys[t0]? = some (cA, .long)) (hq : ws[q0]? = some (a, .inl (cA, n, .inr (.inl f)))) (hin : vp_in i n) (hdg : decode M.2.2.1 pc = .ok (.laload, 1)) (kk : rW l D Z tys M (pc + 1) lv (.long (f i.toNatClampNeg) :: st) ws ws' v) : rW l D Z tys M pc lv (.int i :: .ref a :: st) ws ws' v :=
  fun p e s m args below meth c A C H locs ls hP hD hS hl => va_lald C.1 C.2.1 C.2.2.2.2.2.2.2.1 hP q0 t0 hq ht hin hdg (kk p e s m args below meth c A C H locs ls hP hD hS hl)
theorem r_iast (q0 t0 : Nat) {a : Nat} {cA : ClassId} {n : Nat} {f : Nat → Int32} {i x : Int32} (ht : tys[t0]? = some (cA, .int)) (hq : ws[q0]? = some (a, .inl (cA, n, .inl f))) (hin : vp_in i n) (h1 : ws.set q0 (a, .inl (cA, n, .inl (upd f i.toNatClampNeg x))) = ws1) (hdg : decode M.2.2.1 pc = .ok (.iastore, 1)) (kk : rW l D Z tys M (pc + 1) lv st ws1 ws' v) : rW l D Z tys M pc lv (.int x :: .int i :: .ref a :: st) ws ws' v := by
  intro p e s m args below meth c A C H locs ls hP hD hS hl
  subst h1
  exact va_iast C.1 C.2.1 C.2.2.2.2.2.2.2.1 hP hD hS q0 t0 hq ht hin hdg (fun H1 locs1 hP hD hS => kk p e s m args below meth c A C H1 locs1 ls hP hD hS hl)
theorem r_bast (q0 t0 : Nat) {a : Nat} {cA : ClassId} {n : Nat} {f : Nat → Int32} {i x : Int32} (ht : tys[t0]? = some (cA, .byte)) (hq : ws[q0]? = some (a, .inl (cA, n, .inl f))) (hin : vp_in i n) (h1 : ws.set q0 (a, .inl (cA, n, .inl (upd f i.toNatClampNeg (vp_nar .byte x)))) = ws1) (hdg : decode M.2.2.1 pc = .ok (.bastore, 1)) (kk : rW l D Z tys M (pc + 1) lv st ws1 ws' v) : rW l D Z tys M pc lv (.int x :: .int i :: .ref a :: st) ws ws' v := by
  intro p e s m args below meth c A C H locs ls hP hD hS hl
  subst h1
  exact va_bast C.1 C.2.1 C.2.2.2.2.2.2.2.1 hP hD hS q0 t0 hq ht hin hdg (fun H1 locs1 hP hD hS => kk p e s m args below meth c A C H1 locs1 ls hP hD hS hl)
theorem r_zast (q0 t0 : Nat) {a : Nat} {cA : ClassId} {n : Nat} {f : Nat → Int32} {i x : Int32} (ht : tys[t0]? = some (cA, .boolean)) (hq : ws[q0]? = some (a, .inl (cA, n, .inl f))) (hin : vp_in i n) (h1 : ws.set q0 (a, .inl (cA, n, .inl (upd f i.toNatClampNeg (vp_nar .boolean x)))) = ws1) (hdg : decode M.2.2.1 pc = .ok (.bastore, 1)) (kk : rW l D Z tys M (pc + 1) lv st ws1 ws' v) : rW l D Z tys M pc lv (.int x :: .int i :: .ref a :: st) ws ws' v := by
  intro p e s m args below meth c A C H locs ls hP hD hS hl
  subst h1
  exact va_zast C.1 C.2.1 C.2.2.2.2.2.2.2.1 hP hD hS q0 t0 hq ht hin hdg (fun H1 locs1 hP hD hS => kk p e s m args below meth c A C H1 locs1 ls hP hD hS hl)
theorem r_last (q0 t0 : Nat) {a : Nat} {cA : ClassId} {n : Nat} {f : Nat → Int64} {i : Int32} {x : Int64} (ht : tys[t0]? = some (cA, .long)) (hq : ws[q0]? = some (a, .inl (cA, n, .inr (.inl f)))) (hin : vp_in i n) (h1 : ws.set q0 (a, .inl (cA, n, .inr (.inl (vp_updL f i.toNatClampNeg x)))) = ws1) (hdg : decode M.2.2.1 pc = .ok (.lastore, 1)) (kk : rW l D Z tys M (pc + 1) lv st ws1 ws' v) : rW l D Z tys M pc lv (.long x :: .int i :: .ref a :: st) ws ws' v := by
  intro p e s m args below meth c A C H locs ls hP hD hS hl
  subst h1
  exact va_last C.1 C.2.1 C.2.2.2.2.2.2.2.1 hP hD hS q0 t0 hq ht hin hdg (fun H1 locs1 hP hD hS => kk p e s m args below meth c A C H1 locs1 ls hP hD hS hl)
/-- ends -/
theorem r_iret {x : Int32} (hr : M.2.2.2.2.1 = some .int) (hdg : decode M.2.2.1 pc = .ok (.ireturn, 1)) : rW l D Z tys M pc lv [.int x] ws ws (some (.int x)) :=
  fun p e s m args below meth c A C H locs ls hP hD hS hl => W.iret (v := x) C.1 C.2.1 (C.2.2.1.trans hr) (fun t ht hW => ⟨⟨rfl, by rw [ht]; exact hP, va_K.moved hW.alike C.2.2.2.2.2.2.2.1, hD⟩, hS.F ht⟩) hS.2.2 hdg C.2.2.2.2.2.2.1
theorem r_zret {x : Int32} {ty : FieldType} (hr : M.2.2.2.2.1 = some ty) (hn : narrow ty (.int x) = .int x) (hdg : decode M.2.2.1 pc = .ok (.ireturn, 1)) : rW l D Z tys M pc lv [.int x] ws ws (some (.int x)) :=
  fun p e s m args below meth c A C H locs ls hP hD hS hl => W.zret (v := x) C.1 C.2.1 (C.2.2.1.trans hr) hn (fun t ht hW => ⟨⟨rfl, by rw [ht]; exact hP, va_K.moved hW.alike C.2.2.2.2.2.2.2.1, hD⟩, hS.F ht⟩) hS.2.2 hdg C.2.2.2.2.2.2.1
theorem r_lret {x : Int64} (hr : M.2.2.2.2.1 = some .long) (hdg : decode M.2.2.1 pc = .ok (.lreturn, 1)) : rW l D Z tys M pc lv [.long x] ws ws (some (.long x)) :=
  fun p e s m args below meth c A C H locs ls hP hD hS hl => W.lret (v := x) C.1 C.2.1 (C.2.2.1.trans hr) (fun t ht hW => ⟨⟨rfl, by rw [ht]; exact hP, va_K.moved hW.alike C.2.2.2.2.2.2.2.1, hD⟩, hS.F ht⟩) hS.2.2 hdg C.2.2.2.2.2.2.1
theorem r_vret (hr : M.2.2.2.2.1 = none) (hdg : decode M.2.2.1 pc = .ok (.return_, 1)) : rW l D Z tys M pc lv [] ws ws none :=
  fun p e s m args below meth c A C H locs ls hP hD hS hl => W.vret C.1 C.2.1 (C.2.2.1.trans hr) (fun t ht hW => ⟨⟨rfl, by rw [ht]; exact hP, va_K.moved hW.alike C.2.2.2.2.2.2.2.1, hD⟩, hS.F ht⟩) hS.2.2 hdg C.2.2.2.2.2.2.1
theorem r_aret {x : Value} {rt : FieldType} (hr : M.2.2.2.2.1 = some rt) (hrt : (∃ n, rt = .object n) ∨ ∃ t, rt = .array t) (hv : x = .null ∨ ∃ a, x = .ref a) (hdg : decode M.2.2.1 pc = .ok (.areturn, 1)) : rW l D Z tys M pc lv [x] ws ws (some x) :=
  fun p e s m args below meth c A C H locs ls hP hD hS hl => W.aret (v := x) C.1 C.2.1 (C.2.2.1.trans hr) hrt hv (fun t ht hW => ⟨⟨rfl, by rw [ht]; exact hP, va_K.moved hW.alike C.2.2.2.2.2.2.2.1, hD⟩, hS.F ht⟩) hS.2.2 hdg C.2.2.2.2.2.2.1
/-- behind a call: the callee's world wc lies at the places isC of ws; what comes back, w1, with the rest wr, makes ws1 -/
theorem r_back {p : Program} {e : Env} {s : State} {m : MethodId} {args : Array Value} {below : List Frame} {meth : Method} {c : Code} {A : Nat → Prop} {H : Heap} {locs : List Loc} {ls : Array Slot} {stk : List Value} {a : Array Value} {wc w1 : va_W} {rv : Option Value}
    (hr : va_Run p l e (rr M.2.2.2.2.2) s m args below meth c H locs 0 0 0 0 (F0 m pc ls stk) st (rQ D tys w1 rv (va_A wc H.size) a) (va_A wc H.size)) (C : rC D Z tys M p s m args meth c A) (hP : va_P D vwCl ws H) (hD : va_D A ws) (hS : va_S A s.heap H locs) (hl : lv_has ls M.2.2.2.1 lv)
    (hF : ∀ q, va_A wc H.size q → A q) (hj : ∀ H1 : Heap, (∀ q : Nat, q < H.size → ¬ va_A wc H.size q → H1[q]? = H[q]?) → va_P D vwCl w1 H1 → va_D (va_A wc H.size) w1 → va_P D vwCl ws1 H1 ∧ va_D A ws1)
    (k : rW l D Z tys M (pc + 3) lv (rv.toList ++ st) ws1 ws' v) : W p l e (rr M.2.2.2.2.2) s m args below meth c H locs 0 0 (MQ below (rQ D tys ws' v A) args s 0 0 A) (F0 m pc ls stk) := by
  intro T hT X
  obtain ⟨v0, st₀, t, T', L, h0, X', hL, e1, e2, ⟨⟨hv, hP1, hK1, hD1⟩, hz, hk⟩, stp⟩ := hr T hT X
  cases hv
  rw [h0] at hz hk
  obtain ⟨g1, g2⟩ := hj T'.heap (fun q h1 h2 => by rw [e1]; exact hk q h1 h2) (by rw [e1]; exact hP1) hD1
  obtain ⟨t2, a1, b1⟩ := k p e s m args below meth c A C T'.heap (locs ++ L) ls g1 g2
    ⟨Nat.le_trans hS.1 (by rw [e1]; exact hz), fun q h1 h2 => by rw [e1, hk q (Nat.lt_of_lt_of_le h1 hS.1) (fun z => h2 (hF q z))]; exact hS.2.1 q h1 h2, fun q hq => by
      rcases List.mem_append.mp hq with h | h
      · exact hS.2.2 q h
      · exact hF _ (hL q h)⟩ hl T' rfl X'
  exact ⟨t2, stp t2 a1, b1⟩
/-- what the tables say of a method that is called on an object, of a static one -/
def rKv (Mc : rx_M) (n : Nat) : Prop := Cond.instanceMethod Mc.2.1 ∈ TB ∧ Cond.selects Mc.2.1.cls Mc.2.1 Mc.2.1 ∈ TB ∧ Cond.initialized Mc.2.1.cls ∈ TB ∧ Cond.code Mc.2.1 Mc.2.2.1 Mc.2.2.2.1 Mc.2.2.2.2.1 ∈ TB ∧ (Mc.2.1.cls ≠ "java/lang/invoke/MethodHandle" ∧ Mc.2.1.cls ≠ "java/lang/invoke/VarHandle" ∧ (parseMethodDescriptor Mc.2.1.desc).map (fun d => d.parameters.length) = some n) ∧ Mc.2.2.2.1 ≤ 41
def rKs (Mc : rx_M) (n : Nat) : Prop := Cond.static Mc.2.1 ∈ TB ∧ Cond.initialized Mc.2.1.cls ∈ TB ∧ Cond.code Mc.2.1 Mc.2.2.1 Mc.2.2.2.1 Mc.2.2.2.2.1 ∈ TB ∧ (Mc.2.1.cls ≠ "java/lang/invoke/MethodHandle" ∧ Mc.2.1.cls ≠ "java/lang/invoke/VarHandle" ∧ (parseMethodDescriptor Mc.2.1.desc).map (fun d => d.parameters.length) = some n) ∧ Mc.2.2.2.1 ≤ 41
theorem r_good {Mc : rx_M} (hc : Cond.code Mc.2.1 Mc.2.2.1 Mc.2.2.2.1 Mc.2.2.2.2.1 ∈ TB) : GoodIn (rTs M) (rTs Mc) := by
  intro w hw
  have h : w ∈ TB := by
    rcases List.mem_cons.mp hw with h | h
    · rw [h]; exact hc
    · exact h
  exact ⟨List.mem_cons_of_mem _ h, good_of_word (List.all_eq_true.mp tb_good w h)⟩
theorem r_fits {Mc : rx_M} (hr : Mc.2.2.2.2.2 < M.2.2.2.2.2) (hn : Mc.2.2.2.1 ≤ 41) : (rr Mc.2.2.2.2.2).frames + 1 ≤ (rr M.2.2.2.2.2).frames ∧ 8 + (Mc.2.2.2.1 + 11) + (rr Mc.2.2.2.2.2).locals ≤ (rr M.2.2.2.2.2).locals := by
  constructor
  · show Mc.2.2.2.2.2 + 1 ≤ M.2.2.2.2.2
    omega
  · show 8 + (Mc.2.2.2.1 + 11) + 60 * Mc.2.2.2.2.2 ≤ 60 * M.2.2.2.2.2
    omega
theorem r_blind {av : List Value} {wc : va_W} {sz : Nat} : FrameBlind (va_Pc av (fun U => U.heap.size = sz ∧ va_P D vwCl wc U.heap ∧ va_K D vwCl tys U ∧ va_D (fun _ => True) wc ∧ rX Z (va_A wc sz) U U.heap)) := by
  intro a U g mk q
  obtain ⟨q0, q1, qP, qK, qD, qX⟩ := q
  exact ⟨q0, q1, qP, va_K.moved (u := U) (U := U.calling g mk a) (Vm.Alike.refl U.vm) qK, qD, qX.same rfl rfl⟩
theorem r_runV {Mc : rx_M} {n index b q0 ci : Nat} {q : vw_C} {fs As : List Value} {stk : List Value} {wc w1 : va_W} {rv : Option Value} {p : Program} {e : Env} {s : State} {m : MethodId} {args : Array Value} {below : List Frame} {meth : Method} {c : Code} {A : Nat → Prop} {H : Heap} {locs : List Loc} {ls : Array Slot}
    (hst : stk = As.reverse ++ .ref b :: st) (hlen : As.length = n) (hcat : (st.map fun v => v.category).sum ≤ 8) (hM : rMet l D Z tys Mc (.ref b :: As) wc w1 rv) (hK : rKv Mc n) (hlink : Cond.methodLink M.1 index Mc.2.1 ∈ TB) (hrank : Mc.2.2.2.2.2 < M.2.2.2.2.2) (hc : vwCl[ci]? = some q) (hcl : q.1 = Mc.2.1.cls) (hq : wc[q0]? = some (b, .inr (ci, fs)))
    (hdg : decode M.2.2.1 pc = .ok (.invokevirtual index, 3)) (C : rC D Z tys M p s m args meth c A) (hP : va_P D vwCl wc H) (hD : va_D A wc) (hS : va_S A s.heap H locs) (hF : ∀ q, va_A wc H.size q → A q) (hl : lv_has ls M.2.2.2.1 lv) :
    va_Run p l e (rr M.2.2.2.2.2) s m args below meth c H locs 0 0 0 0 (F0 m pc ls stk) st (rQ D tys w1 rv (va_A wc H.size) (Value.ref b :: As).toArray) (va_A wc H.size) := by
  obtain ⟨k1, k2, k3, k4, k5, k6⟩ := hK
  have hts := C.2.2.2.2.2.1
  have hr := va_recv C.2.2.2.2.2.2.2.1 hP hc hq
  rw [hcl] at hr
  refine va_runV (As := As) (rest := st) (cc := M.2.2.1) (nL := M.2.2.2.1) (Ts := rTs M) (own := M.1) ⟨C.1, C.2.1, C.2.2.2.1, C.2.2.2.2.1, hts⟩ (hM H.size) (C := Mc.2.1.cls) (index := index) (bytes := Mc.2.2.1) (maxL := Mc.2.2.2.1) (ret := Mc.2.2.2.2.1) (n := n) ?_ ⟨r_blind, hr, fun U hU hW => ⟨rfl, by rw [hU], by rw [hU]; exact hP, va_K.moved hW.alike C.2.2.2.2.2.2.2.1, hD.weaken (fun _ _ _ _ => trivial), C.2.2.2.2.2.2.2.2.2.call hW hU hS.2.1 hF⟩⟩ rfl hlen hl.1 hst (lv_room hcat) hdg ⟨Nat.le_refl 0, Nat.le_refl 0⟩
  exact ⟨callB_of n hts (r_good k4) rfl rfl rfl (hts _ (List.mem_cons_of_mem _ k3)) (hts _ (List.mem_cons_of_mem _ hlink)) k5 (r_fits hrank k6), hts _ (List.mem_cons_of_mem _ k1), hts _ (List.mem_cons_of_mem _ k2)⟩
theorem r_runS {Mc : rx_M} {n index : Nat} {As : List Value} {stk : List Value} {wc w1 : va_W} {rv : Option Value} {p : Program} {e : Env} {s : State} {m : MethodId} {args : Array Value} {below : List Frame} {meth : Method} {c : Code} {A : Nat → Prop} {H : Heap} {locs : List Loc} {ls : Array Slot}
    (hst : stk = As.reverse ++ st) (hlen : As.length = n) (hcat : (st.map fun v => v.category).sum ≤ 8) (hM : rMet l D Z tys Mc As wc w1 rv) (hK : rKs Mc n) (hlink : Cond.methodLink M.1 index Mc.2.1 ∈ TB) (hrank : Mc.2.2.2.2.2 < M.2.2.2.2.2)
    (hdg : decode M.2.2.1 pc = .ok (.invokestatic index, 3)) (C : rC D Z tys M p s m args meth c A) (hP : va_P D vwCl wc H) (hD : va_D A wc) (hS : va_S A s.heap H locs) (hF : ∀ q, va_A wc H.size q → A q) (hl : lv_has ls M.2.2.2.1 lv) :
    va_Run p l e (rr M.2.2.2.2.2) s m args below meth c H locs 0 0 0 0 (F0 m pc ls stk) st (rQ D tys w1 rv (va_A wc H.size) As.toArray) (va_A wc H.size) := by
  obtain ⟨k1, k3, k4, k5, k6⟩ := hK
  have hts := C.2.2.2.2.2.1
  refine va_runS (As := As) (rest := st) (cc := M.2.2.1) (nL := M.2.2.2.1) (Ts := rTs M) (own := M.1) ⟨C.1, C.2.1, C.2.2.2.1, C.2.2.2.2.1, hts⟩ (hM H.size) (index := index) (bytes := Mc.2.2.1) (maxL := Mc.2.2.2.1) (ret := Mc.2.2.2.2.1) (n := n) ?_ ⟨r_blind, fun U hU hW => ⟨rfl, by rw [hU], by rw [hU]; exact hP, va_K.moved hW.alike C.2.2.2.2.2.2.2.1, hD.weaken (fun _ _ _ _ => trivial), C.2.2.2.2.2.2.2.2.2.call hW hU hS.2.1 hF⟩⟩ rfl hlen hl.1 hst (lv_room hcat) hdg ⟨Nat.le_refl 0, Nat.le_refl 0⟩
  exact ⟨callB_of n hts (r_good k4) rfl rfl rfl (hts _ (List.mem_cons_of_mem _ k3)) (hts _ (List.mem_cons_of_mem _ hlink)) k5 (r_fits hrank k6), hts _ (List.mem_cons_of_mem _ k1)⟩
theorem r_self {A : Nat → Prop} {s : State} {H : Heap} {locs : List Loc} (hD : va_D A ws) (hS : va_S A s.heap H locs) (hA : ∀ q, s.heap.size ≤ q → A q) : ∀ q, va_A ws H.size q → A q := by
  intro q h
  rcases h with ⟨k, e, h⟩ | h
  · exact hD.2 k (q, e) h
  · exact hA q (Nat.le_trans hS.1 h)
/-- a call of a method whose world is the caller's -/
theorem r_callV {Mc : rx_M} {n index b ci : Nat} (q0 : Nat) {q : vw_C} {fs As : List Value} {stk : List Value} {rv : Option Value} (hM : rMet l D Z tys Mc (.ref b :: As) ws ws1 rv) (hst : stk = As.reverse ++ .ref b :: st) (hlen : As.length = n) (hcat : (st.map fun v => v.category).sum ≤ 8) (hK : rKv Mc n) (hlink : Cond.methodLink M.1 index Mc.2.1 ∈ TB) (hrank : Mc.2.2.2.2.2 < M.2.2.2.2.2) (hc : vwCl[ci]? = some q) (hcl : q.1 = Mc.2.1.cls) (hq : ws[q0]? = some (b, .inr (ci, fs)))
    (hdg : decode M.2.2.1 pc = .ok (.invokevirtual index, 3)) (k : rW l D Z tys M (pc + 3) lv (rv.toList ++ st) ws1 ws' v) : rW l D Z tys M pc lv stk ws ws' v := by
  intro p e s m args below meth c A C H locs ls hP hD hS hl
  have hF := r_self hD hS C.2.2.2.2.2.2.2.2.1
  exact r_back (r_runV hst hlen hcat hM hK hlink hrank hc hcl hq hdg C hP hD hS hF hl) C hP hD hS hl hF (fun H1 _ h1 h2 => ⟨h1, h2.weaken (fun _ q _ z => hF q.1 z)⟩) k
theorem r_callS {Mc : rx_M} {n index : Nat} {As : List Value} {stk : List Value} {rv : Option Value} (hM : rMet l D Z tys Mc As ws ws1 rv) (hst : stk = As.reverse ++ st) (hlen : As.length = n) (hcat : (st.map fun v => v.category).sum ≤ 8) (hK : rKs Mc n) (hlink : Cond.methodLink M.1 index Mc.2.1 ∈ TB) (hrank : Mc.2.2.2.2.2 < M.2.2.2.2.2)
    (hdg : decode M.2.2.1 pc = .ok (.invokestatic index, 3)) (k : rW l D Z tys M (pc + 3) lv (rv.toList ++ st) ws1 ws' v) : rW l D Z tys M pc lv stk ws ws' v := by
  intro p e s m args below meth c A C H locs ls hP hD hS hl
  have hF := r_self hD hS C.2.2.2.2.2.2.2.2.1
  exact r_back (r_runS hst hlen hcat hM hK hlink hrank hdg C hP hD hS hF hl) C hP hD hS hl hF (fun H1 _ h1 h2 => ⟨h1, h2.weaken (fun _ q _ z => hF q.1 z)⟩) k
end RW
/-! the pure side: what must hold, calls, ifs -/
def inb (i : Int32) (n : Nat) : Bool := decide (0 ≤ i) && decide (i.toNatClampNeg < n)
theorem inb_in {i : Int32} {n : Nat} (h : inb i n = true) : vp_in i n := by
  simp only [inb, Bool.and_eq_true, decide_eq_true_eq] at h
  intro q
  rcases q with q | q
  · have h1 := h.1
    rw [Int32.le_iff_toInt_le] at h1
    rw [Int32.lt_iff_toInt_lt] at q
    omega
  · omega
def rq {α : Type} (b : Bool) (x : Option α) : Option α := match b with
  | true => x
  | false => none
theorem rq_some {α : Type} {b : Bool} {x : Option α} {y : α} (h : rq b x = some y) : b = true ∧ x = some y := by
  cases b with
  | true => exact ⟨rfl, h⟩
  | false => cases h
theorem bd_some {α β : Type} {x : Option α} {f : α → Option β} {y : β} (h : x.bind f = some y) : ∃ a, x = some a ∧ f a = some y := by
  cases x with
  | none => cases h
  | some a => exact ⟨a, rfl, h⟩
theorem nz_ne {x : Int32} (h : decide (¬ x = 0) = true) : ¬ x = 0 := of_decide_eq_true h
theorem nzl_ne {x : Int64} (h : decide (¬ x = 0) = true) : ¬ x = 0 := of_decide_eq_true h
