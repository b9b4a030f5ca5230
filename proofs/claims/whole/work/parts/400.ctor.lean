/-! Constructors: worlds grow. The judgement has the cells and slots that are made; the end is a property of the last world. -/
def nr (k mc ms : Nat) : Room := { frames := k, cells := mc, slots := ms, locals := 60 * k }
def nAO (U : State) : Prop := va_AO "NextStall$Fair" U ∧ va_AO "NextStall$Rule" U ∧ va_AO "NextStall$World" U
def rNQ (D : va_G) (K : Nat → ClassId) (Po : va_W → Prop) (A : Nat → Prop) : Array Value → State → Outcome → State → Prop := fun _ st oc t =>
  (oc = .returned none ∧ ∃ w, Po w ∧ va_P D vwCl w t.heap ∧ va_K D vwCl (ty7 K) t ∧ va_D A w) ∧ va_F A st t
def rN (l : Launch) (D : va_G) (Z : (Nat → Nat) × (Nat → Nat)) (K : Nat → ClassId) (M : rx_M) (R : Room) (pc : Nat) (lv : List (Nat × Value)) (st : List Value) (ws : va_W) (cells slots : Nat) (Po : va_W → Prop) (mc ms : Nat) : Prop :=
  ∀ (p : Program) (e : Env) (s : State) (m : MethodId) (args : Array Value) (below : List Frame) (meth : Method) (c : Code) (A : Nat → Prop), rC D Z (ty7 K) M p s m args meth c A → meth.name = "<init>" → nAO s →
    ∀ (H : Heap) (locs : List Loc) (ls : Array Slot), va_P D vwCl ws H → va_D A ws → va_S A s.heap H locs → lv_has ls M.2.2.2.1 lv →
      W p l e R s m args below meth c H locs cells slots (MQ below (rNQ D K Po A) args s mc ms A) (F0 m pc ls st)
def nMet (l : Launch) (D : va_G) (Z : (Nat → Nat) × (Nat → Nat)) (K : Nat → ClassId) (M : rx_M) (av : List Value) (ws : va_W) (Po : va_W → Prop) (mc ms : Nat) : Prop :=
  ∀ sz : Nat, Met l M.2.1 (rTs M) (nr M.2.2.2.2.2 mc ms) (va_Pc av (fun U => U.heap.size = sz ∧ va_P D vwCl ws U.heap ∧ va_K D vwCl (ty7 K) U ∧ va_D (fun _ => True) ws ∧ rX Z (va_A ws sz) U U.heap ∧ nAO U)) (rNQ D K Po (va_A ws sz)) mc ms (va_A ws sz)
section RN
variable {l : Launch} {D : va_G} {Z : (Nat → Nat) × (Nat → Nat)} {K : Nat → ClassId} {M : rx_M} {R : Room} {pc : Nat} {lv lv' : List (Nat × Value)} {st : List Value} {ws : va_W} {bs bs1 : List va_W} {b : va_W} {cells slots : Nat} {Po : va_W → Prop} {mc ms : Nat}
theorem nMet.of {av : List Value} (hy : plainName M.2.1.cls = true) (hown : M.1 = M.2.1.cls) (hini : M.2.1.name = "<init>") (hn : (lg_sl av).length ≤ M.2.2.2.1) (k : rN l D Z K M (nr M.2.2.2.2.2 mc ms) 0 (lv_args 0 av) [] ws 0 0 Po mc ms) : nMet l D Z K M av ws Po mc ms := by
  intro sz
  refine Met.ofW (cc := M.2.2.1) (maxL := M.2.2.2.1) (ret := M.2.2.2.2.1) hy rfl ?_
  intro p e s m args below meth c s₁ B hml hv
  obtain ⟨rfl, hsz, hP, hK, hD0, hX0, hO⟩ := hv
  subst hsz
  have hts := atoms_spec (ws := rTs M) B.pre
  have hown' : s.vm.findClass M.1 = some m.cls := by rw [hown]; exact findClass_of_methodNamed B.named
  have hin : meth.name = "<init>" := ((name_of_methodNamed B.named B.method).1).trans hini
  rw [lg_entry_eq]
  exact k p e s m _ below meth c _ ⟨B.exec, B.bytes, B.returns, hml, hown', hts, B.notSynchronized, hK, fun q h => Or.inr h, hX0⟩ hin hO s.heap [] _ hP (hD0.self (sz := s.heap.size)) va_S.rf (lv_entry av hn)
theorem n_sub (ks : List Nat) (hl : lv_pick lv ks = lv') (k : rN l D Z K M R pc lv' st ws cells slots Po mc ms) : rN l D Z K M R pc lv st ws cells slots Po mc ms :=
  fun p e s m args below meth c A C hi ho H locs ls hP hD hS hl0 => k p e s m args below meth c A C hi ho H locs ls hP hD hS (lv_sub hl0 ks hl)
theorem n_iconst {n : Int} {x : Int32} (hdg : decode M.2.2.1 pc = .ok (.iconst n, 1)) (hv : Int32.ofInt n = x) (k : rN l D Z K M R (pc + 1) lv (.int x :: st) ws cells slots Po mc ms) : rN l D Z K M R pc lv st ws cells slots Po mc ms :=
  fun p e s m args below meth c A C hi ho H locs ls hP hD hS hl => lv_iconst C.1 C.2.1 hdg hv (k p e s m args below meth c A C hi ho H locs ls hP hD hS hl)
theorem n_bipush {n : Int} {x : Int32} (hdg : decode M.2.2.1 pc = .ok (.bipush n, 2)) (hv : (Int8.ofInt n).toInt32 = x) (k : rN l D Z K M R (pc + 2) lv (.int x :: st) ws cells slots Po mc ms) : rN l D Z K M R pc lv st ws cells slots Po mc ms :=
  fun p e s m args below meth c A C hi ho H locs ls hP hD hS hl => lv_bipush C.1 C.2.1 hdg hv (k p e s m args below meth c A C hi ho H locs ls hP hD hS hl)
theorem n_sipush {n : Int} {x : Int32} (hdg : decode M.2.2.1 pc = .ok (.sipush n, 3)) (hv : (Int16.ofInt n).toInt32 = x) (k : rN l D Z K M R (pc + 3) lv (.int x :: st) ws cells slots Po mc ms) : rN l D Z K M R pc lv st ws cells slots Po mc ms :=
  fun p e s m args below meth c A C hi ho H locs ls hP hD hS hl => lv_sipush C.1 C.2.1 hdg hv (k p e s m args below meth c A C hi ho H locs ls hP hD hS hl)
theorem n_iload_n (q : Nat) {i : Fin 4} {x : Int32} (hdg : decode M.2.2.1 pc = .ok (.iload_n i, 1)) (hl0 : lv[q]? = some ((i : Nat), .int x)) (k : rN l D Z K M R (pc + 1) lv (.int x :: st) ws cells slots Po mc ms) : rN l D Z K M R pc lv st ws cells slots Po mc ms :=
  fun p e s m args below meth c A C hi ho H locs ls hP hD hS hl => lv_iload_n C.1 C.2.1 hdg rfl (lv_at hl q hl0) (k p e s m args below meth c A C hi ho H locs ls hP hD hS hl)
theorem n_iload (q : Nat) {i : Nat} {x : Int32} (hdg : decode M.2.2.1 pc = .ok (.iload i, 2)) (hl0 : lv[q]? = some (i, .int x)) (k : rN l D Z K M R (pc + 2) lv (.int x :: st) ws cells slots Po mc ms) : rN l D Z K M R pc lv st ws cells slots Po mc ms :=
  fun p e s m args below meth c A C hi ho H locs ls hP hD hS hl => lv_iload C.1 C.2.1 hdg (lv_at hl q hl0) (k p e s m args below meth c A C hi ho H locs ls hP hD hS hl)
theorem n_aload_n (q : Nat) {i : Fin 4} {x : Nat} (hdg : decode M.2.2.1 pc = .ok (.aload_n i, 1)) (hl0 : lv[q]? = some ((i : Nat), .ref x)) (k : rN l D Z K M R (pc + 1) lv (.ref x :: st) ws cells slots Po mc ms) : rN l D Z K M R pc lv st ws cells slots Po mc ms :=
  fun p e s m args below meth c A C hi ho H locs ls hP hD hS hl => lv_aload_n C.1 C.2.1 hdg rfl (lv_at hl q hl0) (k p e s m args below meth c A C hi ho H locs ls hP hD hS hl)
theorem n_aload (q : Nat) {i : Nat} {x : Nat} (hdg : decode M.2.2.1 pc = .ok (.aload i, 2)) (hl0 : lv[q]? = some (i, .ref x)) (k : rN l D Z K M R (pc + 2) lv (.ref x :: st) ws cells slots Po mc ms) : rN l D Z K M R pc lv st ws cells slots Po mc ms :=
  fun p e s m args below meth c A C hi ho H locs ls hP hD hS hl => lv_aload C.1 C.2.1 hdg (lv_at hl q hl0) (k p e s m args below meth c A C hi ho H locs ls hP hD hS hl)
theorem n_istore_n {i : Fin 4} {x : Int32} (hdg : decode M.2.2.1 pc = .ok (.istore_n i, 1)) (hn : (i : Nat) < M.2.2.2.1) (hl0 : ((i : Nat), Value.int x) :: lv.filter (fun q => !(q.1 == (i : Nat)) && !(q.1 + 1 == (i : Nat) && q.2.category == 2)) = lv') (k : rN l D Z K M R (pc + 1) lv' st ws cells slots Po mc ms) : rN l D Z K M R pc lv (.int x :: st) ws cells slots Po mc ms :=
  fun p e s m args below meth c A C hi ho H locs ls hP hD hS hl => lv_istore_n C.1 C.2.1 hdg rfl hl hn hl0 (fun ls hl => k p e s m args below meth c A C hi ho H locs ls hP hD hS hl)
theorem n_istore {i : Nat} {x : Int32} (hdg : decode M.2.2.1 pc = .ok (.istore i, 2)) (hn : i < M.2.2.2.1) (hl0 : (i, Value.int x) :: lv.filter (fun q => !(q.1 == i) && !(q.1 + 1 == i && q.2.category == 2)) = lv') (k : rN l D Z K M R (pc + 2) lv' st ws cells slots Po mc ms) : rN l D Z K M R pc lv (.int x :: st) ws cells slots Po mc ms :=
  fun p e s m args below meth c A C hi ho H locs ls hP hD hS hl => lv_istore C.1 C.2.1 hdg hl hn hl0 (fun ls hl => k p e s m args below meth c A C hi ho H locs ls hP hD hS hl)
theorem n_astore_n {i : Fin 4} {x : Nat} (hdg : decode M.2.2.1 pc = .ok (.astore_n i, 1)) (hn : (i : Nat) < M.2.2.2.1) (hl0 : ((i : Nat), Value.ref x) :: lv.filter (fun q => !(q.1 == (i : Nat)) && !(q.1 + 1 == (i : Nat) && q.2.category == 2)) = lv') (k : rN l D Z K M R (pc + 1) lv' st ws cells slots Po mc ms) : rN l D Z K M R pc lv (.ref x :: st) ws cells slots Po mc ms :=
  fun p e s m args below meth c A C hi ho H locs ls hP hD hS hl => lv_astore_n C.1 C.2.1 hdg rfl hl hn hl0 (fun ls hl => k p e s m args below meth c A C hi ho H locs ls hP hD hS hl)
theorem n_astore {i : Nat} {x : Nat} (hdg : decode M.2.2.1 pc = .ok (.astore i, 2)) (hn : i < M.2.2.2.1) (hl0 : (i, Value.ref x) :: lv.filter (fun q => !(q.1 == i) && !(q.1 + 1 == i && q.2.category == 2)) = lv') (k : rN l D Z K M R (pc + 2) lv' st ws cells slots Po mc ms) : rN l D Z K M R pc lv (.ref x :: st) ws cells slots Po mc ms :=
  fun p e s m args below meth c A C hi ho H locs ls hP hD hS hl => lv_astore C.1 C.2.1 hdg hl hn hl0 (fun ls hl => k p e s m args below meth c A C hi ho H locs ls hP hD hS hl)
theorem n_iinc (q : Nat) {i : Nat} {n : Int} {x y : Int32} (hdg : decode M.2.2.1 pc = .ok (.iinc i n, 3)) (hl1 : lv[q]? = some (i, .int x)) (hv : x + Int32.ofInt n = y) (hn : i < M.2.2.2.1) (hl0 : (i, Value.int y) :: lv.filter (fun q => !(q.1 == i) && !(q.1 + 1 == i && q.2.category == 2)) = lv') (k : rN l D Z K M R (pc + 3) lv' st ws cells slots Po mc ms) : rN l D Z K M R pc lv st ws cells slots Po mc ms :=
  fun p e s m args below meth c A C hi ho H locs ls hP hD hS hl => lv_iinc C.1 C.2.1 hdg hl hl1 hv hn hl0 (fun ls hl => k p e s m args below meth c A C hi ho H locs ls hP hD hS hl)
theorem n_dup {va : Value} (hdg : decode M.2.2.1 pc = .ok (.dup, 1)) (hva : va.category = 1) (k : rN l D Z K M R (pc + 1) lv (va :: va :: st) ws cells slots Po mc ms) : rN l D Z K M R pc lv (va :: st) ws cells slots Po mc ms :=
  fun p e s m args below meth c A C hi ho H locs ls hP hD hS hl => lv_dup C.1 C.2.1 hdg hva (k p e s m args below meth c A C hi ho H locs ls hP hD hS hl)
theorem n_goto {off : Int} (tgt : Nat) (hdg : decode M.2.2.1 pc = .ok (.goto off, 3)) (ht : (pc : Int) + off = (tgt : Int)) (k : rN l D Z K M R tgt lv st ws cells slots Po mc ms) : rN l D Z K M R pc lv st ws cells slots Po mc ms :=
  fun p e s m args below meth c A C hi ho H locs ls hP hD hS hl => lv_goto C.1 C.2.1 hdg ht (k p e s m args below meth c A C hi ho H locs ls hP hD hS hl)
theorem n_icmp_ge {x y : Int32} {off : Int} (tgt : Nat) (hdg : decode M.2.2.1 pc = .ok (.if_icmp .ge off, 3)) (ht : (pc : Int) + off = (tgt : Int)) (kt : y ≤ x → rN l D Z K M R tgt lv st ws cells slots Po mc ms) (kf : ¬ (y ≤ x) → rN l D Z K M R (pc + 3) lv st ws cells slots Po mc ms) : rN l D Z K M R pc lv (.int y :: .int x :: st) ws cells slots Po mc ms :=
  fun p e s m args below meth c A C hi ho H locs ls hP hD hS hl => lv_icmp_ge C.1 C.2.1 hdg ht (fun h => kt h p e s m args below meth c A C hi ho H locs ls hP hD hS hl) (fun h => kf h p e s m args below meth c A C hi ho H locs ls hP hD hS hl)
theorem n_icmp_lt {x y : Int32} {off : Int} (tgt : Nat) (hdg : decode M.2.2.1 pc = .ok (.if_icmp .lt off, 3)) (ht : (pc : Int) + off = (tgt : Int)) (kt : x < y → rN l D Z K M R tgt lv st ws cells slots Po mc ms) (kf : ¬ (x < y) → rN l D Z K M R (pc + 3) lv st ws cells slots Po mc ms) : rN l D Z K M R pc lv (.int y :: .int x :: st) ws cells slots Po mc ms :=
  fun p e s m args below meth c A C hi ho H locs ls hP hD hS hl => lv_icmp_lt C.1 C.2.1 hdg ht (fun h => kt h p e s m args below meth c A C hi ho H locs ls hP hD hS hl) (fun h => kf h p e s m args below meth c A C hi ho H locs ls hP hD hS hl)
theorem n_vret (hr : M.2.2.2.2.1 = none) (hp : Po ws) (h1 : cells = mc) (h2 : slots = ms) (hdg : decode M.2.2.1 pc = .ok (.return_, 1)) : rN l D Z K M R pc lv [] ws cells slots Po mc ms := by
  subst h1; subst h2
  exact fun p e s m args below meth c A C hi ho H locs ls hP hD hS hl => W.vret C.1 C.2.1 (C.2.2.1.trans hr) (fun t ht hW => ⟨⟨rfl, ws, hp, by rw [ht]; exact hP, va_K.moved hW.alike C.2.2.2.2.2.2.2.1, hD⟩, hS.F ht⟩) hS.2.2 hdg C.2.2.2.2.2.2.1
theorem n_obj {a index : Nat} (w1 : Cond.methodLink M.1 index Lib.objectInit ∈ TB) (w2 : Cond.instanceMethod Lib.objectInit ∈ TB) (w3 : Cond.code Lib.objectInit ⟨#[0xb1]⟩ 1 none ∈ TB) (hf : 1 ≤ R.frames) (hl0 : (st.map fun v => v.category).sum + 12 ≤ R.locals) (hdg : decode M.2.2.1 pc = .ok (.invokespecial index, 3)) (k : rN l D Z K M R (pc + 3) lv st ws cells slots Po mc ms) : rN l D Z K M R pc lv (.ref a :: st) ws cells slots Po mc ms := by
  intro p e s m args below meth c A C hi ho H locs ls hP hD hS hl
  have hts := C.2.2.2.2.2.1
  exact W.objInit C.1 C.2.1 C.2.2.2.2.1 (hts _ (List.mem_cons_of_mem _ w1)) (hts _ (List.mem_cons_of_mem _ w2)) (hts _ (List.mem_cons_of_mem _ w3)) rfl (hl.1.trans C.2.2.2.1.symm) rfl hdg hf (by show 2 * 0 + _ + 12 ≤ R.locals; omega) (k p e s m args below meth c A C hi ho H locs ls hP hD hS hl)
end RN
