/-! Constructors: worlds grow. The judgement has the cells and slots that are made; the end is a property of the last world. -/
def nr (k mc ms : Nat) : Room := { frames := k, cells := mc, slots := ms, locals := 60 * k }
def nAO (U : State) : Prop := va_AO "NextStall$Fair" U ∧ va_AO "NextStall$Rule" U ∧ va_AO "NextStall$World" U
def rNQ (D : va_G) (K : Nat → ClassId) (Po : va_W → Prop) (A : Nat → Prop) : Array Value → State → Outcome → State → Prop := fun _ st oc t =>
  (oc = .returned none ∧ ∃ w, Po w ∧ va_P D vwCl w t.heap ∧ va_K D vwCl (ty7 K) t ∧ va_D A w) ∧ va_F A st t
def rN (l : Launch) (D : va_G) (Z : (Nat → Nat) × (Nat → Nat)) (K : Nat → ClassId) (M : rx_M) (pc : Nat) (lv : List (Nat × Value)) (st : List Value) (ws : va_W) (cells slots : Nat) (Po : va_W → Prop) (mc ms : Nat) : Prop :=
  ∀ (p : Program) (e : Env) (s : State) (m : MethodId) (args : Array Value) (below : List Frame) (meth : Method) (c : Code) (A : Nat → Prop), rC D Z (ty7 K) M p s m args meth c A → meth.name = "<init>" → nAO s →
    ∀ (H : Heap) (locs : List Loc) (ls : Array Slot), va_P D vwCl ws H → va_D A ws → va_S A s.heap H locs → lv_has ls M.2.2.2.1 lv →
      W p l e (nr M.2.2.2.2.2 mc ms) s m args below meth c H locs cells slots (MQ below (rNQ D K Po A) args s mc ms A) (F0 m pc ls st)
def nMet (l : Launch) (D : va_G) (Z : (Nat → Nat) × (Nat → Nat)) (K : Nat → ClassId) (M : rx_M) (av : List Value) (ws : va_W) (Po : va_W → Prop) (mc ms : Nat) : Prop :=
  ∀ sz : Nat, Met l M.2.1 (rTs M) (nr M.2.2.2.2.2 mc ms) (va_Pc av (fun U => U.heap.size = sz ∧ va_P D vwCl ws U.heap ∧ va_K D vwCl (ty7 K) U ∧ va_D (fun _ => True) ws ∧ rX Z (va_A ws sz) U U.heap ∧ nAO U)) (rNQ D K Po (va_A ws sz)) mc ms (va_A ws sz)
theorem nAO.same {U V : State} (h : nAO U) (hv : V.vm = U.vm) : nAO V := ⟨va_AO.moved (u := U) (by rw [hv]; exact Vm.Alike.refl U.vm) h.1, va_AO.moved (u := U) (by rw [hv]; exact Vm.Alike.refl U.vm) h.2.1, va_AO.moved (u := U) (by rw [hv]; exact Vm.Alike.refl U.vm) h.2.2⟩
theorem nAO.warm {s U : State} (h : nAO s) (hW : s.WarmedH U.vm) : nAO U := ⟨va_AO.moved hW.alike h.1, va_AO.moved hW.alike h.2.1, va_AO.moved hW.alike h.2.2⟩
section RN
variable {l : Launch} {D : va_G} {Z : (Nat → Nat) × (Nat → Nat)} {K : Nat → ClassId} {M : rx_M} {pc : Nat} {lv lv' : List (Nat × Value)} {st : List Value} {ws : va_W} {bs bs1 : List va_W} {b : va_W} {cells slots : Nat} {Po : va_W → Prop} {mc ms : Nat}
theorem nMet.of {av : List Value} (hy : plainName M.2.1.cls = true) (hown : M.1 = M.2.1.cls) (hini : M.2.1.name = "<init>") (hn : (lg_sl av).length ≤ M.2.2.2.1) (k : rN l D Z K M 0 (lv_args 0 av) [] ws 0 0 Po mc ms) : nMet l D Z K M av ws Po mc ms := by
  intro sz
  refine Met.ofW (cc := M.2.2.1) (maxL := M.2.2.2.1) (ret := M.2.2.2.2.1) hy rfl ?_
  intro p e s m args below meth c s₁ B hml hv
  obtain ⟨rfl, hsz, hP, hK, hD0, hX0, hO⟩ := hv
  subst hsz
  have hts := atoms_spec (ws := rTs M) B.pre
  have hown' : s.vm.findClass M.1 = some m.cls := by rw [hown]; exact findClass_of_methodNamed B.named
  have hin : meth.name = "<init>" := ((name_of_methodNamed B.named B.method).1).trans hini
  rw [lg_entry_eq]
  exact k p e s m _ below meth c _ ⟨B.exec, B.bytes, B.returns, hml, hown', hts, B.notSynchronized, hK, fun q h => Or.inr h, hX0⟩ hin hO s.heap [] _ hP (hD0.self (sz := s.heap.size)) va_S.rf (lv_entry av hn)
theorem n_sub (ks : List Nat) (hl : lv_pick lv ks = lv') (k : rN l D Z K M pc lv' st ws cells slots Po mc ms) : rN l D Z K M pc lv st ws cells slots Po mc ms :=
  fun p e s m args below meth c A C hi ho H locs ls hP hD hS hl0 => k p e s m args below meth c A C hi ho H locs ls hP hD hS (lv_sub hl0 ks hl)
theorem n_iconst {n : Int} {x : Int32} (hdg : decode M.2.2.1 pc = .ok (.iconst n, 1)) (hv : Int32.ofInt n = x) (k : rN l D Z K M (pc + 1) lv (.int x :: st) ws cells slots Po mc ms) : rN l D Z K M pc lv st ws cells slots Po mc ms :=
  fun p e s m args below meth c A C hi ho H locs ls hP hD hS hl => lv_iconst C.1 C.2.1 hdg hv (k p e s m args below meth c A C hi ho H locs ls hP hD hS hl)
theorem n_bipush {n : Int} {x : Int32} (hdg : decode M.2.2.1 pc = .ok (.bipush n, 2)) (hv : (Int8.ofInt n).toInt32 = x) (k : rN l D Z K M (pc + 2) lv (.int x :: st) ws cells slots Po mc ms) : rN l D Z K M pc lv st ws cells slots Po mc ms :=
  fun p e s m args below meth c A C hi ho H locs ls hP hD hS hl => lv_bipush C.1 C.2.1 hdg hv (k p e s m args below meth c A C hi ho H locs ls hP hD hS hl)
theorem n_sipush {n : Int} {x : Int32} (hdg : decode M.2.2.1 pc = .ok (.sipush n, 3)) (hv : (Int16.ofInt n).toInt32 = x) (k : rN l D Z K M (pc + 3) lv (.int x :: st) ws cells slots Po mc ms) : rN l D Z K M pc lv st ws cells slots Po mc ms :=
  fun p e s m args below meth c A C hi ho H locs ls hP hD hS hl => lv_sipush C.1 C.2.1 hdg hv (k p e s m args below meth c A C hi ho H locs ls hP hD hS hl)
theorem n_iload_n (q : Nat) {i : Fin 4} {x : Int32} (hdg : decode M.2.2.1 pc = .ok (.iload_n i, 1)) (hl0 : lv[q]? = some ((i : Nat), .int x)) (k : rN l D Z K M (pc + 1) lv (.int x :: st) ws cells slots Po mc ms) : rN l D Z K M pc lv st ws cells slots Po mc ms :=
  fun p e s m args below meth c A C hi ho H locs ls hP hD hS hl => lv_iload_n C.1 C.2.1 hdg rfl (lv_at hl q hl0) (k p e s m args below meth c A C hi ho H locs ls hP hD hS hl)
theorem n_iload (q : Nat) {i : Nat} {x : Int32} (hdg : decode M.2.2.1 pc = .ok (.iload i, 2)) (hl0 : lv[q]? = some (i, .int x)) (k : rN l D Z K M (pc + 2) lv (.int x :: st) ws cells slots Po mc ms) : rN l D Z K M pc lv st ws cells slots Po mc ms :=
  fun p e s m args below meth c A C hi ho H locs ls hP hD hS hl => lv_iload C.1 C.2.1 hdg (lv_at hl q hl0) (k p e s m args below meth c A C hi ho H locs ls hP hD hS hl)
theorem n_aload_n (q : Nat) {i : Fin 4} {x : Nat} (hdg : decode M.2.2.1 pc = .ok (.aload_n i, 1)) (hl0 : lv[q]? = some ((i : Nat), .ref x)) (k : rN l D Z K M (pc + 1) lv (.ref x :: st) ws cells slots Po mc ms) : rN l D Z K M pc lv st ws cells slots Po mc ms :=
  fun p e s m args below meth c A C hi ho H locs ls hP hD hS hl => lv_aload_n C.1 C.2.1 hdg rfl (lv_at hl q hl0) (k p e s m args below meth c A C hi ho H locs ls hP hD hS hl)
theorem n_aload (q : Nat) {i : Nat} {x : Nat} (hdg : decode M.2.2.1 pc = .ok (.aload i, 2)) (hl0 : lv[q]? = some (i, .ref x)) (k : rN l D Z K M (pc + 2) lv (.ref x :: st) ws cells slots Po mc ms) : rN l D Z K M pc lv st ws cells slots Po mc ms :=
  fun p e s m args below meth c A C hi ho H locs ls hP hD hS hl => lv_aload C.1 C.2.1 hdg (lv_at hl q hl0) (k p e s m args below meth c A C hi ho H locs ls hP hD hS hl)
theorem n_istore_n {i : Fin 4} {x : Int32} (hdg : decode M.2.2.1 pc = .ok (.istore_n i, 1)) (hn : (i : Nat) < M.2.2.2.1) (hl0 : ((i : Nat), Value.int x) :: lv.filter (fun q => !(q.1 == (i : Nat)) && !(q.1 + 1 == (i : Nat) && q.2.category == 2)) = lv') (k : rN l D Z K M (pc + 1) lv' st ws cells slots Po mc ms) : rN l D Z K M pc lv (.int x :: st) ws cells slots Po mc ms :=
  fun p e s m args below meth c A C hi ho H locs ls hP hD hS hl => lv_istore_n C.1 C.2.1 hdg rfl hl hn hl0 (fun ls hl => k p e s m args below meth c A C hi ho H locs ls hP hD hS hl)
theorem n_istore {i : Nat} {x : Int32} (hdg : decode M.2.2.1 pc = .ok (.istore i, 2)) (hn : i < M.2.2.2.1) (hl0 : (i, Value.int x) :: lv.filter (fun q => !(q.1 == i) && !(q.1 + 1 == i && q.2.category == 2)) = lv') (k : rN l D Z K M (pc + 2) lv' st ws cells slots Po mc ms) : rN l D Z K M pc lv (.int x :: st) ws cells slots Po mc ms :=
  fun p e s m args below meth c A C hi ho H locs ls hP hD hS hl => lv_istore C.1 C.2.1 hdg hl hn hl0 (fun ls hl => k p e s m args below meth c A C hi ho H locs ls hP hD hS hl)
theorem n_astore_n {i : Fin 4} {x : Nat} (hdg : decode M.2.2.1 pc = .ok (.astore_n i, 1)) (hn : (i : Nat) < M.2.2.2.1) (hl0 : ((i : Nat), Value.ref x) :: lv.filter (fun q => !(q.1 == (i : Nat)) && !(q.1 + 1 == (i : Nat) && q.2.category == 2)) = lv') (k : rN l D Z K M (pc + 1) lv' st ws cells slots Po mc ms) : rN l D Z K M pc lv (.ref x :: st) ws cells slots Po mc ms :=
  fun p e s m args below meth c A C hi ho H locs ls hP hD hS hl => lv_astore_n C.1 C.2.1 hdg rfl hl hn hl0 (fun ls hl => k p e s m args below meth c A C hi ho H locs ls hP hD hS hl)
theorem n_astore {i : Nat} {x : Nat} (hdg : decode M.2.2.1 pc = .ok (.astore i, 2)) (hn : i < M.2.2.2.1) (hl0 : (i, Value.ref x) :: lv.filter (fun q => !(q.1 == i) && !(q.1 + 1 == i && q.2.category == 2)) = lv') (k : rN l D Z K M (pc + 2) lv' st ws cells slots Po mc ms) : rN l D Z K M pc lv (.ref x :: st) ws cells slots Po mc ms :=
  fun p e s m args below meth c A C hi ho H locs ls hP hD hS hl => lv_astore C.1 C.2.1 hdg hl hn hl0 (fun ls hl => k p e s m args below meth c A C hi ho H locs ls hP hD hS hl)
theorem n_iinc (q : Nat) {i : Nat} {n : Int} {x y : Int32} (hdg : decode M.2.2.1 pc = .ok (.iinc i n, 3)) (hl1 : lv[q]? = some (i, .int x)) (hv : x + Int32.ofInt n = y) (hn : i < M.2.2.2.1) (hl0 : (i, Value.int y) :: lv.filter (fun q => !(q.1 == i) && !(q.1 + 1 == i && q.2.category == 2)) = lv') (k : rN l D Z K M (pc + 3) lv' st ws cells slots Po mc ms) : rN l D Z K M pc lv st ws cells slots Po mc ms :=
  fun p e s m args below meth c A C hi ho H locs ls hP hD hS hl => lv_iinc C.1 C.2.1 hdg hl hl1 hv hn hl0 (fun ls hl => k p e s m args below meth c A C hi ho H locs ls hP hD hS hl)
theorem n_dup {va : Value} (hdg : decode M.2.2.1 pc = .ok (.dup, 1)) (hva : va.category = 1) (k : rN l D Z K M (pc + 1) lv (va :: va :: st) ws cells slots Po mc ms) : rN l D Z K M pc lv (va :: st) ws cells slots Po mc ms :=
  fun p e s m args below meth c A C hi ho H locs ls hP hD hS hl => lv_dup C.1 C.2.1 hdg hva (k p e s m args below meth c A C hi ho H locs ls hP hD hS hl)
theorem n_goto {off : Int} (tgt : Nat) (hdg : decode M.2.2.1 pc = .ok (.goto off, 3)) (ht : (pc : Int) + off = (tgt : Int)) (k : rN l D Z K M tgt lv st ws cells slots Po mc ms) : rN l D Z K M pc lv st ws cells slots Po mc ms :=
  fun p e s m args below meth c A C hi ho H locs ls hP hD hS hl => lv_goto C.1 C.2.1 hdg ht (k p e s m args below meth c A C hi ho H locs ls hP hD hS hl)
theorem n_icmp_ge {x y : Int32} {off : Int} (tgt : Nat) (hdg : decode M.2.2.1 pc = .ok (.if_icmp .ge off, 3)) (ht : (pc : Int) + off = (tgt : Int)) (kt : y ≤ x → rN l D Z K M tgt lv st ws cells slots Po mc ms) (kf : ¬ (y ≤ x) → rN l D Z K M (pc + 3) lv st ws cells slots Po mc ms) : rN l D Z K M pc lv (.int y :: .int x :: st) ws cells slots Po mc ms :=
  fun p e s m args below meth c A C hi ho H locs ls hP hD hS hl => lv_icmp_ge C.1 C.2.1 hdg ht (fun h => kt h p e s m args below meth c A C hi ho H locs ls hP hD hS hl) (fun h => kf h p e s m args below meth c A C hi ho H locs ls hP hD hS hl)
theorem n_icmp_lt {x y : Int32} {off : Int} (tgt : Nat) (hdg : decode M.2.2.1 pc = .ok (.if_icmp .lt off, 3)) (ht : (pc : Int) + off = (tgt : Int)) (kt : x < y → rN l D Z K M tgt lv st ws cells slots Po mc ms) (kf : ¬ (x < y) → rN l D Z K M (pc + 3) lv st ws cells slots Po mc ms) : rN l D Z K M pc lv (.int y :: .int x :: st) ws cells slots Po mc ms :=
  fun p e s m args below meth c A C hi ho H locs ls hP hD hS hl => lv_icmp_lt C.1 C.2.1 hdg ht (fun h => kt h p e s m args below meth c A C hi ho H locs ls hP hD hS hl) (fun h => kf h p e s m args below meth c A C hi ho H locs ls hP hD hS hl)
theorem n_vret (hr : M.2.2.2.2.1 = none) (hp : Po ws) (h1 : cells = mc) (h2 : slots = ms) (hdg : decode M.2.2.1 pc = .ok (.return_, 1)) : rN l D Z K M pc lv [] ws cells slots Po mc ms := by
  subst h1; subst h2
  exact fun p e s m args below meth c A C hi ho H locs ls hP hD hS hl => W.vret C.1 C.2.1 (C.2.2.1.trans hr) (fun t ht hW => ⟨⟨rfl, ws, hp, by rw [ht]; exact hP, va_K.moved hW.alike C.2.2.2.2.2.2.2.1, hD⟩, hS.F ht⟩) hS.2.2 hdg C.2.2.2.2.2.2.1
theorem n_obj {a index : Nat} (w1 : Cond.methodLink M.1 index Lib.objectInit ∈ TB) (w2 : Cond.instanceMethod Lib.objectInit ∈ TB) (w3 : Cond.code Lib.objectInit ⟨#[0xb1]⟩ 1 none ∈ TB) (hf : 1 ≤ M.2.2.2.2.2) (hl0 : (st.map fun v => v.category).sum ≤ 8) (hdg : decode M.2.2.1 pc = .ok (.invokespecial index, 3)) (k : rN l D Z K M (pc + 3) lv st ws cells slots Po mc ms) : rN l D Z K M pc lv (.ref a :: st) ws cells slots Po mc ms := by
  intro p e s m args below meth c A C hi ho H locs ls hP hD hS hl
  have hts := C.2.2.2.2.2.1
  exact W.objInit C.1 C.2.1 C.2.2.2.2.1 (hts _ (List.mem_cons_of_mem _ w1)) (hts _ (List.mem_cons_of_mem _ w2)) (hts _ (List.mem_cons_of_mem _ w3)) rfl (hl.1.trans C.2.2.2.1.symm) rfl hdg hf (by show 2 * 0 + (st.map fun v => v.category).sum + 12 ≤ 60 * M.2.2.2.2.2; omega) (k p e s m args below meth c A C hi ho H locs ls hP hD hS hl)
theorem n_perm {w2 : va_W} (h : ws.Perm w2) (k : rN l D Z K M pc lv st w2 cells slots Po mc ms) : rN l D Z K M pc lv st ws cells slots Po mc ms :=
  fun p e s m args below meth c A C hi ho H locs ls hP hD hS hl => k p e s m args below meth c A C hi ho H locs ls (vaP_perm h hP) (vaD_perm h hD) hS hl
theorem blk_reorder (is : List Nat) {bs2 : List va_W} (hp : is.Perm (List.range bs.length)) (h0 : (List.range bs.length).map (fun i => bs.getD i []) = bs) (h : is.map (fun i => bs.getD i []) = bs2) : bs.flatten.Perm bs2.flatten := by
  rw [← h]
  have h1 := (hp.map (fun i => bs.getD i [])).flatten
  rw [h0] at h1
  exact h1.symm
theorem n_putF (i j ci k : Nat) {C : String} {T : u_T} {N index a : Nat} {fs : List Value} {x : Value} {ty : FieldType} (hin : ∀ w ∈ u_ws C T N, w ∈ TB) (hc : vwCl[ci]? = some (C, T, N)) (hk : k < N) (hw : Cond.fieldLink M.1 index (T k).1 (T k).2.1 (T k).2.2.1 ∈ TB) (ty0 : Nat → FieldType) (hty : ∀ k, k < N → parseFieldDescriptor (T k).2.2.1 = some (ty0 k)) (hnm : ∀ a, a < N → ∀ b, b < N → a ≠ b → (T a).2.1 ≠ (T b).2.1) (hfin : (T k).2.2.2 = true) (hdecl : (T k).1 = M.1) (hd : ty0 k = ty) (hb : bs[i]? = some b) (hq : b[j]? = some (a, .inr (ci, fs))) (hl0 : k < fs.length) (hn : narrow ty x = x) (hfit : fits ty x = true) (h1 : bs.set i (b.set j (a, .inr (ci, fs.set k x))) = bs1) (hdg : decode M.2.2.1 pc = .ok (.putfield index, 3)) (kk : rN l D Z K M (pc + 3) lv st bs1.flatten cells slots Po mc ms) : rN l D Z K M pc lv (x :: .ref a :: st) bs.flatten cells slots Po mc ms := by
  obtain ⟨q0, g1, g2⟩ := fl_at hb hq
  intro p e s m args below meth c A C0 hi ho H locs ls hP hD hS hl
  refine va_putF C0.1 C0.2.1 C0.2.2.2.2.2.1 (fun w h => List.mem_cons_of_mem _ (hin w h)) ty0 hty hnm C0.2.2.2.2.1 C0.2.2.2.2.2.2.2.1 hP hD hS q0 g1 hc k hk (C0.2.2.2.2.2.1 _ (List.mem_cons_of_mem _ hw)) (fun _ h => h) hfin hi hdecl (by rw [hty k hk, hd]) hn hfit hl0 hdg (fun H1 locs1 hP hD hS => ?_)
  rw [g2, h1] at hP hD
  exact kk p e s m args below meth c A C0 hi ho H1 locs1 ls hP hD hS hl
theorem n_put (i j ci k : Nat) {C : String} {T : u_T} {N index a : Nat} {fs : List Value} {x : Value} {ty : FieldType} (hin : ∀ w ∈ u_ws C T N, w ∈ TB) (hc : vwCl[ci]? = some (C, T, N)) (hk : k < N) (hw : Cond.fieldLink M.1 index (T k).1 (T k).2.1 (T k).2.2.1 ∈ TB) (ty0 : Nat → FieldType) (hty : ∀ k, k < N → parseFieldDescriptor (T k).2.2.1 = some (ty0 k)) (hnm : ∀ a, a < N → ∀ b, b < N → a ≠ b → (T a).2.1 ≠ (T b).2.1) (hfin : (T k).2.2.2 = false) (hd : ty0 k = ty) (hb : bs[i]? = some b) (hq : b[j]? = some (a, .inr (ci, fs))) (hl0 : k < fs.length) (hn : narrow ty x = x) (hfit : fits ty x = true) (h1 : bs.set i (b.set j (a, .inr (ci, fs.set k x))) = bs1) (hdg : decode M.2.2.1 pc = .ok (.putfield index, 3)) (kk : rN l D Z K M (pc + 3) lv st bs1.flatten cells slots Po mc ms) : rN l D Z K M pc lv (x :: .ref a :: st) bs.flatten cells slots Po mc ms := by
  obtain ⟨q0, g1, g2⟩ := fl_at hb hq
  intro p e s m args below meth c A C0 hi ho H locs ls hP hD hS hl
  refine va_put C0.1 C0.2.1 C0.2.2.2.2.2.1 (fun w h => List.mem_cons_of_mem _ (hin w h)) ty0 hty hnm C0.2.2.2.2.1 C0.2.2.2.2.2.2.2.1 hP hD hS q0 g1 hc k hk (C0.2.2.2.2.2.1 _ (List.mem_cons_of_mem _ hw)) (fun _ h => h) hfin (by rw [hty k hk, hd]) hn hfit hl0 hdg (fun H1 locs1 hP hD hS => ?_)
  rw [g2, h1] at hP hD
  exact kk p e s m args below meth c A C0 hi ho H1 locs1 ls hP hD hS hl
theorem fl_push {x : va_W} : bs.flatten ++ x = (bs ++ [x]).flatten := by rw [List.flatten_append]; simp
theorem n_new (ci : Nat) {C : String} {T : u_T} {N index : Nat} {fs : List Value} (hin : ∀ w ∈ u_ws C T N, w ∈ TB) (hc : vwCl[ci]? = some (C, T, N)) (ty0 : Nat → FieldType) (hty : ∀ k, k < N → parseFieldDescriptor (T k).2.2.1 = some (ty0 k)) (w1 : Cond.classLink M.1 index C ∈ TB) (w2 : Cond.instantiable C N ∈ TB) (w3 : Cond.initialized C ∈ TB) (hfs : ∀ j, j < N → defaultValue (ty0 j) = vp_V fs j) (hcells : cells + 1 ≤ mc) (hslots : slots + N ≤ ms) (hdg : decode M.2.2.1 pc = .ok (.new index, 3)) (kk : ∀ q : Nat, rN l D Z K M (pc + 3) lv (.ref q :: st) (bs ++ ([[(q, .inr (ci, fs))]] : List va_W)).flatten (cells + 1) (slots + N) Po mc ms) : rN l D Z K M pc lv st bs.flatten cells slots Po mc ms := by
  intro p e s m args below meth c A C0 hi ho H locs ls hP hD hS hl
  have hts := C0.2.2.2.2.2.1
  refine va_new C0.1 C0.2.1 hts (fun w h => List.mem_cons_of_mem _ (hin w h)) ty0 hty C0.2.2.2.2.1 (hts _ (List.mem_cons_of_mem _ w1)) (hts _ (List.mem_cons_of_mem _ w2)) (hts _ (List.mem_cons_of_mem _ w3)) C0.2.2.2.2.2.2.2.1 hP hD hS C0.2.2.2.2.2.2.2.2.1 hc hfs hcells hslots hdg (fun q H1 hP hD hS => ?_)
  rw [fl_push] at hP hD
  exact kk q p e s m args below meth c A C0 hi ho H1 locs ls hP hD hS hl
theorem n_newa (t : Nat) {atype : ArrayType} {ty : FieldType} {n : Int32} {N : Nat} {a0 : vp_A} (hw : Cond.arrayClass (newarray.typeOf atype) ∈ TB) (hty : newarray.typeOf atype = ty) (ht : (ty7 K)[t]? = some (K t, ty)) (hob : ∀ C, ty ≠ .object C) (ha : ∀ cA : ClassId, vp_cell cA a0 = arrV cA N (fun _ => defaultValue ty)) (hn : ¬ n < 0) (hN : n.toNatClampNeg = N) (hbytes : N * componentBytes ty ≤ 536870912) (hcells : cells + 1 ≤ mc) (hslots : slots + N ≤ ms) (hdg : decode M.2.2.1 pc = .ok (.newarray atype, 2)) (kk : ∀ q : Nat, rN l D Z K M (pc + 2) lv (.ref q :: st) (bs ++ ([[(q, .inl (K t, a0))]] : List va_W)).flatten (cells + 1) (slots + N) Po mc ms) : rN l D Z K M pc lv (.int n :: st) bs.flatten cells slots Po mc ms := by
  intro p e s m args below meth c A C0 hi ho H locs ls hP hD hS hl
  have hts := C0.2.2.2.2.2.1
  refine va_newa (atype := atype) C0.1 C0.2.1 (hts _ (List.mem_cons_of_mem _ hw)) hty C0.2.2.2.2.2.2.2.1 hP hD hS C0.2.2.2.2.2.2.2.2.1 ha hn hN hbytes hcells hslots hdg (fun q cA H1 hK1 hP hD hS => ?_)
  have e1 := (hK1.2 (ty7 K).length (cA, ty) (by rw [List.getElem?_append_right (Nat.le_refl _), Nat.sub_self]; rfl)).2
  have e2 := (C0.2.2.2.2.2.2.2.1.2 t (K t, ty) ht).2
  have ee : cA = K t := by
    cases ty with
    | object C => exact absurd rfl (hob C)
    | _ => exact Option.some.inj (e1.symm.trans e2)
  rw [ee, fl_push] at hP hD
  exact kk q p e s m args below meth c A C0 hi ho H1 locs ls hP hD hS hl
theorem n_newq (t : Nat) {C : String} {index : Nat} {n : Int32} {N : Nat} (w1 : Cond.classLink M.1 index C ∈ TB) (hAO : ∀ U, nAO U → va_AO C U) (ht : (ty7 K)[t]? = some (K t, .object C)) (hn : ¬ n < 0) (hN : n.toNatClampNeg = N) (hbytes : N * 4 ≤ 536870912) (hcells : cells + 1 ≤ mc) (hslots : slots + N ≤ ms) (hdg : decode M.2.2.1 pc = .ok (.anewarray index, 3)) (kk : ∀ q : Nat, rN l D Z K M (pc + 3) lv (.ref q :: st) (bs ++ ([[(q, .inl (K t, N, .inr (.inr (.inr (.inr (fun _ => none))))))]] : List va_W)).flatten (cells + 1) (slots + N) Po mc ms) : rN l D Z K M pc lv (.int n :: st) bs.flatten cells slots Po mc ms := by
  intro p e s m args below meth c A C0 hi ho H locs ls hP hD hS hl
  have hts := C0.2.2.2.2.2.1
  refine va_newq C0.1 C0.2.1 C0.2.2.2.2.1 (hts _ (List.mem_cons_of_mem _ w1)) (hAO s ho) C0.2.2.2.2.2.2.2.1 hP hD hS C0.2.2.2.2.2.2.2.2.1 hn hN hbytes hcells hslots hdg (fun q cA H1 hK1 hP hD hS => ?_)
  obtain ⟨_, _, _, _, _, e1⟩ := (hK1.2 (ty7 K).length (cA, .object C) (by rw [List.getElem?_append_right (Nat.le_refl _), Nat.sub_self]; rfl)).2
  obtain ⟨_, _, _, _, _, e2⟩ := (C0.2.2.2.2.2.2.2.1.2 t (K t, .object C) ht).2
  have ee : cA = K t := Option.some.inj (e1.symm.trans e2)
  rw [ee, fl_push] at hP hD
  exact kk q p e s m args below meth c A C0 hi ho H1 locs ls hP hD hS hl
/-- what the tables say of a constructor -/
def rKi (Mc : rx_M) : Prop := Cond.instanceMethod Mc.2.1 ∈ TB ∧ Cond.initialized Mc.2.1.cls ∈ TB ∧ Cond.code Mc.2.1 Mc.2.2.1 Mc.2.2.2.1 none ∈ TB ∧ (Mc.2.1.cls ≠ "java/lang/invoke/MethodHandle" ∧ Mc.2.1.cls ≠ "java/lang/invoke/VarHandle" ∧ (parseMethodDescriptor Mc.2.1.desc).map (fun d => d.parameters.length) = some 0) ∧ Mc.2.2.2.1 ≤ 41 ∧ Mc.2.1.name = "<init>" ∧ Mc.2.2.2.2.1 = none
theorem n_call (i : Nat) {Mc : rx_M} {index ra mc1 ms1 : Nat} {Po1 : va_W → Prop} {host : String} {c0 : va_W} (hM : nMet l D Z K Mc [.ref ra] c0 Po1 mc1 ms1) (hb : bs[i]? = some c0) (hK : rKi Mc) (hlink : (M.1, index, Mc.2.1, host) ∈ NBm) (hrank : Mc.2.2.2.2.2 < M.2.2.2.2.2) (hcat : (st.map fun v => v.category).sum ≤ 8) (hcells : cells + mc1 ≤ mc) (hslots : slots + ms1 ≤ ms) (hdg : decode M.2.2.1 pc = .ok (.invokespecial index, 3)) (k : ∀ w1, Po1 w1 → rN l D Z K M (pc + 3) lv st (bs.set i w1).flatten (cells + mc1) (slots + ms1) Po mc ms) : rN l D Z K M pc lv (.ref ra :: st) bs.flatten cells slots Po mc ms := by
  intro p e s m args below meth c A C hi ho H locs ls hP hD hS hl
  obtain ⟨k1, k3, k4, k5, k6, k7, k8⟩ := hK
  have hts := C.2.2.2.2.2.1
  have hA := r_hA hS C.2.2.2.2.2.2.2.2.1
  obtain ⟨⟨hPc, hDc⟩, hF, -⟩ := r_hj (cs := [c0]) (cs1 := [c0]) [i] (by simp) (by rw [List.map_cons, List.map_nil, hb]; rfl) rfl rfl hP hD hA
  rw [show List.flatten [c0] = c0 by simp] at hPc hDc hF
  intro T hT X
  have run : va_Run p l e (nr M.2.2.2.2.2 mc ms) s m args below meth c H locs cells slots mc1 ms1 (F0 m pc ls (.ref ra :: st)) st (rNQ D K Po1 (va_A c0 H.size) (Value.ref ra :: []).toArray) (va_A c0 H.size) := by
    refine va_runIN (As := []) (rest := st) (cc := M.2.2.1) (nL := M.2.2.2.1) (Ts := rTs M) (own := M.1) (host := host) ⟨C.1, C.2.1, C.2.2.2.1, C.2.2.2.2.1, hts⟩ (hM H.size) (index := index) (bytes := Mc.2.2.1) (maxL := Mc.2.2.2.1) (n := 0) ?_ ⟨?_, fun U hU hW => ⟨rfl, by rw [hU], by rw [hU]; exact hPc, va_K.moved hW.alike C.2.2.2.2.2.2.2.1, hDc.weaken (fun _ _ _ _ => trivial), C.2.2.2.2.2.2.2.2.2.call hW hU hS.2.1 hF, ?_⟩⟩ rfl rfl hl.1 rfl (lv_room hcat) hdg ⟨hcells, hslots⟩
    · exact ⟨va_cnB (ws' := TB) 0 hts (r_good (by rw [k8]; exact k4)) (by unfold rTs; rw [k8]) rfl rfl (C.2.2.2.2.2.2.2.2.2.2.1 _ hlink) (hts _ (List.mem_cons_of_mem _ k3)) k5 (r_fits hrank k6), k7, hts _ (List.mem_cons_of_mem _ k1)⟩
    · intro a U g mk q
      obtain ⟨q0, q1, qP, qK, qD, qX, qO⟩ := q
      exact ⟨q0, q1, qP, va_K.moved (u := U) (U := U.calling g mk a) (Vm.Alike.refl U.vm) qK, qD, qX.same rfl rfl, qO.same rfl⟩
    · exact ho.warm hW
  obtain ⟨v0, st₀, t, T', L, h0, X', hL, e1, e2, ⟨⟨hv, w1, hp1, hP1, hK1, hD1⟩, hz, hk⟩, stp⟩ := run T hT X
  cases hv
  rw [h0] at hz hk
  obtain ⟨-, -, hj⟩ := r_hj (bs1 := bs.set i w1) (cs := [c0]) (cs1 := [w1]) [i] (by simp) (by rw [List.map_cons, List.map_nil, hb]; rfl) rfl rfl hP hD hA
  rw [show List.flatten [c0] = c0 by simp, show List.flatten [w1] = w1 by simp] at hj
  obtain ⟨g1, g2⟩ := hj T'.heap (fun q h1 h2 => by rw [e1]; exact hk q h1 h2) (by rw [e1]; exact hP1) hD1
  obtain ⟨t2, a1, b1⟩ := k w1 hp1 p e s m args below meth c A C hi ho T'.heap (locs ++ L) ls g1 g2
    ⟨Nat.le_trans hS.1 (by rw [e1]; exact hz), fun q h1 h2 => by rw [e1, hk q (Nat.lt_of_lt_of_le h1 hS.1) (fun z => h2 (hF q z))]; exact hS.2.1 q h1 h2, fun q hq => by
      rcases List.mem_append.mp hq with h | h
      · exact hS.2.2 q h
      · exact hF _ (hL q h)⟩ hl T' rfl X'
  exact ⟨t2, stp t2 a1, b1⟩
end RN
