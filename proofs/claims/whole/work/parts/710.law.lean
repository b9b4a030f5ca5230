/-! The law's walk: its own judgement -/
def lA (s : State) : Nat → Prop := fun q => s.heap.size ≤ q
/-- what the law's walk stands on -/
def lC (D : va_G) (Z : (Nat → Nat) × (Nat → Nat)) (K : Nat → ClassId) (p : Program) (s : State) (m : MethodId) (meth : Method) (c : Code) (b L : Nat) (xs : Nat → Int32) : Prop :=
  lw_At p s m meth c b L xs ∧ va_K D vwCl (ty7 K) s ∧ rX Z (lA s) s s.heap ∧ nAO s
def lW (D : va_G) (p : Program) (l : Launch) (e : Env) (s : State) (m : MethodId) (below : List Frame) (meth : Method) (c : Code) (b cells slots pc : Nat) (lv : List (Nat × Value)) (st : List Value) (bs : List va_W) : Prop :=
  ∀ (H : Heap) (locs : List Loc) (ls : Array Slot), va_P D vwCl bs.flatten H → va_D (lA s) bs.flatten → va_S (lA s) s.heap H locs → lv_has ls 4 lv → W p l e room_1 s m #[Value.ref b] below meth c H locs cells slots (lw_Z below #[Value.ref b] s) (F0 m pc ls st)
section LW
variable {D : va_G} {Z : (Nat → Nat) × (Nat → Nat)} {K : Nat → ClassId} {p : Program} {l : Launch} {e : Env} {s : State} {m : MethodId} {below : List Frame} {meth : Method} {c : Code} {b L : Nat} {xs : Nat → Int32} {cells slots pc : Nat} {lv lv' : List (Nat × Value)} {st : List Value} {bs bs1 : List va_W}
theorem lz_sub (ks : List Nat) (hl : lv_pick lv ks = lv') (k : lW D p l e s m below meth c b cells slots pc lv' st bs) : lW D p l e s m below meth c b cells slots pc lv st bs :=
  fun H locs ls hP hD hS hl0 => k H locs ls hP hD hS (lv_sub hl0 ks hl)
theorem lz_aload_n (C : lC D Z K p s m meth c b L xs) (q : Nat) {i : Fin 4} {x : Nat} (hdg : decode code pc = .ok (.aload_n i, 1)) (hl0 : lv[q]? = some ((i : Nat), .ref x)) (k : lW D p l e s m below meth c b cells slots (pc + 1) lv (.ref x :: st) bs) : lW D p l e s m below meth c b cells slots pc lv st bs :=
  fun H locs ls hP hD hS hl => lv_aload_n C.1.1 C.1.2.1 hdg rfl (lv_at hl q hl0) (k H locs ls hP hD hS hl)
theorem lz_iload_n (C : lC D Z K p s m meth c b L xs) (q : Nat) {i : Fin 4} {x : Int32} (hdg : decode code pc = .ok (.iload_n i, 1)) (hl0 : lv[q]? = some ((i : Nat), .int x)) (k : lW D p l e s m below meth c b cells slots (pc + 1) lv (.int x :: st) bs) : lW D p l e s m below meth c b cells slots pc lv st bs :=
  fun H locs ls hP hD hS hl => lv_iload_n C.1.1 C.1.2.1 hdg rfl (lv_at hl q hl0) (k H locs ls hP hD hS hl)
theorem lz_iconst (C : lC D Z K p s m meth c b L xs) {n : Int} {x : Int32} (hdg : decode code pc = .ok (.iconst n, 1)) (hv : Int32.ofInt n = x) (k : lW D p l e s m below meth c b cells slots (pc + 1) lv (.int x :: st) bs) : lW D p l e s m below meth c b cells slots pc lv st bs :=
  fun H locs ls hP hD hS hl => lv_iconst C.1.1 C.1.2.1 hdg hv (k H locs ls hP hD hS hl)
theorem lz_bipush (C : lC D Z K p s m meth c b L xs) {n : Int} {x : Int32} (hdg : decode code pc = .ok (.bipush n, 2)) (hv : (Int8.ofInt n).toInt32 = x) (k : lW D p l e s m below meth c b cells slots (pc + 2) lv (.int x :: st) bs) : lW D p l e s m below meth c b cells slots pc lv st bs :=
  fun H locs ls hP hD hS hl => lv_bipush C.1.1 C.1.2.1 hdg hv (k H locs ls hP hD hS hl)
theorem lz_iadd (C : lC D Z K p s m meth c b L xs) {x y : Int32} (hdg : decode code pc = .ok (.iadd, 1)) (k : lW D p l e s m below meth c b cells slots (pc + 1) lv (.int (x + y) :: st) bs) : lW D p l e s m below meth c b cells slots pc lv (.int y :: .int x :: st) bs :=
  fun H locs ls hP hD hS hl => lv_iadd C.1.1 C.1.2.1 hdg (k H locs ls hP hD hS hl)
theorem lz_isub (C : lC D Z K p s m meth c b L xs) {x y : Int32} (hdg : decode code pc = .ok (.isub, 1)) (k : lW D p l e s m below meth c b cells slots (pc + 1) lv (.int (x - y) :: st) bs) : lW D p l e s m below meth c b cells slots pc lv (.int y :: .int x :: st) bs :=
  fun H locs ls hP hD hS hl => lv_isub C.1.1 C.1.2.1 hdg (k H locs ls hP hD hS hl)
theorem lz_iand (C : lC D Z K p s m meth c b L xs) {x y : Int32} (hdg : decode code pc = .ok (.iand, 1)) (k : lW D p l e s m below meth c b cells slots (pc + 1) lv (.int (x &&& y) :: st) bs) : lW D p l e s m below meth c b cells slots pc lv (.int y :: .int x :: st) bs :=
  fun H locs ls hP hD hS hl => lv_iand C.1.1 C.1.2.1 hdg (k H locs ls hP hD hS hl)
theorem lz_sld (C : lC D Z K p s m meth c b L xs) {i : Int32} (hin : vp_in i L) (hdg : decode code pc = .ok (.iaload, 1)) (k : lW D p l e s m below meth c b cells slots (pc + 1) lv (.int (xs i.toNatClampNeg) :: st) bs) : lW D p l e s m below meth c b cells slots pc lv (.int i :: .ref b :: st) bs := by
  intro H locs ls hP hD hS hl
  obtain ⟨hx, hb, hr, hml, hown, hts, hX, hbl, hlocks, hgv⟩ := C.1
  exact va_sld hx hb hX hbl (Nat.not_le.mpr hbl) hS hin hdg (k H locs ls hP hD hS hl)
theorem lz_slen (C : lC D Z K p s m meth c b L xs) (hdg : decode code pc = .ok (.arraylength, 1)) (k : lW D p l e s m below meth c b cells slots (pc + 1) lv (.int (nI L) :: st) bs) : lW D p l e s m below meth c b cells slots pc lv (.ref b :: st) bs := by
  intro H locs ls hP hD hS hl
  obtain ⟨hx, hb, hr, hml, hown, hts, hX, hbl, hlocks, hgv⟩ := C.1
  exact va_slen hx hb hX hbl (Nat.not_le.mpr hbl) hS hdg (k H locs ls hP hD hS hl)
theorem lz_icmp_gt (C : lC D Z K p s m meth c b L xs) {x y : Int32} {off : Int} (tgt : Nat) (hdg : decode code pc = .ok (.if_icmp .gt off, 3)) (ht : (pc : Int) + off = (tgt : Int)) (kt : y < x → lW D p l e s m below meth c b cells slots tgt lv st bs) (kf : ¬ (y < x) → lW D p l e s m below meth c b cells slots (pc + 3) lv st bs) : lW D p l e s m below meth c b cells slots pc lv (.int y :: .int x :: st) bs :=
  fun H locs ls hP hD hS hl => lv_icmp_gt C.1.1 C.1.2.1 hdg ht (fun h => kt h H locs ls hP hD hS hl) (fun h => kf h H locs ls hP hD hS hl)
theorem lz_icmp_eq (C : lC D Z K p s m meth c b L xs) {x : Int32} {off : Int} (tgt : Nat) (hdg : decode code pc = .ok (.if_icmp .eq off, 3)) (ht : (pc : Int) + off = (tgt : Int)) (kt : lW D p l e s m below meth c b cells slots tgt lv st bs) : lW D p l e s m below meth c b cells slots pc lv (.int x :: .int x :: st) bs :=
  fun H locs ls hP hD hS hl => lv_icmp_eq C.1.1 C.1.2.1 hdg ht (fun _ => kt H locs ls hP hD hS hl) (fun h => absurd rfl h)
theorem lz_tabIn (C : lC D Z K p s m meth c b L xs) {dflt lo hi : Int} {offs : Array Int} {len : Nat} {x : Int32} {off : Int} (tgt : Nat) (hdg : decode code pc = .ok (.tableswitch dflt lo hi offs, len)) (h1 : ¬ x.toInt < lo) (h2 : ¬ hi < x.toInt) (ho : offs[(x.toInt - lo).toNat]? = some off) (ht : (pc : Int) + off = (tgt : Int)) (k : lW D p l e s m below meth c b cells slots tgt lv st bs) : lW D p l e s m below meth c b cells slots pc lv (.int x :: st) bs :=
  fun H locs ls hP hD hS hl => lv_tableIn C.1.1 C.1.2.1 hdg h1 h2 ho ht (k H locs ls hP hD hS hl)
theorem lz_tabOut (C : lC D Z K p s m meth c b L xs) {dflt lo hi : Int} {offs : Array Int} {len : Nat} {x : Int32} (tgt : Nat) (hdg : decode code pc = .ok (.tableswitch dflt lo hi offs, len)) (h : x.toInt < lo ∨ hi < x.toInt) (ht : (pc : Int) + dflt = (tgt : Int)) (k : lW D p l e s m below meth c b cells slots tgt lv st bs) : lW D p l e s m below meth c b cells slots pc lv (.int x :: st) bs :=
  fun H locs ls hP hD hS hl => lv_tableOut C.1.1 C.1.2.1 hdg h ht (k H locs ls hP hD hS hl)
theorem lz_iinc (C : lC D Z K p s m meth c b L xs) (q : Nat) {i : Nat} {n : Int} {x y : Int32} (hdg : decode code pc = .ok (.iinc i n, 3)) (hl1 : lv[q]? = some (i, .int x)) (hv : x + Int32.ofInt n = y) (hn : i < 4) (hl0 : (i, Value.int y) :: lv.filter (fun q => !(q.1 == i) && !(q.1 + 1 == i && q.2.category == 2)) = lv') (k : lW D p l e s m below meth c b cells slots (pc + 3) lv' st bs) : lW D p l e s m below meth c b cells slots pc lv st bs :=
  fun H locs ls hP hD hS hl => lv_iinc C.1.1 C.1.2.1 hdg hl hl1 hv hn hl0 (fun ls hl => k H locs ls hP hD hS hl)
theorem lz_goto (C : lC D Z K p s m meth c b L xs) {off : Int} (tgt : Nat) (hdg : decode code pc = .ok (.goto off, 3)) (ht : (pc : Int) + off = (tgt : Int)) (k : lW D p l e s m below meth c b cells slots tgt lv st bs) : lW D p l e s m below meth c b cells slots pc lv st bs :=
  fun H locs ls hP hD hS hl => lv_goto C.1.1 C.1.2.1 hdg ht (k H locs ls hP hD hS hl)
theorem lz_istore_n (C : lC D Z K p s m meth c b L xs) {i : Fin 4} {x : Int32} (hdg : decode code pc = .ok (.istore_n i, 1)) (hn : (i : Nat) < 4) (hl0 : ((i : Nat), Value.int x) :: lv.filter (fun q => !(q.1 == (i : Nat)) && !(q.1 + 1 == (i : Nat) && q.2.category == 2)) = lv') (k : lW D p l e s m below meth c b cells slots (pc + 1) lv' st bs) : lW D p l e s m below meth c b cells slots pc lv (.int x :: st) bs :=
  fun H locs ls hP hD hS hl => lv_istore_n C.1.1 C.1.2.1 hdg rfl hl hn hl0 (fun ls hl => k H locs ls hP hD hS hl)
theorem lz_astore_n (C : lC D Z K p s m meth c b L xs) {i : Fin 4} {x : Nat} (hdg : decode code pc = .ok (.astore_n i, 1)) (hn : (i : Nat) < 4) (hl0 : ((i : Nat), Value.ref x) :: lv.filter (fun q => !(q.1 == (i : Nat)) && !(q.1 + 1 == (i : Nat) && q.2.category == 2)) = lv') (k : lW D p l e s m below meth c b cells slots (pc + 1) lv' st bs) : lW D p l e s m below meth c b cells slots pc lv (.ref x :: st) bs :=
  fun H locs ls hP hD hS hl => lv_astore_n C.1.1 C.1.2.1 hdg rfl hl hn hl0 (fun ls hl => k H locs ls hP hD hS hl)
theorem lz_dup (C : lC D Z K p s m meth c b L xs) {va : Value} (hdg : decode code pc = .ok (.dup, 1)) (hva : va.category = 1) (k : lW D p l e s m below meth c b cells slots (pc + 1) lv (va :: va :: st) bs) : lW D p l e s m below meth c b cells slots pc lv (va :: st) bs :=
  fun H locs ls hP hD hS hl => lv_dup C.1.1 C.1.2.1 hdg hva (k H locs ls hP hD hS hl)
/-- the law's end -/
theorem lz_ret (C : lC D Z K p s m meth c b L xs) (h1 : cells ≤ 600000) (h2 : slots ≤ 7302250) (hdg : decode code pc = .ok (.ireturn, 1)) : lW D p l e s m below meth c b cells slots pc lv [.int 1] bs := by
  intro H locs ls hP hD hS hl
  obtain ⟨hx, hb, hr, hml, hown, hts, hX, hbl, hlocks, hgv⟩ := C.1
  refine va_forget (fun q hq => hS.2.2 q hq) ?_
  refine W.widen (k := 600000) (n := 7302250) h1 h2 ?_
  exact lw_ret hx hb hr hlocks hdg
/-- an argument out of the script -/
theorem lz_arg (C : lC D Z K p s m meth c b L xs) {k i : Nat} {n : Int} (hk : (Int32.ofInt n) = nI k) (hin : i + k < L) (hL : L ≤ 3072) (d0 : decode code pc = .ok (.aload_n 0, 1)) (d1 : decode code (pc + 1) = .ok (.iload_n 3, 1)) (d2 : decode code (pc + 2) = .ok (.iconst n, 1)) (d3 : decode code (pc + 3) = .ok (.iadd, 1)) (d4 : decode code (pc + 4) = .ok (.iaload, 1)) {a1 a2 : Nat}
    (kk : lW D p l e s m below meth c b cells slots (pc + 5) [(0, .ref b), (1, .ref a1), (2, .ref a2), (3, .int (nI i))] (.int (xs (i + k)) :: st) bs) : lW D p l e s m below meth c b cells slots pc [(0, .ref b), (1, .ref a1), (2, .ref a2), (3, .int (nI i))] st bs := by
  have e1 : nI i + nI k = nI (i + k) := (Int32.ofNat_add i k).symm
  refine lz_aload_n C 0 d0 rfl ?_
  refine lz_iload_n C 3 d1 rfl ?_
  refine lz_iconst C d2 hk ?_
  refine lz_iadd C d3 ?_
  rw [e1]
  refine lz_sld C (vp_in_nI hin (by omega)) d4 ?_
  rw [show (nI (i + k)).toNatClampNeg = i + k from Int32.toNatClampNeg_ofNat_of_lt (by omega)]
  exact kk
theorem lz_good {Mc : rx_M} (hc : Cond.code Mc.2.1 Mc.2.2.1 Mc.2.2.2.1 Mc.2.2.2.2.1 ∈ TB) : GoodIn lw_tbl (rTs Mc) := by
  intro w hw
  have h : w ∈ TB := by
    rcases List.mem_cons.mp hw with h | h
    · rw [h]; exact hc
    · exact h
  exact ⟨tb_sub w h, good_of_word (List.all_eq_true.mp tb_good w h)⟩
theorem lz_fits {Mc : rx_M} {mc ms : Nat} (hr : Mc.2.2.2.2.2 ≤ 100) (hn : Mc.2.2.2.1 ≤ 41) : (nr Mc.2.2.2.2.2 mc ms).frames + 1 ≤ room_1.frames ∧ 8 + (Mc.2.2.2.1 + 11) + (nr Mc.2.2.2.2.2 mc ms).locals ≤ room_1.locals := by
  constructor
  · show Mc.2.2.2.2.2 + 1 ≤ 2048
    omega
  · show 8 + (Mc.2.2.2.1 + 11) + 60 * Mc.2.2.2.2.2 ≤ 84000
    omega
/-- a call -/
theorem lz_callV (C : lC D Z K p s m meth c b L xs) (isC : List Nat) {Mc : rx_M} {n index ra ci : Nat} {q : vw_C} {fs As : List Value} {stk : List Value} {x : Int32} {cs cs1 : List va_W} {c0 : va_W} (hM : rMet l D Z (ty7 K) Mc (.ref ra :: As) cs.flatten cs1.flatten (some (.int x))) (hst : stk = As.reverse ++ .ref ra :: st) (hlen : As.length = n) (hcat : (st.map fun v => v.category).sum ≤ 8) (hK : rKv Mc n) (hlink : Cond.methodLink RL index Mc.2.1 ∈ TB) (hrank : Mc.2.2.2.2.2 ≤ 100) (hcells : cells ≤ 600000) (hslots : slots ≤ 7302250) (hnd : isC.Nodup) (hC : isC.map (fun i => bs[i]?) = cs.map some) (hl1 : cs1.length = isC.length) (h1 : stm bs isC cs1 = bs1) (hc : vwCl[ci]? = some q) (hcl : q.1 = Mc.2.1.cls) (hb0 : cs[0]? = some c0) (hq : c0[0]? = some (ra, .inr (ci, fs))) (hdg : decode code pc = .ok (.invokevirtual index, 3)) (k : lW D p l e s m below meth c b cells slots (pc + 3) lv (.int x :: st) bs1) : lW D p l e s m below meth c b cells slots pc lv stk bs := by
  intro H locs ls hP hD hS hl
  obtain ⟨⟨hx, hb, hr, hml, hown, hts, hX, hbl, hlocks, hgv⟩, hKK, hrX, hnA⟩ := C
  have hA : ∀ q, H.size ≤ q → lA s q := fun q h => Nat.le_trans hS.1 h
  obtain ⟨⟨hPc, hDc⟩, hF, hj⟩ := r_hj isC hnd hC hl1 h1 hP hD hA
  obtain ⟨q0, hq0, -⟩ := fl_at hb0 hq
  obtain ⟨k1, k2, k3, k4, k5, k6⟩ := hK
  have hr0 := va_recv hKK hPc hc hq0
  rw [hcl] at hr0
  have run : va_Run p l e room_1 s m #[Value.ref b] below meth c H locs cells slots 0 0 (F0 m pc ls stk) st (rQ D (ty7 K) cs1.flatten (some (.int x)) (va_A cs.flatten H.size) (Value.ref ra :: As).toArray) (va_A cs.flatten H.size) := by
    refine va_runV (As := As) (rest := st) (cc := code) (nL := 4) (Ts := lw_tbl) (own := R_law) ⟨hx, hb, hml, hown, hts⟩ (hM H.size) (C := Mc.2.1.cls) (index := index) (bytes := Mc.2.2.1) (maxL := Mc.2.2.2.1) (ret := Mc.2.2.2.2.1) (n := n) ?_ ⟨r_blind, hr0, fun U hU hW => ⟨rfl, by rw [hU], by rw [hU]; exact hPc, va_K.moved hW.alike hKK, hDc.weaken (fun _ _ _ _ => trivial), hrX.call hW hU hS.2.1 hF⟩⟩ rfl hlen hl.1 hst (lv_room hcat) hdg ⟨hcells, hslots⟩
    exact ⟨callB_of n hts (lz_good k4) rfl rfl rfl (hts _ (tb_sub _ k3)) (hts _ (tb_sub _ hlink)) k5 (lz_fits (mc := 0) (ms := 0) hrank k6), hts _ (tb_sub _ k1), hts _ (tb_sub _ k2)⟩
  intro T hT X
  obtain ⟨v0, st₀, t, T', L', h0, X', hL, e1, e2, ⟨⟨hv, hP1, hK1, hD1⟩, hz, hk⟩, stp⟩ := run T hT X
  cases hv
  rw [h0] at hz hk
  obtain ⟨g1, g2⟩ := hj T'.heap (fun q h1 h2 => by rw [e1]; exact hk q h1 h2) (by rw [e1]; exact hP1) hD1
  obtain ⟨t2, a1, b1⟩ := k T'.heap (locs ++ L') ls g1 g2
    ⟨Nat.le_trans hS.1 (by rw [e1]; exact hz), fun q h1 h2 => by rw [e1, hk q (Nat.lt_of_lt_of_le h1 hS.1) (fun z => h2 (hF q z))]; exact hS.2.1 q h1 h2, fun q hq => by
      rcases List.mem_append.mp hq with h | h
      · exact hS.2.2 q h
      · exact hF _ (hL q h)⟩ hl T' rfl X'
  exact ⟨t2, stp t2 a1, b1⟩
/-- a new object, and its constructor -/
theorem lz_new (C : lC D Z K p s m meth c b L xs) (ci : Nat) {Cn : String} {T : u_T} {N index : Nat} {fs : List Value} (hin : ∀ w ∈ u_ws Cn T N, w ∈ TB) (hc : vwCl[ci]? = some (Cn, T, N)) (ty0 : Nat → FieldType) (hty : ∀ k, k < N → parseFieldDescriptor (T k).2.2.1 = some (ty0 k)) (w1 : Cond.classLink RL index Cn ∈ TB) (w2 : Cond.instantiable Cn N ∈ TB) (w3 : Cond.initialized Cn ∈ TB) (hfs : ∀ j, j < N → defaultValue (ty0 j) = vp_V fs j) (hcells : cells + 1 ≤ 600000) (hslots : slots + N ≤ 7302250) (hdg : decode code pc = .ok (.new index, 3)) (kk : ∀ q : Nat, lW D p l e s m below meth c b (cells + 1) (slots + N) (pc + 3) lv (.ref q :: st) (bs ++ ([[(q, .inr (ci, fs))]] : List va_W))) : lW D p l e s m below meth c b cells slots pc lv st bs := by
  intro H locs ls hP hD hS hl
  obtain ⟨⟨hx, hb, hr, hml, hown, hts, hX, hbl, hlocks, hgv⟩, hKK, hrX, hnA⟩ := C
  refine va_new hx hb hts (fun w h => tb_sub w (hin w h)) ty0 hty hown (hts _ (tb_sub _ w1)) (hts _ (tb_sub _ w2)) (hts _ (tb_sub _ w3)) hKK hP hD hS (fun _ h => h) hc hfs hcells hslots hdg (fun q H1 hP hD hS => ?_)
  rw [fl_push] at hP hD
  exact kk q H1 locs ls hP hD hS hl
theorem lz_ctor (C : lC D Z K p s m meth c b L xs) (i : Nat) {Mc : rx_M} {index ra mc1 ms1 : Nat} {Po1 : va_W → Prop} {c0 : va_W} (hM : nMet l D Z K Mc [.ref ra] c0 Po1 mc1 ms1) (hb0 : bs[i]? = some c0) (hK : rKi Mc) (hlink : Cond.methodLink RL index Mc.2.1 ∈ TB) (hrank : Mc.2.2.2.2.2 ≤ 100) (hcat : (st.map fun v => v.category).sum ≤ 8) (hcells : cells + mc1 ≤ 600000) (hslots : slots + ms1 ≤ 7302250) (hdg : decode code pc = .ok (.invokespecial index, 3)) (k : ∀ w1, Po1 w1 → lW D p l e s m below meth c b (cells + mc1) (slots + ms1) (pc + 3) lv st (bs.set i w1)) : lW D p l e s m below meth c b cells slots pc lv (.ref ra :: st) bs := by
  intro H locs ls hP hD hS hl
  obtain ⟨⟨hx, hb, hr, hml, hown, hts, hX, hbl, hlocks, hgv⟩, hKK, hrX, hnA⟩ := C
  obtain ⟨k1, k3, k4, k5, k6, k7, k8⟩ := hK
  have hA : ∀ q, H.size ≤ q → lA s q := fun q h => Nat.le_trans hS.1 h
  obtain ⟨⟨hPc, hDc⟩, hF, -⟩ := r_hj (cs := [c0]) (cs1 := [c0]) [i] (by simp) (by rw [List.map_cons, List.map_nil, hb0]; rfl) rfl rfl hP hD hA
  rw [show List.flatten [c0] = c0 by simp] at hPc hDc hF
  have run : va_Run p l e room_1 s m #[Value.ref b] below meth c H locs cells slots mc1 ms1 (F0 m pc ls (.ref ra :: st)) st (rNQ D K Po1 (va_A c0 H.size) (Value.ref ra :: []).toArray) (va_A c0 H.size) := by
    refine va_runI (As := []) (rest := st) (cc := code) (nL := 4) (Ts := lw_tbl) (own := R_law) ⟨hx, hb, hml, hown, hts⟩ (hM H.size) (index := index) (bytes := Mc.2.2.1) (maxL := Mc.2.2.2.1) (n := 0) ?_ ⟨?_, fun U hU hW => ⟨rfl, by rw [hU], by rw [hU]; exact hPc, va_K.moved hW.alike hKK, hDc.weaken (fun _ _ _ _ => trivial), hrX.call hW hU hS.2.1 hF, hnA.warm hW⟩⟩ rfl rfl hl.1 rfl (lv_room hcat) hdg ⟨hcells, hslots⟩
    · exact ⟨callB_of 0 hts (lz_good (by rw [k8]; exact k4)) (by unfold rTs; rw [k8]) rfl rfl (hts _ (tb_sub _ k3)) (hts _ (tb_sub _ hlink)) k5 (lz_fits hrank k6), k7, hts _ (tb_sub _ k1)⟩
    · intro a U g mk q
      obtain ⟨q0, q1, qP, qK, qD, qX, qO⟩ := q
      exact ⟨q0, q1, qP, va_K.moved (u := U) (U := U.calling g mk a) (Vm.Alike.refl U.vm) qK, qD, qX.same rfl rfl, qO.same rfl⟩
  intro T hT X
  obtain ⟨v0, st₀, t, T', L', h0, X', hL, e1, e2, ⟨⟨hv, w1, hp1, hP1, hK1, hD1⟩, hz, hk⟩, stp⟩ := run T hT X
  cases hv
  rw [h0] at hz hk
  obtain ⟨-, -, hj⟩ := r_hj (bs1 := bs.set i w1) (cs := [c0]) (cs1 := [w1]) [i] (by simp) (by rw [List.map_cons, List.map_nil, hb0]; rfl) rfl rfl hP hD hA
  rw [show List.flatten [c0] = c0 by simp, show List.flatten [w1] = w1 by simp] at hj
  obtain ⟨g1, g2⟩ := hj T'.heap (fun q h1 h2 => by rw [e1]; exact hk q h1 h2) (by rw [e1]; exact hP1) hD1
  obtain ⟨t2, a1, b1⟩ := k w1 hp1 T'.heap (locs ++ L') ls g1 g2
    ⟨Nat.le_trans hS.1 (by rw [e1]; exact hz), fun q h1 h2 => by rw [e1, hk q (Nat.lt_of_lt_of_le h1 hS.1) (fun z => h2 (hF q z))]; exact hS.2.1 q h1 h2, fun q hq => by
      rcases List.mem_append.mp hq with h | h
      · exact hS.2.2 q h
      · exact hF _ (hL q h)⟩ hl T' rfl X'
  exact ⟨t2, stp t2 a1, b1⟩
theorem lz_split {w : va_W} {cs bs : List va_W} (h : w = cs.flatten) (k : lW D p l e s m below meth c b cells slots pc lv st (cs ++ bs)) : lW D p l e s m below meth c b cells slots pc lv st (w :: bs) := by
  intro H locs ls hP hD hS hl
  have e : (w :: bs).flatten = (cs ++ bs).flatten := by rw [h, List.flatten_cons, List.flatten_append]
  rw [e] at hP hD
  exact k H locs ls hP hD hS hl
end LW
