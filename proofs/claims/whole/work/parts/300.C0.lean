section PC0
variable {l : Launch} {D : va_G} {Z : (Nat → Nat) × (Nat → Nat)} {K : Nat → ClassId}
theorem dX8_add_0 : decode cX8_add 0 = .ok (.bipush 24, 2) := by decide +kernel
theorem dX8_add_2 : decode cX8_add 2 = .ok (.istore_n 2, 1) := by decide +kernel
theorem dX8_add_3 : decode cX8_add 3 = .ok (.iload_n 2, 1) := by decide +kernel
theorem dX8_add_4 : decode cX8_add 4 = .ok (.ifCond .lt 42, 3) := by decide +kernel
theorem dX8_add_7 : decode cX8_add 7 = .ok (.aload_n 0, 1) := by decide +kernel
theorem dX8_add_8 : decode cX8_add 8 = .ok (.getfield 15, 3) := by decide +kernel
theorem dX8_add_11 : decode cX8_add 11 = .ok (.sipush 400, 3) := by decide +kernel
theorem dX8_add_14 : decode cX8_add 14 = .ok (.if_icmp .ge 32, 3) := by decide +kernel
theorem dX8_add_17 : decode cX8_add 17 = .ok (.aload_n 0, 1) := by decide +kernel
theorem dX8_add_18 : decode cX8_add 18 = .ok (.getfield 9, 3) := by decide +kernel
theorem dX8_add_21 : decode cX8_add 21 = .ok (.aload_n 0, 1) := by decide +kernel
theorem dX8_add_22 : decode cX8_add 22 = .ok (.getfield 15, 3) := by decide +kernel
theorem dX8_add_25 : decode cX8_add 25 = .ok (.iload_n 1, 1) := by decide +kernel
theorem dX8_add_26 : decode cX8_add 26 = .ok (.iload_n 2, 1) := by decide +kernel
theorem dX8_add_27 : decode cX8_add 27 = .ok (.ishr, 1) := by decide +kernel
theorem dX8_add_28 : decode cX8_add 28 = .ok (.i2b, 1) := by decide +kernel
theorem dX8_add_29 : decode cX8_add 29 = .ok (.bastore, 1) := by decide +kernel
theorem dX8_add_30 : decode cX8_add 30 = .ok (.aload_n 0, 1) := by decide +kernel
theorem dX8_add_31 : decode cX8_add 31 = .ok (.dup, 1) := by decide +kernel
theorem dX8_add_32 : decode cX8_add 32 = .ok (.getfield 15, 3) := by decide +kernel
theorem dX8_add_35 : decode cX8_add 35 = .ok (.iconst 1, 1) := by decide +kernel
theorem dX8_add_36 : decode cX8_add 36 = .ok (.iadd, 1) := by decide +kernel
theorem dX8_add_37 : decode cX8_add 37 = .ok (.putfield 15, 3) := by decide +kernel
theorem dX8_add_40 : decode cX8_add 40 = .ok (.iinc 2 (-8), 3) := by decide +kernel
theorem dX8_add_43 : decode cX8_add 43 = .ok (.goto (-40), 3) := by decide +kernel
theorem dX8_add_46 : decode cX8_add 46 = .ok (.return_, 1) := by decide +kernel
abbrev MTape_add : rx_M := (RX8, yX8_add, cX8_add, 3, none, 1)
theorem kTape_add : rKv MTape_add 1 := ⟨tb_in (i := 13) (j := 14) rfl rfl, tb_in (i := 13) (j := 15) rfl rfl, tb_in (i := 12) (j := 15) rfl rfl, tb_in (i := 9) (j := 20) rfl rfl, ⟨by decide, by decide, by decide +kernel⟩, by decide⟩
section
variable {a0 : Nat → Nat} {z0_bytes : Nat → Int32} {z0_size : Int32}
def mTape_add_l3 (x1 : Int32) : Nat → Int32 → (Nat → Int32) → Int32 → Option ((Nat → Int32) × Int32)
  | 0, _, _, _ => none
  | n + 1, x2, z0_bytes, z0_size => (if x2 < 0 then some (z0_bytes, z0_size) else (if (400 : Int32) ≤ z0_size then some (z0_bytes, z0_size) else rq (inb z0_size 400) (lt (upd z0_bytes z0_size.toNatClampNeg (vp_nar .byte ((x1 >>> (x2 &&& 31)).toInt8.toInt32))) (fun u3 => lt (z0_size + (1 : Int32)) (fun y4 => mTape_add_l3 x1 n (x2 + (-8 : Int32)) u3 y4)))))
set_option maxHeartbeats 4000000 in
set_option maxRecDepth 20000 in
theorem cTape_add_l3 {q : (Nat → Int32) × Int32} {x1 : Int32}  : ∀ (n : Nat) (x2 : Int32) (z0_bytes : Nat → Int32) (z0_size : Int32), mTape_add_l3 x1 n x2 z0_bytes z0_size = some q → rW l D Z (ty7 K) MTape_add 3 [(0, .ref (a0 0)), (1, .int x1), (2, .int x2)] [] (List.flatten [bTape K a0 z0_bytes z0_size]) (List.flatten [bTapeG K a0 q]) none := by
  intro n
  induction n with
  | zero => intro x2 z0_bytes z0_size h; unfold mTape_add_l3 at h; cases h
  | succ n ih =>
    intro x2 z0_bytes z0_size h
    unfold mTape_add_l3 at h
    refine r_iload_n 2 dX8_add_3 rfl ?_
    refine r_if_lt 46 dX8_add_4 (by decide) (fun c1 => ?_) (fun c1 => ?_)
    · replace h := it_pos c1 h
      have hq := Option.some.inj h
      subst hq
      exact r_vret rfl dX8_add_46
    · replace h := it_neg c1 h
      refine r_aload_n 0 dX8_add_7 rfl ?_
      refine gTape_size 0 rfl (tb_in (i := 9) (j := 19) rfl rfl) dX8_add_8 ?_
      refine r_sipush (x := (400 : Int32)) dX8_add_11 (by decide) ?_
      refine r_icmp_ge 46 dX8_add_14 (by decide) (fun c2 => ?_) (fun c2 => ?_)
      · replace h := it_pos c2 h
        have hq := Option.some.inj h
        subst hq
        exact r_vret rfl dX8_add_46
      · replace h := it_neg c2 h
        refine r_aload_n 0 dX8_add_17 rfl ?_
        refine gTape_bytes 0 rfl (tb_in (i := 9) (j := 18) rfl rfl) dX8_add_18 ?_
        refine r_aload_n 0 dX8_add_21 rfl ?_
        refine gTape_size 0 rfl (tb_in (i := 9) (j := 19) rfl rfl) dX8_add_22 ?_
        refine r_iload_n 1 dX8_add_25 rfl ?_
        refine r_iload_n 2 dX8_add_26 rfl ?_
        refine r_ishr dX8_add_27 ?_
        refine r_i2b dX8_add_28 ?_
        obtain ⟨h3, h⟩ := rq_some h
        obtain ⟨u3, e3, h⟩ := lt_some h
        refine sTape_bytes (bs1 := [bTape K a0 u3 z0_size]) 0 e3 rfl (inb_in h3) rfl dX8_add_29 ?_
        refine r_aload_n 0 dX8_add_30 rfl ?_
        refine r_dup dX8_add_31 rfl ?_
        refine gTape_size 0 rfl (tb_in (i := 9) (j := 19) rfl rfl) dX8_add_32 ?_
        refine r_iconst (x := (1 : Int32)) dX8_add_35 (by decide) ?_
        refine r_iadd dX8_add_36 ?_
        obtain ⟨y4, e4, h⟩ := lt_some h
        refine r_top e4 ?_
        refine pTape_size (bs1 := [bTape K a0 u3 y4]) 0 rfl rfl (tb_in (i := 9) (j := 19) rfl rfl) dX8_add_37 ?_
        refine r_iinc (y := (x2 + (-8 : Int32))) (lv' := [(2, .int (x2 + (-8 : Int32))), (0, .ref (a0 0)), (1, .int x1)]) 2 dX8_add_40 rfl rfl (Nat.le_of_ble_eq_true rfl) rfl ?_
        refine r_goto 3 dX8_add_43 (by decide) ?_
        refine r_sub (lv' := [(0, .ref (a0 0)), (1, .int x1), (2, .int (x2 + (-8 : Int32)))]) [1, 2, 0] rfl ?_
        exact ih (x2 + (-8 : Int32)) u3 y4 h
def mTape_add (x1 : Int32) (z0_bytes : Nat → Int32) (z0_size : Int32) : Option ((Nat → Int32) × Int32) := mTape_add_l3 x1 FU (24 : Int32) z0_bytes z0_size
set_option maxHeartbeats 4000000 in
set_option maxRecDepth 20000 in
theorem cTape_add {q : (Nat → Int32) × Int32} {x1 : Int32} (h : mTape_add x1 z0_bytes z0_size = some q) : rMet l D Z (ty7 K) MTape_add [.ref (a0 0), .int x1] (List.flatten [bTape K a0 z0_bytes z0_size]) (List.flatten [bTapeG K a0 q]) none := by
  refine rMet.of (by decide) rfl (Nat.le_of_ble_eq_true rfl) ?_
  refine r_sub (lv' := [(0, .ref (a0 0)), (1, .int x1)]) [0, 1] rfl ?_
  unfold mTape_add at h
  refine r_bipush (x := (24 : Int32)) dX8_add_0 (by decide) ?_
  refine r_istore_n (lv' := [(2, .int (24 : Int32)), (0, .ref (a0 0)), (1, .int x1)]) dX8_add_2 (Nat.le_of_ble_eq_true rfl) rfl ?_
  refine r_sub (lv' := [(0, .ref (a0 0)), (1, .int x1), (2, .int (24 : Int32))]) [1, 2, 0] rfl ?_
  exact cTape_add_l3   FU (24 : Int32) z0_bytes z0_size h
end
theorem dX4_begin_0 : decode cX4_begin 0 = .ok (.aload_n 0, 1) := by decide +kernel
theorem dX4_begin_1 : decode cX4_begin 1 = .ok (.iload_n 1, 1) := by decide +kernel
theorem dX4_begin_2 : decode cX4_begin 2 = .ok (.bipush 6, 2) := by decide +kernel
theorem dX4_begin_4 : decode cX4_begin 4 = .ok (.invokestatic 19, 3) := by decide +kernel
theorem dX4_begin_7 : decode cX4_begin 7 = .ok (.putfield 15, 3) := by decide +kernel
theorem dX4_begin_10 : decode cX4_begin 10 = .ok (.iconst 0, 1) := by decide +kernel
theorem dX4_begin_11 : decode cX4_begin 11 = .ok (.istore_n 2, 1) := by decide +kernel
theorem dX4_begin_12 : decode cX4_begin 12 = .ok (.iload_n 2, 1) := by decide +kernel
theorem dX4_begin_13 : decode cX4_begin 13 = .ok (.aload_n 0, 1) := by decide +kernel
theorem dX4_begin_14 : decode cX4_begin 14 = .ok (.getfield 15, 3) := by decide +kernel
theorem dX4_begin_17 : decode cX4_begin 17 = .ok (.if_icmp .ge 16, 3) := by decide +kernel
theorem dX4_begin_20 : decode cX4_begin 20 = .ok (.aload_n 0, 1) := by decide +kernel
theorem dX4_begin_21 : decode cX4_begin 21 = .ok (.getfield 9, 3) := by decide +kernel
theorem dX4_begin_24 : decode cX4_begin 24 = .ok (.iload_n 2, 1) := by decide +kernel
theorem dX4_begin_25 : decode cX4_begin 25 = .ok (.iload_n 2, 1) := by decide +kernel
theorem dX4_begin_26 : decode cX4_begin 26 = .ok (.iastore, 1) := by decide +kernel
theorem dX4_begin_27 : decode cX4_begin 27 = .ok (.iinc 2 1, 3) := by decide +kernel
theorem dX4_begin_30 : decode cX4_begin 30 = .ok (.goto (-18), 3) := by decide +kernel
theorem dX4_begin_33 : decode cX4_begin 33 = .ok (.return_, 1) := by decide +kernel
abbrev MOrder_begin : rx_M := (RX4, yX4_begin, cX4_begin, 3, none, 3)
theorem kOrder_begin : rKv MOrder_begin 1 := ⟨tb_in (i := 10) (j := 6) rfl rfl, tb_in (i := 10) (j := 7) rfl rfl, tb_in (i := 8) (j := 1) rfl rfl, tb_in (i := 7) (j := 24) rfl rfl, ⟨by decide, by decide, by decide +kernel⟩, by decide⟩
section
variable {a0 : Nat → Nat} {z0_who : Nat → Int32} {z0_size : Int32}
def mOrder_begin_l12 (z0_size : Int32) : Nat → Int32 → (Nat → Int32) → Option ((Nat → Int32) × Int32)
  | 0, _, _ => none
  | n + 1, x2, z0_who => (if z0_size ≤ x2 then some (z0_who, z0_size) else rq (inb x2 6) (lt (upd z0_who x2.toNatClampNeg x2) (fun u3 => mOrder_begin_l12 z0_size n (x2 + (1 : Int32)) u3)))
set_option maxHeartbeats 4000000 in
set_option maxRecDepth 20000 in
theorem cOrder_begin_l12 {q : (Nat → Int32) × Int32}   : ∀ (n : Nat) (x2 : Int32) (z0_who : Nat → Int32), mOrder_begin_l12 z0_size n x2 z0_who = some q → rW l D Z (ty7 K) MOrder_begin 12 [(0, .ref (a0 0)), (2, .int x2)] [] (List.flatten [bOrder K a0 z0_who z0_size]) (List.flatten [bOrderG K a0 q]) none := by
  intro n
  induction n with
  | zero => intro x2 z0_who h; unfold mOrder_begin_l12 at h; cases h
  | succ n ih =>
    intro x2 z0_who h
    unfold mOrder_begin_l12 at h
    refine r_iload_n 1 dX4_begin_12 rfl ?_
    refine r_aload_n 0 dX4_begin_13 rfl ?_
    refine gOrder_size 0 rfl (tb_in (i := 7) (j := 23) rfl rfl) dX4_begin_14 ?_
    refine r_icmp_ge 33 dX4_begin_17 (by decide) (fun c2 => ?_) (fun c2 => ?_)
    · replace h := it_pos c2 h
      have hq := Option.some.inj h
      subst hq
      exact r_vret rfl dX4_begin_33
    · replace h := it_neg c2 h
      refine r_aload_n 0 dX4_begin_20 rfl ?_
      refine gOrder_who 0 rfl (tb_in (i := 7) (j := 22) rfl rfl) dX4_begin_21 ?_
      refine r_iload_n 1 dX4_begin_24 rfl ?_
      refine r_iload_n 1 dX4_begin_25 rfl ?_
      obtain ⟨h3, h⟩ := rq_some h
      obtain ⟨u3, e3, h⟩ := lt_some h
      refine sOrder_who (bs1 := [bOrder K a0 u3 z0_size]) 0 e3 rfl (inb_in h3) rfl dX4_begin_26 ?_
      refine r_iinc (y := (x2 + (1 : Int32))) (lv' := [(2, .int (x2 + (1 : Int32))), (0, .ref (a0 0))]) 1 dX4_begin_27 rfl rfl (Nat.le_of_ble_eq_true rfl) rfl ?_
      refine r_goto 12 dX4_begin_30 (by decide) ?_
      refine r_sub (lv' := [(0, .ref (a0 0)), (2, .int (x2 + (1 : Int32)))]) [1, 0] rfl ?_
      exact ih (x2 + (1 : Int32)) u3 h
def mOrder_begin (x1 : Int32) (z0_who : Nat → Int32) (z0_size : Int32) : Option ((Nat → Int32) × Int32) := lt (if (6 : Int32) < x1 then (6 : Int32) else x1) (fun y1 => mOrder_begin_l12 y1 FU (0 : Int32) z0_who)
set_option maxHeartbeats 4000000 in
set_option maxRecDepth 20000 in
theorem cOrder_begin {q : (Nat → Int32) × Int32} {x1 : Int32} (h : mOrder_begin x1 z0_who z0_size = some q) : rMet l D Z (ty7 K) MOrder_begin [.ref (a0 0), .int x1] (List.flatten [bOrder K a0 z0_who z0_size]) (List.flatten [bOrderG K a0 q]) none := by
  refine rMet.of (by decide) rfl (Nat.le_of_ble_eq_true rfl) ?_
  refine r_sub (lv' := [(0, .ref (a0 0)), (1, .int x1)]) [0, 1] rfl ?_
  unfold mOrder_begin at h
  refine r_aload_n 0 dX4_begin_0 rfl ?_
  refine r_iload_n 1 dX4_begin_1 rfl ?_
  refine r_bipush (x := (6 : Int32)) dX4_begin_2 (by decide) ?_
  refine r_mmin (tb_in (i := 7) (j := 25) rfl rfl) (tb_in (i := 3) (j := 20) rfl rfl) (tb_in (i := 3) (j := 21) rfl rfl) (tb_in (i := 3) (j := 22) rfl rfl) (by decide) (Nat.le_of_ble_eq_true rfl) dX4_begin_4 ?_
  obtain ⟨y1, e1, h⟩ := lt_some h
  refine r_top e1 ?_
  refine pOrder_size (bs1 := [bOrder K a0 z0_who y1]) 0 rfl rfl (tb_in (i := 7) (j := 23) rfl rfl) dX4_begin_7 ?_
  refine r_iconst (x := (0 : Int32)) dX4_begin_10 (by decide) ?_
  refine r_istore_n (lv' := [(2, .int (0 : Int32)), (0, .ref (a0 0)), (1, .int x1)]) dX4_begin_11 (Nat.le_of_ble_eq_true rfl) rfl ?_
  refine r_sub (lv' := [(0, .ref (a0 0)), (2, .int (0 : Int32))]) [1, 0] rfl ?_
  exact cOrder_begin_l12   FU (0 : Int32) z0_who h
end
theorem dX4_copyFrom_0 : decode cX4_copyFrom 0 = .ok (.aload_n 0, 1) := by decide +kernel
theorem dX4_copyFrom_1 : decode cX4_copyFrom 1 = .ok (.aload_n 1, 1) := by decide +kernel
theorem dX4_copyFrom_2 : decode cX4_copyFrom 2 = .ok (.getfield 15, 3) := by decide +kernel
theorem dX4_copyFrom_5 : decode cX4_copyFrom 5 = .ok (.putfield 15, 3) := by decide +kernel
theorem dX4_copyFrom_8 : decode cX4_copyFrom 8 = .ok (.aload_n 1, 1) := by decide +kernel
theorem dX4_copyFrom_9 : decode cX4_copyFrom 9 = .ok (.getfield 9, 3) := by decide +kernel
theorem dX4_copyFrom_12 : decode cX4_copyFrom 12 = .ok (.iconst 0, 1) := by decide +kernel
theorem dX4_copyFrom_13 : decode cX4_copyFrom 13 = .ok (.aload_n 0, 1) := by decide +kernel
theorem dX4_copyFrom_14 : decode cX4_copyFrom 14 = .ok (.getfield 9, 3) := by decide +kernel
theorem dX4_copyFrom_17 : decode cX4_copyFrom 17 = .ok (.iconst 0, 1) := by decide +kernel
theorem dX4_copyFrom_18 : decode cX4_copyFrom 18 = .ok (.bipush 6, 2) := by decide +kernel
theorem dX4_copyFrom_20 : decode cX4_copyFrom 20 = .ok (.invokestatic 25, 3) := by decide +kernel
theorem dX4_copyFrom_23 : decode cX4_copyFrom 23 = .ok (.return_, 1) := by decide +kernel
abbrev MOrder_copyFrom : rx_M := (RX4, yX4_copyFrom, cX4_copyFrom, 2, none, 3)
theorem kOrder_copyFrom : rKv MOrder_copyFrom 1 := ⟨tb_in (i := 10) (j := 14) rfl rfl, tb_in (i := 10) (j := 15) rfl rfl, tb_in (i := 8) (j := 1) rfl rfl, tb_in (i := 7) (j := 26) rfl rfl, ⟨by decide, by decide, by decide +kernel⟩, by decide⟩
section
variable {a0 : Nat → Nat} {a1 : Nat → Nat} {z0_who : Nat → Int32} {z0_size : Int32} {z1_who : Nat → Int32} {z1_size : Int32}
def mOrder_copyFrom (z0_who : Nat → Int32) (z0_size : Int32) (z1_who : Nat → Int32) (z1_size : Int32) : Option ((Nat → Int32) × Int32) := rq (cpin (0 : Int32) (0 : Int32) (6 : Int32) 6 6) (lt (va_cpy z1_who z0_who (0 : Int32).toNatClampNeg (0 : Int32).toNatClampNeg (6 : Int32).toNatClampNeg) (fun u1 => some (u1, z1_size)))
set_option maxHeartbeats 4000000 in
set_option maxRecDepth 20000 in
theorem cOrder_copyFrom {q : (Nat → Int32) × Int32}  (h : mOrder_copyFrom z0_who z0_size z1_who z1_size = some q) : rMet l D Z (ty7 K) MOrder_copyFrom [.ref (a0 0), .ref (a1 0)] (List.flatten [bOrder K a0 z0_who z0_size, bOrder K a1 z1_who z1_size]) (List.flatten [bOrderG K a0 q, bOrder K a1 z1_who z1_size]) none := by
  refine rMet.of (by decide) rfl (Nat.le_of_ble_eq_true rfl) ?_
  refine r_sub (lv' := [(0, .ref (a0 0)), (1, .ref (a1 0))]) [0, 1] rfl ?_
  unfold mOrder_copyFrom at h
  refine r_aload_n 0 dX4_copyFrom_0 rfl ?_
  refine r_aload_n 1 dX4_copyFrom_1 rfl ?_
  refine gOrder_size 1 rfl (tb_in (i := 7) (j := 23) rfl rfl) dX4_copyFrom_2 ?_
  refine pOrder_size (bs1 := [bOrder K a0 z0_who z1_size, bOrder K a1 z1_who z1_size]) 0 rfl rfl (tb_in (i := 7) (j := 23) rfl rfl) dX4_copyFrom_5 ?_
  refine r_aload_n 1 dX4_copyFrom_8 rfl ?_
  refine gOrder_who 1 rfl (tb_in (i := 7) (j := 22) rfl rfl) dX4_copyFrom_9 ?_
  refine r_iconst (x := (0 : Int32)) dX4_copyFrom_12 (by decide) ?_
  refine r_aload_n 0 dX4_copyFrom_13 rfl ?_
  refine gOrder_who 0 rfl (tb_in (i := 7) (j := 22) rfl rfl) dX4_copyFrom_14 ?_
  refine r_iconst (x := (0 : Int32)) dX4_copyFrom_17 (by decide) ?_
  refine r_bipush (x := (6 : Int32)) dX4_copyFrom_18 (by decide) ?_
  obtain ⟨h1, h⟩ := rq_some h
  obtain ⟨u1, e1, h⟩ := lt_some h
  refine b_copy (bs1 := [bOrder K a0 u1 z1_size, bOrder K a1 z1_who z1_size]) (ty := .int) 1 1 0 1 1 e1 h1 (fun _ _ => rfl) rfl rfl rfl rfl rfl rfl rfl (tb_in (i := 7) (j := 27) rfl rfl) (tb_in (i := 0) (j := 11) rfl rfl) (tb_in (i := 0) (j := 12) rfl rfl) (tb_in (i := 0) (j := 13) rfl rfl) (by decide) (Nat.le_of_ble_eq_true rfl) dX4_copyFrom_20 ?_
  have hq := Option.some.inj h
  subst hq
  exact r_vret rfl dX4_copyFrom_23
end
theorem dX4_swap_0 : decode cX4_swap 0 = .ok (.aload_n 0, 1) := by decide +kernel
theorem dX4_swap_1 : decode cX4_swap 1 = .ok (.getfield 9, 3) := by decide +kernel
theorem dX4_swap_4 : decode cX4_swap 4 = .ok (.iload_n 1, 1) := by decide +kernel
theorem dX4_swap_5 : decode cX4_swap 5 = .ok (.iaload, 1) := by decide +kernel
theorem dX4_swap_6 : decode cX4_swap 6 = .ok (.istore_n 3, 1) := by decide +kernel
theorem dX4_swap_7 : decode cX4_swap 7 = .ok (.aload_n 0, 1) := by decide +kernel
theorem dX4_swap_8 : decode cX4_swap 8 = .ok (.getfield 9, 3) := by decide +kernel
theorem dX4_swap_11 : decode cX4_swap 11 = .ok (.iload_n 1, 1) := by decide +kernel
theorem dX4_swap_12 : decode cX4_swap 12 = .ok (.aload_n 0, 1) := by decide +kernel
theorem dX4_swap_13 : decode cX4_swap 13 = .ok (.getfield 9, 3) := by decide +kernel
theorem dX4_swap_16 : decode cX4_swap 16 = .ok (.iload_n 2, 1) := by decide +kernel
theorem dX4_swap_17 : decode cX4_swap 17 = .ok (.iaload, 1) := by decide +kernel
theorem dX4_swap_18 : decode cX4_swap 18 = .ok (.iastore, 1) := by decide +kernel
theorem dX4_swap_19 : decode cX4_swap 19 = .ok (.aload_n 0, 1) := by decide +kernel
theorem dX4_swap_20 : decode cX4_swap 20 = .ok (.getfield 9, 3) := by decide +kernel
theorem dX4_swap_23 : decode cX4_swap 23 = .ok (.iload_n 2, 1) := by decide +kernel
theorem dX4_swap_24 : decode cX4_swap 24 = .ok (.iload_n 3, 1) := by decide +kernel
theorem dX4_swap_25 : decode cX4_swap 25 = .ok (.iastore, 1) := by decide +kernel
theorem dX4_swap_26 : decode cX4_swap 26 = .ok (.return_, 1) := by decide +kernel
abbrev MOrder_swap : rx_M := (RX4, yX4_swap, cX4_swap, 4, none, 1)
theorem kOrder_swap : rKv MOrder_swap 2 := ⟨tb_in (i := 7) (j := 31) rfl rfl, tb_in (i := 8) (j := 0) rfl rfl, tb_in (i := 8) (j := 1) rfl rfl, tb_in (i := 7) (j := 28) rfl rfl, ⟨by decide, by decide, by decide +kernel⟩, by decide⟩
section
variable {a0 : Nat → Nat} {z0_who : Nat → Int32} {z0_size : Int32}
def mOrder_swap (x1 : Int32) (x2 : Int32) (z0_who : Nat → Int32) : Option ((Nat → Int32)) := rq (inb x1 6) (lt (z0_who x1.toNatClampNeg) (fun y2 => rq (inb x2 6) (rq (inb x1 6) (lt (upd z0_who x1.toNatClampNeg (z0_who x2.toNatClampNeg)) (fun u4 => rq (inb x2 6) (lt (upd u4 x2.toNatClampNeg y2) (fun u5 => some (u5))))))))
set_option maxHeartbeats 4000000 in
set_option maxRecDepth 20000 in
theorem cOrder_swap {q : (Nat → Int32)} {x1 : Int32} {x2 : Int32} (h : mOrder_swap x1 x2 z0_who = some q) : rMet l D Z (ty7 K) MOrder_swap [.ref (a0 0), .int x1, .int x2] (List.flatten [bOrder K a0 z0_who z0_size]) (List.flatten [bOrder K a0 q z0_size]) none := by
  refine rMet.of (by decide) rfl (Nat.le_of_ble_eq_true rfl) ?_
  refine r_sub (lv' := [(0, .ref (a0 0)), (1, .int x1), (2, .int x2)]) [0, 1, 2] rfl ?_
  unfold mOrder_swap at h
  refine r_aload_n 0 dX4_swap_0 rfl ?_
  refine gOrder_who 0 rfl (tb_in (i := 7) (j := 22) rfl rfl) dX4_swap_1 ?_
  refine r_iload_n 1 dX4_swap_4 rfl ?_
  obtain ⟨h1, h⟩ := rq_some h
  refine lOrder_who 0 rfl (inb_in h1) dX4_swap_5 ?_
  obtain ⟨y2, e2, h⟩ := lt_some h
  refine r_top e2 ?_
  refine r_istore_n (lv' := [(3, .int y2), (0, .ref (a0 0)), (1, .int x1), (2, .int x2)]) dX4_swap_6 (Nat.le_of_ble_eq_true rfl) rfl ?_
  refine r_aload_n 1 dX4_swap_7 rfl ?_
  refine gOrder_who 0 rfl (tb_in (i := 7) (j := 22) rfl rfl) dX4_swap_8 ?_
  refine r_iload_n 2 dX4_swap_11 rfl ?_
  refine r_aload_n 1 dX4_swap_12 rfl ?_
  refine gOrder_who 0 rfl (tb_in (i := 7) (j := 22) rfl rfl) dX4_swap_13 ?_
  refine r_iload_n 3 dX4_swap_16 rfl ?_
  obtain ⟨h3, h⟩ := rq_some h
  refine lOrder_who 0 rfl (inb_in h3) dX4_swap_17 ?_
  obtain ⟨h4, h⟩ := rq_some h
  obtain ⟨u4, e4, h⟩ := lt_some h
  refine sOrder_who (bs1 := [bOrder K a0 u4 z0_size]) 0 e4 rfl (inb_in h4) rfl dX4_swap_18 ?_
  refine r_aload_n 1 dX4_swap_19 rfl ?_
  refine gOrder_who 0 rfl (tb_in (i := 7) (j := 22) rfl rfl) dX4_swap_20 ?_
  refine r_iload_n 3 dX4_swap_23 rfl ?_
  refine r_iload_n 0 dX4_swap_24 rfl ?_
  obtain ⟨h5, h⟩ := rq_some h
  obtain ⟨u5, e5, h⟩ := lt_some h
  refine sOrder_who (bs1 := [bOrder K a0 u5 z0_size]) 0 e5 rfl (inb_in h5) rfl dX4_swap_25 ?_
  have hq := Option.some.inj h
  subst hq
  exact r_vret rfl dX4_swap_26
end
theorem dX4_goOn_0 : decode cX4_goOn 0 = .ok (.aload_n 0, 1) := by decide +kernel
theorem dX4_goOn_1 : decode cX4_goOn 1 = .ok (.getfield 15, 3) := by decide +kernel
theorem dX4_goOn_4 : decode cX4_goOn 4 = .ok (.iconst 2, 1) := by decide +kernel
theorem dX4_goOn_5 : decode cX4_goOn 5 = .ok (.isub, 1) := by decide +kernel
theorem dX4_goOn_6 : decode cX4_goOn 6 = .ok (.istore_n 1, 1) := by decide +kernel
theorem dX4_goOn_7 : decode cX4_goOn 7 = .ok (.iload_n 1, 1) := by decide +kernel
theorem dX4_goOn_8 : decode cX4_goOn 8 = .ok (.ifCond .le 26, 3) := by decide +kernel
theorem dX4_goOn_11 : decode cX4_goOn 11 = .ok (.aload_n 0, 1) := by decide +kernel
theorem dX4_goOn_12 : decode cX4_goOn 12 = .ok (.getfield 9, 3) := by decide +kernel
theorem dX4_goOn_15 : decode cX4_goOn 15 = .ok (.iload_n 1, 1) := by decide +kernel
theorem dX4_goOn_16 : decode cX4_goOn 16 = .ok (.iaload, 1) := by decide +kernel
theorem dX4_goOn_17 : decode cX4_goOn 17 = .ok (.aload_n 0, 1) := by decide +kernel
theorem dX4_goOn_18 : decode cX4_goOn 18 = .ok (.getfield 9, 3) := by decide +kernel
theorem dX4_goOn_21 : decode cX4_goOn 21 = .ok (.iload_n 1, 1) := by decide +kernel
theorem dX4_goOn_22 : decode cX4_goOn 22 = .ok (.iconst 1, 1) := by decide +kernel
theorem dX4_goOn_23 : decode cX4_goOn 23 = .ok (.iadd, 1) := by decide +kernel
theorem dX4_goOn_24 : decode cX4_goOn 24 = .ok (.iaload, 1) := by decide +kernel
theorem dX4_goOn_25 : decode cX4_goOn 25 = .ok (.if_icmp .le 9, 3) := by decide +kernel
theorem dX4_goOn_28 : decode cX4_goOn 28 = .ok (.iinc 1 (-1), 3) := by decide +kernel
theorem dX4_goOn_31 : decode cX4_goOn 31 = .ok (.goto (-24), 3) := by decide +kernel
theorem dX4_goOn_34 : decode cX4_goOn 34 = .ok (.iload_n 1, 1) := by decide +kernel
theorem dX4_goOn_35 : decode cX4_goOn 35 = .ok (.ifCond .gt 5, 3) := by decide +kernel
theorem dX4_goOn_38 : decode cX4_goOn 38 = .ok (.iconst 0, 1) := by decide +kernel
theorem dX4_goOn_39 : decode cX4_goOn 39 = .ok (.ireturn, 1) := by decide +kernel
theorem dX4_goOn_40 : decode cX4_goOn 40 = .ok (.aload_n 0, 1) := by decide +kernel
theorem dX4_goOn_41 : decode cX4_goOn 41 = .ok (.getfield 15, 3) := by decide +kernel
theorem dX4_goOn_44 : decode cX4_goOn 44 = .ok (.iconst 1, 1) := by decide +kernel
theorem dX4_goOn_45 : decode cX4_goOn 45 = .ok (.isub, 1) := by decide +kernel
theorem dX4_goOn_46 : decode cX4_goOn 46 = .ok (.istore_n 2, 1) := by decide +kernel
theorem dX4_goOn_47 : decode cX4_goOn 47 = .ok (.iload_n 2, 1) := by decide +kernel
theorem dX4_goOn_48 : decode cX4_goOn 48 = .ok (.iload_n 1, 1) := by decide +kernel
theorem dX4_goOn_49 : decode cX4_goOn 49 = .ok (.if_icmp .le 24, 3) := by decide +kernel
theorem dX4_goOn_52 : decode cX4_goOn 52 = .ok (.aload_n 0, 1) := by decide +kernel
theorem dX4_goOn_53 : decode cX4_goOn 53 = .ok (.getfield 9, 3) := by decide +kernel
theorem dX4_goOn_56 : decode cX4_goOn 56 = .ok (.iload_n 2, 1) := by decide +kernel
theorem dX4_goOn_57 : decode cX4_goOn 57 = .ok (.iaload, 1) := by decide +kernel
theorem dX4_goOn_58 : decode cX4_goOn 58 = .ok (.aload_n 0, 1) := by decide +kernel
theorem dX4_goOn_59 : decode cX4_goOn 59 = .ok (.getfield 9, 3) := by decide +kernel
theorem dX4_goOn_62 : decode cX4_goOn 62 = .ok (.iload_n 1, 1) := by decide +kernel
theorem dX4_goOn_63 : decode cX4_goOn 63 = .ok (.iaload, 1) := by decide +kernel
theorem dX4_goOn_64 : decode cX4_goOn 64 = .ok (.if_icmp .ge 9, 3) := by decide +kernel
theorem dX4_goOn_67 : decode cX4_goOn 67 = .ok (.iinc 2 (-1), 3) := by decide +kernel
theorem dX4_goOn_70 : decode cX4_goOn 70 = .ok (.goto (-23), 3) := by decide +kernel
theorem dX4_goOn_73 : decode cX4_goOn 73 = .ok (.aload_n 0, 1) := by decide +kernel
theorem dX4_goOn_74 : decode cX4_goOn 74 = .ok (.iload_n 1, 1) := by decide +kernel
theorem dX4_goOn_75 : decode cX4_goOn 75 = .ok (.iload_n 2, 1) := by decide +kernel
theorem dX4_goOn_76 : decode cX4_goOn 76 = .ok (.invokevirtual 31, 3) := by decide +kernel
theorem dX4_goOn_79 : decode cX4_goOn 79 = .ok (.iload_n 1, 1) := by decide +kernel
theorem dX4_goOn_80 : decode cX4_goOn 80 = .ok (.iconst 1, 1) := by decide +kernel
theorem dX4_goOn_81 : decode cX4_goOn 81 = .ok (.iadd, 1) := by decide +kernel
theorem dX4_goOn_82 : decode cX4_goOn 82 = .ok (.istore_n 3, 1) := by decide +kernel
theorem dX4_goOn_83 : decode cX4_goOn 83 = .ok (.aload_n 0, 1) := by decide +kernel
theorem dX4_goOn_84 : decode cX4_goOn 84 = .ok (.getfield 15, 3) := by decide +kernel
theorem dX4_goOn_87 : decode cX4_goOn 87 = .ok (.iconst 1, 1) := by decide +kernel
theorem dX4_goOn_88 : decode cX4_goOn 88 = .ok (.isub, 1) := by decide +kernel
theorem dX4_goOn_89 : decode cX4_goOn 89 = .ok (.istore 4, 2) := by decide +kernel
theorem dX4_goOn_91 : decode cX4_goOn 91 = .ok (.iload_n 3, 1) := by decide +kernel
theorem dX4_goOn_92 : decode cX4_goOn 92 = .ok (.iload 4, 2) := by decide +kernel
theorem dX4_goOn_94 : decode cX4_goOn 94 = .ok (.if_icmp .ge 19, 3) := by decide +kernel
theorem dX4_goOn_97 : decode cX4_goOn 97 = .ok (.aload_n 0, 1) := by decide +kernel
theorem dX4_goOn_98 : decode cX4_goOn 98 = .ok (.iload_n 3, 1) := by decide +kernel
theorem dX4_goOn_99 : decode cX4_goOn 99 = .ok (.iload 4, 2) := by decide +kernel
theorem dX4_goOn_101 : decode cX4_goOn 101 = .ok (.invokevirtual 31, 3) := by decide +kernel
theorem dX4_goOn_104 : decode cX4_goOn 104 = .ok (.iinc 3 1, 3) := by decide +kernel
theorem dX4_goOn_107 : decode cX4_goOn 107 = .ok (.iinc 4 (-1), 3) := by decide +kernel
theorem dX4_goOn_110 : decode cX4_goOn 110 = .ok (.goto (-19), 3) := by decide +kernel
theorem dX4_goOn_113 : decode cX4_goOn 113 = .ok (.iconst 1, 1) := by decide +kernel
theorem dX4_goOn_114 : decode cX4_goOn 114 = .ok (.ireturn, 1) := by decide +kernel
abbrev MOrder_goOn : rx_M := (RX4, yX4_goOn, cX4_goOn, 5, (some .boolean), 2)
theorem kOrder_goOn : rKv MOrder_goOn 0 := ⟨tb_in (i := 10) (j := 16) rfl rfl, tb_in (i := 10) (j := 17) rfl rfl, tb_in (i := 8) (j := 1) rfl rfl, tb_in (i := 7) (j := 29) rfl rfl, ⟨by decide, by decide, by decide +kernel⟩, by decide⟩
section
variable {a0 : Nat → Nat} {z0_who : Nat → Int32} {z0_size : Int32}
def mOrder_goOn_l91 (z0_size : Int32) : Nat → Int32 → Int32 → (Nat → Int32) → Option (Int32 × (Nat → Int32))
  | 0, _, _, _ => none
  | n + 1, x3, x4, z0_who => (if x4 ≤ x3 then some ((1 : Int32), z0_who) else (mOrder_swap x3 x4 z0_who).bind (fun q10 => mOrder_goOn_l91 z0_size n (x3 + (1 : Int32)) (x4 + (-1 : Int32)) q10))
set_option maxHeartbeats 4000000 in
set_option maxRecDepth 20000 in
theorem cOrder_goOn_l91 {q : Int32 × (Nat → Int32)}   : ∀ (n : Nat) (x3 : Int32) (x4 : Int32) (z0_who : Nat → Int32), mOrder_goOn_l91 z0_size n x3 x4 z0_who = some q → rW l D Z (ty7 K) MOrder_goOn 91 [(0, .ref (a0 0)), (3, .int x3), (4, .int x4)] [] (List.flatten [bOrder K a0 z0_who z0_size]) (List.flatten [bOrder K a0 q.2 z0_size]) (some (.int q.1)) := by
  intro n
  induction n with
  | zero => intro x3 x4 z0_who h; unfold mOrder_goOn_l91 at h; cases h
  | succ n ih =>
    intro x3 x4 z0_who h
    unfold mOrder_goOn_l91 at h
    refine r_iload_n 1 dX4_goOn_91 rfl ?_
    refine r_iload 2 dX4_goOn_92 rfl ?_
    refine r_icmp_ge 113 dX4_goOn_94 (by decide) (fun c9 => ?_) (fun c9 => ?_)
    · replace h := it_pos c9 h
      refine r_iconst (x := (1 : Int32)) dX4_goOn_113 (by decide) ?_
      have hq := Option.some.inj h
      subst hq
      exact r_zret (ty := .boolean) rfl rfl dX4_goOn_114
    · replace h := it_neg c9 h
      refine r_aload_n 0 dX4_goOn_97 rfl ?_
      refine r_iload_n 1 dX4_goOn_98 rfl ?_
      refine r_iload 2 dX4_goOn_99 rfl ?_
      obtain ⟨q10, h10, h⟩ := bd_some h
      refine b_callV (isC := [0]) (ci := 3)  (st := []) (bs1 := [bOrder K a0 q10 z0_size]) (cOrder_swap (a0 := a0) (z0_who := z0_who) (z0_size := z0_size) h10) rfl rfl (Nat.le_of_ble_eq_true rfl) kOrder_swap (tb_in (i := 7) (j := 30) rfl rfl) (by decide) (by decide) rfl rfl rfl rfl rfl rfl rfl dX4_goOn_101 ?_
      refine r_iinc (y := (x3 + (1 : Int32))) (lv' := [(3, .int (x3 + (1 : Int32))), (0, .ref (a0 0)), (4, .int x4)]) 1 dX4_goOn_104 rfl rfl (Nat.le_of_ble_eq_true rfl) rfl ?_
      refine r_iinc (y := (x4 + (-1 : Int32))) (lv' := [(4, .int (x4 + (-1 : Int32))), (3, .int (x3 + (1 : Int32))), (0, .ref (a0 0))]) 2 dX4_goOn_107 rfl rfl (Nat.le_of_ble_eq_true rfl) rfl ?_
      refine r_goto 91 dX4_goOn_110 (by decide) ?_
      refine r_sub (lv' := [(0, .ref (a0 0)), (3, .int (x3 + (1 : Int32))), (4, .int (x4 + (-1 : Int32)))]) [2, 1, 0] rfl ?_
      exact ih (x3 + (1 : Int32)) (x4 + (-1 : Int32)) q10 h
def mOrder_goOn_l47 (z0_who : Nat → Int32) (z0_size : Int32) (x1 : Int32) : Nat → Int32 → Option (Int32 × (Nat → Int32))
  | 0, _ => none
  | n + 1, x2 => (if x2 ≤ x1 then (mOrder_swap x1 x2 z0_who).bind (fun q6 => lt (x1 + (1 : Int32)) (fun y7 => lt (z0_size - (1 : Int32)) (fun y8 => mOrder_goOn_l91 z0_size FU y7 y8 q6))) else rq (inb x2 6) (rq (inb x1 6) ((if (z0_who x1.toNatClampNeg) ≤ (z0_who x2.toNatClampNeg) then (mOrder_swap x1 x2 z0_who).bind (fun q14 => lt (x1 + (1 : Int32)) (fun y15 => lt (z0_size - (1 : Int32)) (fun y16 => mOrder_goOn_l91 z0_size FU y15 y16 q14))) else mOrder_goOn_l47 z0_who z0_size x1 n (x2 + (-1 : Int32))))))
set_option maxHeartbeats 4000000 in
set_option maxRecDepth 20000 in
theorem cOrder_goOn_l47 {q : Int32 × (Nat → Int32)} {x1 : Int32}  : ∀ (n : Nat) (x2 : Int32), mOrder_goOn_l47 z0_who z0_size x1 n x2 = some q → rW l D Z (ty7 K) MOrder_goOn 47 [(0, .ref (a0 0)), (1, .int x1), (2, .int x2)] [] (List.flatten [bOrder K a0 z0_who z0_size]) (List.flatten [bOrder K a0 q.2 z0_size]) (some (.int q.1)) := by
  intro n
  induction n with
  | zero => intro x2 h; unfold mOrder_goOn_l47 at h; cases h
  | succ n ih =>
    intro x2 h
    unfold mOrder_goOn_l47 at h
    refine r_iload_n 2 dX4_goOn_47 rfl ?_
    refine r_iload_n 1 dX4_goOn_48 rfl ?_
    refine r_icmp_le 73 dX4_goOn_49 (by decide) (fun c5 => ?_) (fun c5 => ?_)
    · replace h := it_pos c5 h
      refine r_aload_n 0 dX4_goOn_73 rfl ?_
      refine r_iload_n 1 dX4_goOn_74 rfl ?_
      refine r_iload_n 2 dX4_goOn_75 rfl ?_
      obtain ⟨q6, h6, h⟩ := bd_some h
      refine b_callV (isC := [0]) (ci := 3)  (st := []) (bs1 := [bOrder K a0 q6 z0_size]) (cOrder_swap (a0 := a0) (z0_who := z0_who) (z0_size := z0_size) h6) rfl rfl (Nat.le_of_ble_eq_true rfl) kOrder_swap (tb_in (i := 7) (j := 30) rfl rfl) (by decide) (by decide) rfl rfl rfl rfl rfl rfl rfl dX4_goOn_76 ?_
      refine r_iload_n 1 dX4_goOn_79 rfl ?_
      refine r_iconst (x := (1 : Int32)) dX4_goOn_80 (by decide) ?_
      refine r_iadd dX4_goOn_81 ?_
      obtain ⟨y7, e7, h⟩ := lt_some h
      refine r_top e7 ?_
      refine r_istore_n (lv' := [(3, .int y7), (0, .ref (a0 0)), (1, .int x1), (2, .int x2)]) dX4_goOn_82 (Nat.le_of_ble_eq_true rfl) rfl ?_
      refine r_aload_n 1 dX4_goOn_83 rfl ?_
      refine gOrder_size 0 rfl (tb_in (i := 7) (j := 23) rfl rfl) dX4_goOn_84 ?_
      refine r_iconst (x := (1 : Int32)) dX4_goOn_87 (by decide) ?_
      refine r_isub dX4_goOn_88 ?_
      obtain ⟨y8, e8, h⟩ := lt_some h
      refine r_top e8 ?_
      refine r_istore (lv' := [(4, .int y8), (3, .int y7), (0, .ref (a0 0)), (1, .int x1), (2, .int x2)]) dX4_goOn_89 (Nat.le_of_ble_eq_true rfl) rfl ?_
      refine r_sub (lv' := [(0, .ref (a0 0)), (3, .int y7), (4, .int y8)]) [2, 1, 0] rfl ?_
      exact cOrder_goOn_l91   FU y7 y8 q6 h
    · replace h := it_neg c5 h
      refine r_aload_n 0 dX4_goOn_52 rfl ?_
      refine gOrder_who 0 rfl (tb_in (i := 7) (j := 22) rfl rfl) dX4_goOn_53 ?_
      refine r_iload_n 2 dX4_goOn_56 rfl ?_
      obtain ⟨h11, h⟩ := rq_some h
      refine lOrder_who 0 rfl (inb_in h11) dX4_goOn_57 ?_
      refine r_aload_n 0 dX4_goOn_58 rfl ?_
      refine gOrder_who 0 rfl (tb_in (i := 7) (j := 22) rfl rfl) dX4_goOn_59 ?_
      refine r_iload_n 1 dX4_goOn_62 rfl ?_
      obtain ⟨h12, h⟩ := rq_some h
      refine lOrder_who 0 rfl (inb_in h12) dX4_goOn_63 ?_
      refine r_icmp_ge 73 dX4_goOn_64 (by decide) (fun c13 => ?_) (fun c13 => ?_)
      · replace h := it_pos c13 h
        refine r_aload_n 0 dX4_goOn_73 rfl ?_
        refine r_iload_n 1 dX4_goOn_74 rfl ?_
        refine r_iload_n 2 dX4_goOn_75 rfl ?_
        obtain ⟨q14, h14, h⟩ := bd_some h
        refine b_callV (isC := [0]) (ci := 3)  (st := []) (bs1 := [bOrder K a0 q14 z0_size]) (cOrder_swap (a0 := a0) (z0_who := z0_who) (z0_size := z0_size) h14) rfl rfl (Nat.le_of_ble_eq_true rfl) kOrder_swap (tb_in (i := 7) (j := 30) rfl rfl) (by decide) (by decide) rfl rfl rfl rfl rfl rfl rfl dX4_goOn_76 ?_
        refine r_iload_n 1 dX4_goOn_79 rfl ?_
        refine r_iconst (x := (1 : Int32)) dX4_goOn_80 (by decide) ?_
        refine r_iadd dX4_goOn_81 ?_
        obtain ⟨y15, e15, h⟩ := lt_some h
        refine r_top e15 ?_
        refine r_istore_n (lv' := [(3, .int y15), (0, .ref (a0 0)), (1, .int x1), (2, .int x2)]) dX4_goOn_82 (Nat.le_of_ble_eq_true rfl) rfl ?_
        refine r_aload_n 1 dX4_goOn_83 rfl ?_
        refine gOrder_size 0 rfl (tb_in (i := 7) (j := 23) rfl rfl) dX4_goOn_84 ?_
        refine r_iconst (x := (1 : Int32)) dX4_goOn_87 (by decide) ?_
        refine r_isub dX4_goOn_88 ?_
        obtain ⟨y16, e16, h⟩ := lt_some h
        refine r_top e16 ?_
        refine r_istore (lv' := [(4, .int y16), (3, .int y15), (0, .ref (a0 0)), (1, .int x1), (2, .int x2)]) dX4_goOn_89 (Nat.le_of_ble_eq_true rfl) rfl ?_
        refine r_sub (lv' := [(0, .ref (a0 0)), (3, .int y15), (4, .int y16)]) [2, 1, 0] rfl ?_
        exact cOrder_goOn_l91   FU y15 y16 q14 h
      · replace h := it_neg c13 h
        refine r_iinc (y := (x2 + (-1 : Int32))) (lv' := [(2, .int (x2 + (-1 : Int32))), (0, .ref (a0 0)), (1, .int x1)]) 2 dX4_goOn_67 rfl rfl (Nat.le_of_ble_eq_true rfl) rfl ?_
        refine r_goto 47 dX4_goOn_70 (by decide) ?_
        refine r_sub (lv' := [(0, .ref (a0 0)), (1, .int x1), (2, .int (x2 + (-1 : Int32)))]) [1, 2, 0] rfl ?_
        exact ih (x2 + (-1 : Int32)) h
def mOrder_goOn_l7 (z0_who : Nat → Int32) (z0_size : Int32) : Nat → Int32 → Option (Int32 × (Nat → Int32))
  | 0, _ => none
  | n + 1, x1 => (if x1 ≤ 0 then (if 0 < x1 then lt (z0_size - (1 : Int32)) (fun y4 => mOrder_goOn_l47 z0_who z0_size x1 FU y4) else some ((0 : Int32), z0_who)) else rq (inb x1 6) (rq (inb (x1 + (1 : Int32)) 6) ((if (z0_who x1.toNatClampNeg) ≤ (z0_who (x1 + (1 : Int32)).toNatClampNeg) then (if 0 < x1 then lt (z0_size - (1 : Int32)) (fun y21 => mOrder_goOn_l47 z0_who z0_size x1 FU y21) else some ((0 : Int32), z0_who)) else mOrder_goOn_l7 z0_who z0_size n (x1 + (-1 : Int32))))))
set_option maxHeartbeats 4000000 in
set_option maxRecDepth 20000 in
theorem cOrder_goOn_l7 {q : Int32 × (Nat → Int32)}   : ∀ (n : Nat) (x1 : Int32), mOrder_goOn_l7 z0_who z0_size n x1 = some q → rW l D Z (ty7 K) MOrder_goOn 7 [(0, .ref (a0 0)), (1, .int x1)] [] (List.flatten [bOrder K a0 z0_who z0_size]) (List.flatten [bOrder K a0 q.2 z0_size]) (some (.int q.1)) := by
  intro n
  induction n with
  | zero => intro x1 h; unfold mOrder_goOn_l7 at h; cases h
  | succ n ih =>
    intro x1 h
    unfold mOrder_goOn_l7 at h
    refine r_iload_n 1 dX4_goOn_7 rfl ?_
    refine r_if_le 34 dX4_goOn_8 (by decide) (fun c2 => ?_) (fun c2 => ?_)
    · replace h := it_pos c2 h
      refine r_iload_n 1 dX4_goOn_34 rfl ?_
      refine r_if_gt 40 dX4_goOn_35 (by decide) (fun c3 => ?_) (fun c3 => ?_)
      · replace h := it_pos c3 h
        refine r_aload_n 0 dX4_goOn_40 rfl ?_
        refine gOrder_size 0 rfl (tb_in (i := 7) (j := 23) rfl rfl) dX4_goOn_41 ?_
        refine r_iconst (x := (1 : Int32)) dX4_goOn_44 (by decide) ?_
        refine r_isub dX4_goOn_45 ?_
        obtain ⟨y4, e4, h⟩ := lt_some h
        refine r_top e4 ?_
        refine r_istore_n (lv' := [(2, .int y4), (0, .ref (a0 0)), (1, .int x1)]) dX4_goOn_46 (Nat.le_of_ble_eq_true rfl) rfl ?_
        refine r_sub (lv' := [(0, .ref (a0 0)), (1, .int x1), (2, .int y4)]) [1, 2, 0] rfl ?_
        exact cOrder_goOn_l47   FU y4 h
      · replace h := it_neg c3 h
        refine r_iconst (x := (0 : Int32)) dX4_goOn_38 (by decide) ?_
        have hq := Option.some.inj h
        subst hq
        exact r_zret (ty := .boolean) rfl rfl dX4_goOn_39
    · replace h := it_neg c2 h
      refine r_aload_n 0 dX4_goOn_11 rfl ?_
      refine gOrder_who 0 rfl (tb_in (i := 7) (j := 22) rfl rfl) dX4_goOn_12 ?_
      refine r_iload_n 1 dX4_goOn_15 rfl ?_
      obtain ⟨h17, h⟩ := rq_some h
      refine lOrder_who 0 rfl (inb_in h17) dX4_goOn_16 ?_
      refine r_aload_n 0 dX4_goOn_17 rfl ?_
      refine gOrder_who 0 rfl (tb_in (i := 7) (j := 22) rfl rfl) dX4_goOn_18 ?_
      refine r_iload_n 1 dX4_goOn_21 rfl ?_
      refine r_iconst (x := (1 : Int32)) dX4_goOn_22 (by decide) ?_
      refine r_iadd dX4_goOn_23 ?_
      obtain ⟨h18, h⟩ := rq_some h
      refine lOrder_who 0 rfl (inb_in h18) dX4_goOn_24 ?_
      refine r_icmp_le 34 dX4_goOn_25 (by decide) (fun c19 => ?_) (fun c19 => ?_)
      · replace h := it_pos c19 h
        refine r_iload_n 1 dX4_goOn_34 rfl ?_
        refine r_if_gt 40 dX4_goOn_35 (by decide) (fun c20 => ?_) (fun c20 => ?_)
        · replace h := it_pos c20 h
          refine r_aload_n 0 dX4_goOn_40 rfl ?_
          refine gOrder_size 0 rfl (tb_in (i := 7) (j := 23) rfl rfl) dX4_goOn_41 ?_
          refine r_iconst (x := (1 : Int32)) dX4_goOn_44 (by decide) ?_
          refine r_isub dX4_goOn_45 ?_
          obtain ⟨y21, e21, h⟩ := lt_some h
          refine r_top e21 ?_
          refine r_istore_n (lv' := [(2, .int y21), (0, .ref (a0 0)), (1, .int x1)]) dX4_goOn_46 (Nat.le_of_ble_eq_true rfl) rfl ?_
          refine r_sub (lv' := [(0, .ref (a0 0)), (1, .int x1), (2, .int y21)]) [1, 2, 0] rfl ?_
          exact cOrder_goOn_l47   FU y21 h
        · replace h := it_neg c20 h
          refine r_iconst (x := (0 : Int32)) dX4_goOn_38 (by decide) ?_
          have hq := Option.some.inj h
          subst hq
          exact r_zret (ty := .boolean) rfl rfl dX4_goOn_39
      · replace h := it_neg c19 h
        refine r_iinc (y := (x1 + (-1 : Int32))) (lv' := [(1, .int (x1 + (-1 : Int32))), (0, .ref (a0 0))]) 1 dX4_goOn_28 rfl rfl (Nat.le_of_ble_eq_true rfl) rfl ?_
        refine r_goto 7 dX4_goOn_31 (by decide) ?_
        refine r_sub (lv' := [(0, .ref (a0 0)), (1, .int (x1 + (-1 : Int32)))]) [1, 0] rfl ?_
        exact ih (x1 + (-1 : Int32)) h
def mOrder_goOn (z0_who : Nat → Int32) (z0_size : Int32) : Option (Int32 × (Nat → Int32)) := lt (z0_size - (2 : Int32)) (fun y1 => mOrder_goOn_l7 z0_who z0_size FU y1)
set_option maxHeartbeats 4000000 in
set_option maxRecDepth 20000 in
theorem cOrder_goOn {q : Int32 × (Nat → Int32)}  (h : mOrder_goOn z0_who z0_size = some q) : rMet l D Z (ty7 K) MOrder_goOn [.ref (a0 0)] (List.flatten [bOrder K a0 z0_who z0_size]) (List.flatten [bOrder K a0 q.2 z0_size]) (some (.int q.1)) := by
  refine rMet.of (by decide) rfl (Nat.le_of_ble_eq_true rfl) ?_
  refine r_sub (lv' := [(0, .ref (a0 0))]) [0] rfl ?_
  unfold mOrder_goOn at h
  refine r_aload_n 0 dX4_goOn_0 rfl ?_
  refine gOrder_size 0 rfl (tb_in (i := 7) (j := 23) rfl rfl) dX4_goOn_1 ?_
  refine r_iconst (x := (2 : Int32)) dX4_goOn_4 (by decide) ?_
  refine r_isub dX4_goOn_5 ?_
  obtain ⟨y1, e1, h⟩ := lt_some h
  refine r_top e1 ?_
  refine r_istore_n (lv' := [(1, .int y1), (0, .ref (a0 0))]) dX4_goOn_6 (Nat.le_of_ble_eq_true rfl) rfl ?_
  refine r_sub (lv' := [(0, .ref (a0 0)), (1, .int y1)]) [1, 0] rfl ?_
  exact cOrder_goOn_l7   FU y1 h
end
theorem dX1_sumOf_0 : decode cX1_sumOf 0 = .ok (.iconst 0, 1) := by decide +kernel
theorem dX1_sumOf_1 : decode cX1_sumOf 1 = .ok (.istore_n 2, 1) := by decide +kernel
theorem dX1_sumOf_2 : decode cX1_sumOf 2 = .ok (.iconst 0, 1) := by decide +kernel
theorem dX1_sumOf_3 : decode cX1_sumOf 3 = .ok (.istore_n 3, 1) := by decide +kernel
theorem dX1_sumOf_4 : decode cX1_sumOf 4 = .ok (.iload_n 3, 1) := by decide +kernel
theorem dX1_sumOf_5 : decode cX1_sumOf 5 = .ok (.aload_n 0, 1) := by decide +kernel
theorem dX1_sumOf_6 : decode cX1_sumOf 6 = .ok (.getfield 18, 3) := by decide +kernel
theorem dX1_sumOf_9 : decode cX1_sumOf 9 = .ok (.if_icmp .ge 15, 3) := by decide +kernel
theorem dX1_sumOf_12 : decode cX1_sumOf 12 = .ok (.iload_n 2, 1) := by decide +kernel
theorem dX1_sumOf_13 : decode cX1_sumOf 13 = .ok (.aload_n 1, 1) := by decide +kernel
theorem dX1_sumOf_14 : decode cX1_sumOf 14 = .ok (.iload_n 3, 1) := by decide +kernel
theorem dX1_sumOf_15 : decode cX1_sumOf 15 = .ok (.iaload, 1) := by decide +kernel
theorem dX1_sumOf_16 : decode cX1_sumOf 16 = .ok (.iadd, 1) := by decide +kernel
theorem dX1_sumOf_17 : decode cX1_sumOf 17 = .ok (.istore_n 2, 1) := by decide +kernel
theorem dX1_sumOf_18 : decode cX1_sumOf 18 = .ok (.iinc 3 1, 3) := by decide +kernel
theorem dX1_sumOf_21 : decode cX1_sumOf 21 = .ok (.goto (-17), 3) := by decide +kernel
theorem dX1_sumOf_24 : decode cX1_sumOf 24 = .ok (.iload_n 2, 1) := by decide +kernel
theorem dX1_sumOf_25 : decode cX1_sumOf 25 = .ok (.ireturn, 1) := by decide +kernel
abbrev MFair_sumOf_goods : rx_M := (RX1, yX1_sumOf, cX1_sumOf, 4, (some .int), 1)
theorem kFair_sumOf_goods : rKv MFair_sumOf_goods 1 := ⟨tb_in (i := 6) (j := 1) rfl rfl, tb_in (i := 6) (j := 2) rfl rfl, tb_in (i := 3) (j := 26) rfl rfl, tb_in (i := 4) (j := 18) rfl rfl, ⟨by decide, by decide, by decide +kernel⟩, by decide⟩
section
variable {a0 : Nat → Nat} {z0_lasts : Int32} {z0_keeps : Int32} {z0_stalls : Int32} {z0_buyers : Int32} {z0_minute : Int32} {z0_goods : Nat → Int32} {z0_price : Nat → Int32} {z0_tongue : Nat → Int32} {z0_till : Nat → Int32} {z0_wealth : Nat → Int32} {z0_sold : Nat → Int32} {z0_ring : Nat → Int32} {z0_grudges : Nat → Int32} {z0_purse : Nat → Int32} {z0_came : Nat → Int32} {z0_had : Nat → Int32} {z0_seller : Nat → Int32} {z0_praise : Nat → Int32} {z0_borne : Nat → Int32}
def mFair_sumOf_goods_l4 (z0_stalls : Int32) (z0_goods : Nat → Int32) : Nat → Int32 → Int32 → Option (Int32)
  | 0, _, _ => none
  | n + 1, x2, x3 => (if z0_stalls ≤ x3 then some (x2) else rq (inb x3 6) (lt (x2 + (z0_goods x3.toNatClampNeg)) (fun y3 => mFair_sumOf_goods_l4 z0_stalls z0_goods n y3 (x3 + (1 : Int32)))))
set_option maxHeartbeats 4000000 in
set_option maxRecDepth 20000 in
theorem cFair_sumOf_goods_l4 {q : Int32}   : ∀ (n : Nat) (x2 : Int32) (x3 : Int32), mFair_sumOf_goods_l4 z0_stalls z0_goods n x2 x3 = some q → rW l D Z (ty7 K) MFair_sumOf_goods 4 [(0, .ref (a0 0)), (1, .ref (a0 1)), (2, .int x2), (3, .int x3)] [] (List.flatten [bFair K a0 z0_lasts z0_keeps z0_stalls z0_buyers z0_minute z0_goods z0_price z0_tongue z0_till z0_wealth z0_sold z0_ring z0_grudges z0_purse z0_came z0_had z0_seller z0_praise z0_borne]) (List.flatten [bFair K a0 z0_lasts z0_keeps z0_stalls z0_buyers z0_minute z0_goods z0_price z0_tongue z0_till z0_wealth z0_sold z0_ring z0_grudges z0_purse z0_came z0_had z0_seller z0_praise z0_borne]) (some (.int q)) := by
  intro n
  induction n with
  | zero => intro x2 x3 h; unfold mFair_sumOf_goods_l4 at h; cases h
  | succ n ih =>
    intro x2 x3 h
    unfold mFair_sumOf_goods_l4 at h
    refine r_iload_n 3 dX1_sumOf_4 rfl ?_
    refine r_aload_n 0 dX1_sumOf_5 rfl ?_
    refine gFair_stalls 0 rfl (tb_in (i := 2) (j := 31) rfl rfl) dX1_sumOf_6 ?_
    refine r_icmp_ge 24 dX1_sumOf_9 (by decide) (fun c1 => ?_) (fun c1 => ?_)
    · replace h := it_pos c1 h
      refine r_iload_n 2 dX1_sumOf_24 rfl ?_
      have hq := Option.some.inj h
      subst hq
      exact r_iret rfl dX1_sumOf_25
    · replace h := it_neg c1 h
      refine r_iload_n 2 dX1_sumOf_12 rfl ?_
      refine r_aload_n 1 dX1_sumOf_13 rfl ?_
      refine r_iload_n 3 dX1_sumOf_14 rfl ?_
      obtain ⟨h2, h⟩ := rq_some h
      refine lFair_goods 0 rfl (inb_in h2) dX1_sumOf_15 ?_
      refine r_iadd dX1_sumOf_16 ?_
      obtain ⟨y3, e3, h⟩ := lt_some h
      refine r_top e3 ?_
      refine r_istore_n (lv' := [(2, .int y3), (0, .ref (a0 0)), (1, .ref (a0 1)), (3, .int x3)]) dX1_sumOf_17 (Nat.le_of_ble_eq_true rfl) rfl ?_
      refine r_iinc (y := (x3 + (1 : Int32))) (lv' := [(3, .int (x3 + (1 : Int32))), (2, .int y3), (0, .ref (a0 0)), (1, .ref (a0 1))]) 3 dX1_sumOf_18 rfl rfl (Nat.le_of_ble_eq_true rfl) rfl ?_
      refine r_goto 4 dX1_sumOf_21 (by decide) ?_
      refine r_sub (lv' := [(0, .ref (a0 0)), (1, .ref (a0 1)), (2, .int y3), (3, .int (x3 + (1 : Int32)))]) [2, 3, 1, 0] rfl ?_
      exact ih y3 (x3 + (1 : Int32)) h
def mFair_sumOf_goods (z0_stalls : Int32) (z0_goods : Nat → Int32) : Option (Int32) := mFair_sumOf_goods_l4 z0_stalls z0_goods FU (0 : Int32) (0 : Int32)
set_option maxHeartbeats 4000000 in
set_option maxRecDepth 20000 in
theorem cFair_sumOf_goods {q : Int32}  (h : mFair_sumOf_goods z0_stalls z0_goods = some q) : rMet l D Z (ty7 K) MFair_sumOf_goods [.ref (a0 0), .ref (a0 1)] (List.flatten [bFair K a0 z0_lasts z0_keeps z0_stalls z0_buyers z0_minute z0_goods z0_price z0_tongue z0_till z0_wealth z0_sold z0_ring z0_grudges z0_purse z0_came z0_had z0_seller z0_praise z0_borne]) (List.flatten [bFair K a0 z0_lasts z0_keeps z0_stalls z0_buyers z0_minute z0_goods z0_price z0_tongue z0_till z0_wealth z0_sold z0_ring z0_grudges z0_purse z0_came z0_had z0_seller z0_praise z0_borne]) (some (.int q)) := by
  refine rMet.of (by decide) rfl (Nat.le_of_ble_eq_true rfl) ?_
  refine r_sub (lv' := [(0, .ref (a0 0)), (1, .ref (a0 1))]) [0, 1] rfl ?_
  unfold mFair_sumOf_goods at h
  refine r_iconst (x := (0 : Int32)) dX1_sumOf_0 (by decide) ?_
  refine r_istore_n (lv' := [(2, .int (0 : Int32)), (0, .ref (a0 0)), (1, .ref (a0 1))]) dX1_sumOf_1 (Nat.le_of_ble_eq_true rfl) rfl ?_
  refine r_iconst (x := (0 : Int32)) dX1_sumOf_2 (by decide) ?_
  refine r_istore_n (lv' := [(3, .int (0 : Int32)), (2, .int (0 : Int32)), (0, .ref (a0 0)), (1, .ref (a0 1))]) dX1_sumOf_3 (Nat.le_of_ble_eq_true rfl) rfl ?_
  refine r_sub (lv' := [(0, .ref (a0 0)), (1, .ref (a0 1)), (2, .int (0 : Int32)), (3, .int (0 : Int32))]) [2, 3, 1, 0] rfl ?_
  exact cFair_sumOf_goods_l4   FU (0 : Int32) (0 : Int32) h
end
abbrev MFair_sumOf_till : rx_M := (RX1, yX1_sumOf, cX1_sumOf, 4, (some .int), 1)
theorem kFair_sumOf_till : rKv MFair_sumOf_till 1 := ⟨tb_in (i := 6) (j := 1) rfl rfl, tb_in (i := 6) (j := 2) rfl rfl, tb_in (i := 3) (j := 26) rfl rfl, tb_in (i := 4) (j := 18) rfl rfl, ⟨by decide, by decide, by decide +kernel⟩, by decide⟩
section
variable {a0 : Nat → Nat} {z0_lasts : Int32} {z0_keeps : Int32} {z0_stalls : Int32} {z0_buyers : Int32} {z0_minute : Int32} {z0_goods : Nat → Int32} {z0_price : Nat → Int32} {z0_tongue : Nat → Int32} {z0_till : Nat → Int32} {z0_wealth : Nat → Int32} {z0_sold : Nat → Int32} {z0_ring : Nat → Int32} {z0_grudges : Nat → Int32} {z0_purse : Nat → Int32} {z0_came : Nat → Int32} {z0_had : Nat → Int32} {z0_seller : Nat → Int32} {z0_praise : Nat → Int32} {z0_borne : Nat → Int32}
def mFair_sumOf_till_l4 (z0_stalls : Int32) (z0_till : Nat → Int32) : Nat → Int32 → Int32 → Option (Int32)
  | 0, _, _ => none
  | n + 1, x2, x3 => (if z0_stalls ≤ x3 then some (x2) else rq (inb x3 6) (lt (x2 + (z0_till x3.toNatClampNeg)) (fun y3 => mFair_sumOf_till_l4 z0_stalls z0_till n y3 (x3 + (1 : Int32)))))
set_option maxHeartbeats 4000000 in
set_option maxRecDepth 20000 in
theorem cFair_sumOf_till_l4 {q : Int32}   : ∀ (n : Nat) (x2 : Int32) (x3 : Int32), mFair_sumOf_till_l4 z0_stalls z0_till n x2 x3 = some q → rW l D Z (ty7 K) MFair_sumOf_till 4 [(0, .ref (a0 0)), (1, .ref (a0 4)), (2, .int x2), (3, .int x3)] [] (List.flatten [bFair K a0 z0_lasts z0_keeps z0_stalls z0_buyers z0_minute z0_goods z0_price z0_tongue z0_till z0_wealth z0_sold z0_ring z0_grudges z0_purse z0_came z0_had z0_seller z0_praise z0_borne]) (List.flatten [bFair K a0 z0_lasts z0_keeps z0_stalls z0_buyers z0_minute z0_goods z0_price z0_tongue z0_till z0_wealth z0_sold z0_ring z0_grudges z0_purse z0_came z0_had z0_seller z0_praise z0_borne]) (some (.int q)) := by
  intro n
  induction n with
  | zero => intro x2 x3 h; unfold mFair_sumOf_till_l4 at h; cases h
  | succ n ih =>
    intro x2 x3 h
    unfold mFair_sumOf_till_l4 at h
    refine r_iload_n 3 dX1_sumOf_4 rfl ?_
    refine r_aload_n 0 dX1_sumOf_5 rfl ?_
    refine gFair_stalls 0 rfl (tb_in (i := 2) (j := 31) rfl rfl) dX1_sumOf_6 ?_
    refine r_icmp_ge 24 dX1_sumOf_9 (by decide) (fun c1 => ?_) (fun c1 => ?_)
    · replace h := it_pos c1 h
      refine r_iload_n 2 dX1_sumOf_24 rfl ?_
      have hq := Option.some.inj h
      subst hq
      exact r_iret rfl dX1_sumOf_25
    · replace h := it_neg c1 h
      refine r_iload_n 2 dX1_sumOf_12 rfl ?_
      refine r_aload_n 1 dX1_sumOf_13 rfl ?_
      refine r_iload_n 3 dX1_sumOf_14 rfl ?_
      obtain ⟨h2, h⟩ := rq_some h
      refine lFair_till 0 rfl (inb_in h2) dX1_sumOf_15 ?_
      refine r_iadd dX1_sumOf_16 ?_
      obtain ⟨y3, e3, h⟩ := lt_some h
      refine r_top e3 ?_
      refine r_istore_n (lv' := [(2, .int y3), (0, .ref (a0 0)), (1, .ref (a0 4)), (3, .int x3)]) dX1_sumOf_17 (Nat.le_of_ble_eq_true rfl) rfl ?_
      refine r_iinc (y := (x3 + (1 : Int32))) (lv' := [(3, .int (x3 + (1 : Int32))), (2, .int y3), (0, .ref (a0 0)), (1, .ref (a0 4))]) 3 dX1_sumOf_18 rfl rfl (Nat.le_of_ble_eq_true rfl) rfl ?_
      refine r_goto 4 dX1_sumOf_21 (by decide) ?_
      refine r_sub (lv' := [(0, .ref (a0 0)), (1, .ref (a0 4)), (2, .int y3), (3, .int (x3 + (1 : Int32)))]) [2, 3, 1, 0] rfl ?_
      exact ih y3 (x3 + (1 : Int32)) h
def mFair_sumOf_till (z0_stalls : Int32) (z0_till : Nat → Int32) : Option (Int32) := mFair_sumOf_till_l4 z0_stalls z0_till FU (0 : Int32) (0 : Int32)
set_option maxHeartbeats 4000000 in
set_option maxRecDepth 20000 in
theorem cFair_sumOf_till {q : Int32}  (h : mFair_sumOf_till z0_stalls z0_till = some q) : rMet l D Z (ty7 K) MFair_sumOf_till [.ref (a0 0), .ref (a0 4)] (List.flatten [bFair K a0 z0_lasts z0_keeps z0_stalls z0_buyers z0_minute z0_goods z0_price z0_tongue z0_till z0_wealth z0_sold z0_ring z0_grudges z0_purse z0_came z0_had z0_seller z0_praise z0_borne]) (List.flatten [bFair K a0 z0_lasts z0_keeps z0_stalls z0_buyers z0_minute z0_goods z0_price z0_tongue z0_till z0_wealth z0_sold z0_ring z0_grudges z0_purse z0_came z0_had z0_seller z0_praise z0_borne]) (some (.int q)) := by
  refine rMet.of (by decide) rfl (Nat.le_of_ble_eq_true rfl) ?_
  refine r_sub (lv' := [(0, .ref (a0 0)), (1, .ref (a0 4))]) [0, 1] rfl ?_
  unfold mFair_sumOf_till at h
  refine r_iconst (x := (0 : Int32)) dX1_sumOf_0 (by decide) ?_
  refine r_istore_n (lv' := [(2, .int (0 : Int32)), (0, .ref (a0 0)), (1, .ref (a0 4))]) dX1_sumOf_1 (Nat.le_of_ble_eq_true rfl) rfl ?_
  refine r_iconst (x := (0 : Int32)) dX1_sumOf_2 (by decide) ?_
  refine r_istore_n (lv' := [(3, .int (0 : Int32)), (2, .int (0 : Int32)), (0, .ref (a0 0)), (1, .ref (a0 4))]) dX1_sumOf_3 (Nat.le_of_ble_eq_true rfl) rfl ?_
  refine r_sub (lv' := [(0, .ref (a0 0)), (1, .ref (a0 4)), (2, .int (0 : Int32)), (3, .int (0 : Int32))]) [2, 3, 1, 0] rfl ?_
  exact cFair_sumOf_till_l4   FU (0 : Int32) (0 : Int32) h
end
abbrev MFair_sumOf_wealth : rx_M := (RX1, yX1_sumOf, cX1_sumOf, 4, (some .int), 1)
theorem kFair_sumOf_wealth : rKv MFair_sumOf_wealth 1 := ⟨tb_in (i := 6) (j := 1) rfl rfl, tb_in (i := 6) (j := 2) rfl rfl, tb_in (i := 3) (j := 26) rfl rfl, tb_in (i := 4) (j := 18) rfl rfl, ⟨by decide, by decide, by decide +kernel⟩, by decide⟩
section
variable {a0 : Nat → Nat} {z0_lasts : Int32} {z0_keeps : Int32} {z0_stalls : Int32} {z0_buyers : Int32} {z0_minute : Int32} {z0_goods : Nat → Int32} {z0_price : Nat → Int32} {z0_tongue : Nat → Int32} {z0_till : Nat → Int32} {z0_wealth : Nat → Int32} {z0_sold : Nat → Int32} {z0_ring : Nat → Int32} {z0_grudges : Nat → Int32} {z0_purse : Nat → Int32} {z0_came : Nat → Int32} {z0_had : Nat → Int32} {z0_seller : Nat → Int32} {z0_praise : Nat → Int32} {z0_borne : Nat → Int32}
def mFair_sumOf_wealth_l4 (z0_stalls : Int32) (z0_wealth : Nat → Int32) : Nat → Int32 → Int32 → Option (Int32)
  | 0, _, _ => none
  | n + 1, x2, x3 => (if z0_stalls ≤ x3 then some (x2) else rq (inb x3 6) (lt (x2 + (z0_wealth x3.toNatClampNeg)) (fun y3 => mFair_sumOf_wealth_l4 z0_stalls z0_wealth n y3 (x3 + (1 : Int32)))))
set_option maxHeartbeats 4000000 in
set_option maxRecDepth 20000 in
theorem cFair_sumOf_wealth_l4 {q : Int32}   : ∀ (n : Nat) (x2 : Int32) (x3 : Int32), mFair_sumOf_wealth_l4 z0_stalls z0_wealth n x2 x3 = some q → rW l D Z (ty7 K) MFair_sumOf_wealth 4 [(0, .ref (a0 0)), (1, .ref (a0 5)), (2, .int x2), (3, .int x3)] [] (List.flatten [bFair K a0 z0_lasts z0_keeps z0_stalls z0_buyers z0_minute z0_goods z0_price z0_tongue z0_till z0_wealth z0_sold z0_ring z0_grudges z0_purse z0_came z0_had z0_seller z0_praise z0_borne]) (List.flatten [bFair K a0 z0_lasts z0_keeps z0_stalls z0_buyers z0_minute z0_goods z0_price z0_tongue z0_till z0_wealth z0_sold z0_ring z0_grudges z0_purse z0_came z0_had z0_seller z0_praise z0_borne]) (some (.int q)) := by
  intro n
  induction n with
  | zero => intro x2 x3 h; unfold mFair_sumOf_wealth_l4 at h; cases h
  | succ n ih =>
    intro x2 x3 h
    unfold mFair_sumOf_wealth_l4 at h
    refine r_iload_n 3 dX1_sumOf_4 rfl ?_
    refine r_aload_n 0 dX1_sumOf_5 rfl ?_
    refine gFair_stalls 0 rfl (tb_in (i := 2) (j := 31) rfl rfl) dX1_sumOf_6 ?_
    refine r_icmp_ge 24 dX1_sumOf_9 (by decide) (fun c1 => ?_) (fun c1 => ?_)
    · replace h := it_pos c1 h
      refine r_iload_n 2 dX1_sumOf_24 rfl ?_
      have hq := Option.some.inj h
      subst hq
      exact r_iret rfl dX1_sumOf_25
    · replace h := it_neg c1 h
      refine r_iload_n 2 dX1_sumOf_12 rfl ?_
      refine r_aload_n 1 dX1_sumOf_13 rfl ?_
      refine r_iload_n 3 dX1_sumOf_14 rfl ?_
      obtain ⟨h2, h⟩ := rq_some h
      refine lFair_wealth 0 rfl (inb_in h2) dX1_sumOf_15 ?_
      refine r_iadd dX1_sumOf_16 ?_
      obtain ⟨y3, e3, h⟩ := lt_some h
      refine r_top e3 ?_
      refine r_istore_n (lv' := [(2, .int y3), (0, .ref (a0 0)), (1, .ref (a0 5)), (3, .int x3)]) dX1_sumOf_17 (Nat.le_of_ble_eq_true rfl) rfl ?_
      refine r_iinc (y := (x3 + (1 : Int32))) (lv' := [(3, .int (x3 + (1 : Int32))), (2, .int y3), (0, .ref (a0 0)), (1, .ref (a0 5))]) 3 dX1_sumOf_18 rfl rfl (Nat.le_of_ble_eq_true rfl) rfl ?_
      refine r_goto 4 dX1_sumOf_21 (by decide) ?_
      refine r_sub (lv' := [(0, .ref (a0 0)), (1, .ref (a0 5)), (2, .int y3), (3, .int (x3 + (1 : Int32)))]) [2, 3, 1, 0] rfl ?_
      exact ih y3 (x3 + (1 : Int32)) h
def mFair_sumOf_wealth (z0_stalls : Int32) (z0_wealth : Nat → Int32) : Option (Int32) := mFair_sumOf_wealth_l4 z0_stalls z0_wealth FU (0 : Int32) (0 : Int32)
set_option maxHeartbeats 4000000 in
set_option maxRecDepth 20000 in
theorem cFair_sumOf_wealth {q : Int32}  (h : mFair_sumOf_wealth z0_stalls z0_wealth = some q) : rMet l D Z (ty7 K) MFair_sumOf_wealth [.ref (a0 0), .ref (a0 5)] (List.flatten [bFair K a0 z0_lasts z0_keeps z0_stalls z0_buyers z0_minute z0_goods z0_price z0_tongue z0_till z0_wealth z0_sold z0_ring z0_grudges z0_purse z0_came z0_had z0_seller z0_praise z0_borne]) (List.flatten [bFair K a0 z0_lasts z0_keeps z0_stalls z0_buyers z0_minute z0_goods z0_price z0_tongue z0_till z0_wealth z0_sold z0_ring z0_grudges z0_purse z0_came z0_had z0_seller z0_praise z0_borne]) (some (.int q)) := by
  refine rMet.of (by decide) rfl (Nat.le_of_ble_eq_true rfl) ?_
  refine r_sub (lv' := [(0, .ref (a0 0)), (1, .ref (a0 5))]) [0, 1] rfl ?_
  unfold mFair_sumOf_wealth at h
  refine r_iconst (x := (0 : Int32)) dX1_sumOf_0 (by decide) ?_
  refine r_istore_n (lv' := [(2, .int (0 : Int32)), (0, .ref (a0 0)), (1, .ref (a0 5))]) dX1_sumOf_1 (Nat.le_of_ble_eq_true rfl) rfl ?_
  refine r_iconst (x := (0 : Int32)) dX1_sumOf_2 (by decide) ?_
  refine r_istore_n (lv' := [(3, .int (0 : Int32)), (2, .int (0 : Int32)), (0, .ref (a0 0)), (1, .ref (a0 5))]) dX1_sumOf_3 (Nat.le_of_ble_eq_true rfl) rfl ?_
  refine r_sub (lv' := [(0, .ref (a0 0)), (1, .ref (a0 5)), (2, .int (0 : Int32)), (3, .int (0 : Int32))]) [2, 3, 1, 0] rfl ?_
  exact cFair_sumOf_wealth_l4   FU (0 : Int32) (0 : Int32) h
end
abbrev MFair_sumOf_borne : rx_M := (RX1, yX1_sumOf, cX1_sumOf, 4, (some .int), 1)
theorem kFair_sumOf_borne : rKv MFair_sumOf_borne 1 := ⟨tb_in (i := 6) (j := 1) rfl rfl, tb_in (i := 6) (j := 2) rfl rfl, tb_in (i := 3) (j := 26) rfl rfl, tb_in (i := 4) (j := 18) rfl rfl, ⟨by decide, by decide, by decide +kernel⟩, by decide⟩
section
variable {a0 : Nat → Nat} {z0_lasts : Int32} {z0_keeps : Int32} {z0_stalls : Int32} {z0_buyers : Int32} {z0_minute : Int32} {z0_goods : Nat → Int32} {z0_price : Nat → Int32} {z0_tongue : Nat → Int32} {z0_till : Nat → Int32} {z0_wealth : Nat → Int32} {z0_sold : Nat → Int32} {z0_ring : Nat → Int32} {z0_grudges : Nat → Int32} {z0_purse : Nat → Int32} {z0_came : Nat → Int32} {z0_had : Nat → Int32} {z0_seller : Nat → Int32} {z0_praise : Nat → Int32} {z0_borne : Nat → Int32}
def mFair_sumOf_borne_l4 (z0_stalls : Int32) (z0_borne : Nat → Int32) : Nat → Int32 → Int32 → Option (Int32)
  | 0, _, _ => none
  | n + 1, x2, x3 => (if z0_stalls ≤ x3 then some (x2) else rq (inb x3 6) (lt (x2 + (z0_borne x3.toNatClampNeg)) (fun y3 => mFair_sumOf_borne_l4 z0_stalls z0_borne n y3 (x3 + (1 : Int32)))))
set_option maxHeartbeats 4000000 in
set_option maxRecDepth 20000 in
theorem cFair_sumOf_borne_l4 {q : Int32}   : ∀ (n : Nat) (x2 : Int32) (x3 : Int32), mFair_sumOf_borne_l4 z0_stalls z0_borne n x2 x3 = some q → rW l D Z (ty7 K) MFair_sumOf_borne 4 [(0, .ref (a0 0)), (1, .ref (a0 14)), (2, .int x2), (3, .int x3)] [] (List.flatten [bFair K a0 z0_lasts z0_keeps z0_stalls z0_buyers z0_minute z0_goods z0_price z0_tongue z0_till z0_wealth z0_sold z0_ring z0_grudges z0_purse z0_came z0_had z0_seller z0_praise z0_borne]) (List.flatten [bFair K a0 z0_lasts z0_keeps z0_stalls z0_buyers z0_minute z0_goods z0_price z0_tongue z0_till z0_wealth z0_sold z0_ring z0_grudges z0_purse z0_came z0_had z0_seller z0_praise z0_borne]) (some (.int q)) := by
  intro n
  induction n with
  | zero => intro x2 x3 h; unfold mFair_sumOf_borne_l4 at h; cases h
  | succ n ih =>
    intro x2 x3 h
    unfold mFair_sumOf_borne_l4 at h
    refine r_iload_n 3 dX1_sumOf_4 rfl ?_
    refine r_aload_n 0 dX1_sumOf_5 rfl ?_
    refine gFair_stalls 0 rfl (tb_in (i := 2) (j := 31) rfl rfl) dX1_sumOf_6 ?_
    refine r_icmp_ge 24 dX1_sumOf_9 (by decide) (fun c1 => ?_) (fun c1 => ?_)
    · replace h := it_pos c1 h
      refine r_iload_n 2 dX1_sumOf_24 rfl ?_
      have hq := Option.some.inj h
      subst hq
      exact r_iret rfl dX1_sumOf_25
    · replace h := it_neg c1 h
      refine r_iload_n 2 dX1_sumOf_12 rfl ?_
      refine r_aload_n 1 dX1_sumOf_13 rfl ?_
      refine r_iload_n 3 dX1_sumOf_14 rfl ?_
      obtain ⟨h2, h⟩ := rq_some h
      refine lFair_borne 0 rfl (inb_in h2) dX1_sumOf_15 ?_
      refine r_iadd dX1_sumOf_16 ?_
      obtain ⟨y3, e3, h⟩ := lt_some h
      refine r_top e3 ?_
      refine r_istore_n (lv' := [(2, .int y3), (0, .ref (a0 0)), (1, .ref (a0 14)), (3, .int x3)]) dX1_sumOf_17 (Nat.le_of_ble_eq_true rfl) rfl ?_
      refine r_iinc (y := (x3 + (1 : Int32))) (lv' := [(3, .int (x3 + (1 : Int32))), (2, .int y3), (0, .ref (a0 0)), (1, .ref (a0 14))]) 3 dX1_sumOf_18 rfl rfl (Nat.le_of_ble_eq_true rfl) rfl ?_
      refine r_goto 4 dX1_sumOf_21 (by decide) ?_
      refine r_sub (lv' := [(0, .ref (a0 0)), (1, .ref (a0 14)), (2, .int y3), (3, .int (x3 + (1 : Int32)))]) [2, 3, 1, 0] rfl ?_
      exact ih y3 (x3 + (1 : Int32)) h
def mFair_sumOf_borne (z0_stalls : Int32) (z0_borne : Nat → Int32) : Option (Int32) := mFair_sumOf_borne_l4 z0_stalls z0_borne FU (0 : Int32) (0 : Int32)
set_option maxHeartbeats 4000000 in
set_option maxRecDepth 20000 in
theorem cFair_sumOf_borne {q : Int32}  (h : mFair_sumOf_borne z0_stalls z0_borne = some q) : rMet l D Z (ty7 K) MFair_sumOf_borne [.ref (a0 0), .ref (a0 14)] (List.flatten [bFair K a0 z0_lasts z0_keeps z0_stalls z0_buyers z0_minute z0_goods z0_price z0_tongue z0_till z0_wealth z0_sold z0_ring z0_grudges z0_purse z0_came z0_had z0_seller z0_praise z0_borne]) (List.flatten [bFair K a0 z0_lasts z0_keeps z0_stalls z0_buyers z0_minute z0_goods z0_price z0_tongue z0_till z0_wealth z0_sold z0_ring z0_grudges z0_purse z0_came z0_had z0_seller z0_praise z0_borne]) (some (.int q)) := by
  refine rMet.of (by decide) rfl (Nat.le_of_ble_eq_true rfl) ?_
  refine r_sub (lv' := [(0, .ref (a0 0)), (1, .ref (a0 14))]) [0, 1] rfl ?_
  unfold mFair_sumOf_borne at h
  refine r_iconst (x := (0 : Int32)) dX1_sumOf_0 (by decide) ?_
  refine r_istore_n (lv' := [(2, .int (0 : Int32)), (0, .ref (a0 0)), (1, .ref (a0 14))]) dX1_sumOf_1 (Nat.le_of_ble_eq_true rfl) rfl ?_
  refine r_iconst (x := (0 : Int32)) dX1_sumOf_2 (by decide) ?_
  refine r_istore_n (lv' := [(3, .int (0 : Int32)), (2, .int (0 : Int32)), (0, .ref (a0 0)), (1, .ref (a0 14))]) dX1_sumOf_3 (Nat.le_of_ble_eq_true rfl) rfl ?_
  refine r_sub (lv' := [(0, .ref (a0 0)), (1, .ref (a0 14)), (2, .int (0 : Int32)), (3, .int (0 : Int32))]) [2, 3, 1, 0] rfl ?_
  exact cFair_sumOf_borne_l4   FU (0 : Int32) (0 : Int32) h
end
theorem dX1_copyRow_0 : decode cX1_copyRow 0 = .ok (.aload_n 0, 1) := by decide +kernel
theorem dX1_copyRow_1 : decode cX1_copyRow 1 = .ok (.iconst 0, 1) := by decide +kernel
theorem dX1_copyRow_2 : decode cX1_copyRow 2 = .ok (.aload_n 1, 1) := by decide +kernel
theorem dX1_copyRow_3 : decode cX1_copyRow 3 = .ok (.iconst 0, 1) := by decide +kernel
theorem dX1_copyRow_4 : decode cX1_copyRow 4 = .ok (.aload_n 0, 1) := by decide +kernel
theorem dX1_copyRow_5 : decode cX1_copyRow 5 = .ok (.arraylength, 1) := by decide +kernel
theorem dX1_copyRow_6 : decode cX1_copyRow 6 = .ok (.aload_n 1, 1) := by decide +kernel
theorem dX1_copyRow_7 : decode cX1_copyRow 7 = .ok (.arraylength, 1) := by decide +kernel
theorem dX1_copyRow_8 : decode cX1_copyRow 8 = .ok (.invokestatic 74, 3) := by decide +kernel
theorem dX1_copyRow_11 : decode cX1_copyRow 11 = .ok (.invokestatic 80, 3) := by decide +kernel
theorem dX1_copyRow_14 : decode cX1_copyRow 14 = .ok (.return_, 1) := by decide +kernel
abbrev MFair_copyRow_goods_goods : rx_M := (RX1, yX1_copyRow, cX1_copyRow, 2, none, 3)
theorem kFair_copyRow_goods_goods : rKs MFair_copyRow_goods_goods 2 := ⟨tb_in (i := 3) (j := 25) rfl rfl, tb_in (i := 3) (j := 26) rfl rfl, tb_in (i := 3) (j := 18) rfl rfl, ⟨by decide, by decide, by decide +kernel⟩, by decide⟩
section
variable {a0 : Nat → Nat} {a1 : Nat → Nat} {z0_lasts : Int32} {z0_keeps : Int32} {z0_stalls : Int32} {z0_buyers : Int32} {z0_minute : Int32} {z0_goods : Nat → Int32} {z0_price : Nat → Int32} {z0_tongue : Nat → Int32} {z0_till : Nat → Int32} {z0_wealth : Nat → Int32} {z0_sold : Nat → Int32} {z0_ring : Nat → Int32} {z0_grudges : Nat → Int32} {z0_purse : Nat → Int32} {z0_came : Nat → Int32} {z0_had : Nat → Int32} {z0_seller : Nat → Int32} {z0_praise : Nat → Int32} {z0_borne : Nat → Int32} {z1_lasts : Int32} {z1_keeps : Int32} {z1_stalls : Int32} {z1_buyers : Int32} {z1_minute : Int32} {z1_goods : Nat → Int32} {z1_price : Nat → Int32} {z1_tongue : Nat → Int32} {z1_till : Nat → Int32} {z1_wealth : Nat → Int32} {z1_sold : Nat → Int32} {z1_ring : Nat → Int32} {z1_grudges : Nat → Int32} {z1_purse : Nat → Int32} {z1_came : Nat → Int32} {z1_had : Nat → Int32} {z1_seller : Nat → Int32} {z1_praise : Nat → Int32} {z1_borne : Nat → Int32}
def mFair_copyRow_goods_goods (z0_goods : Nat → Int32) (z1_goods : Nat → Int32) : Option ((Nat → Int32)) := rq (cpin (0 : Int32) (0 : Int32) (if (6 : Int32) < (6 : Int32) then (6 : Int32) else (6 : Int32)) 6 6) (lt (va_cpy z0_goods z1_goods (0 : Int32).toNatClampNeg (0 : Int32).toNatClampNeg (if (6 : Int32) < (6 : Int32) then (6 : Int32) else (6 : Int32)).toNatClampNeg) (fun u1 => some (u1)))
set_option maxHeartbeats 4000000 in
set_option maxRecDepth 20000 in
theorem cFair_copyRow_goods_goods {q : (Nat → Int32)}  (h : mFair_copyRow_goods_goods z0_goods z1_goods = some q) : rMet l D Z (ty7 K) MFair_copyRow_goods_goods [.ref (a0 1), .ref (a1 1)] (List.flatten [bFair K a0 z0_lasts z0_keeps z0_stalls z0_buyers z0_minute z0_goods z0_price z0_tongue z0_till z0_wealth z0_sold z0_ring z0_grudges z0_purse z0_came z0_had z0_seller z0_praise z0_borne, bFair K a1 z1_lasts z1_keeps z1_stalls z1_buyers z1_minute z1_goods z1_price z1_tongue z1_till z1_wealth z1_sold z1_ring z1_grudges z1_purse z1_came z1_had z1_seller z1_praise z1_borne]) (List.flatten [bFair K a0 z0_lasts z0_keeps z0_stalls z0_buyers z0_minute z0_goods z0_price z0_tongue z0_till z0_wealth z0_sold z0_ring z0_grudges z0_purse z0_came z0_had z0_seller z0_praise z0_borne, bFair K a1 z1_lasts z1_keeps z1_stalls z1_buyers z1_minute q z1_price z1_tongue z1_till z1_wealth z1_sold z1_ring z1_grudges z1_purse z1_came z1_had z1_seller z1_praise z1_borne]) none := by
  refine rMet.of (by decide) rfl (Nat.le_of_ble_eq_true rfl) ?_
  refine r_sub (lv' := [(0, .ref (a0 1)), (1, .ref (a1 1))]) [0, 1] rfl ?_
  unfold mFair_copyRow_goods_goods at h
  refine r_aload_n 0 dX1_copyRow_0 rfl ?_
  refine r_iconst (x := (0 : Int32)) dX1_copyRow_1 (by decide) ?_
  refine r_aload_n 1 dX1_copyRow_2 rfl ?_
  refine r_iconst (x := (0 : Int32)) dX1_copyRow_3 (by decide) ?_
  refine r_aload_n 0 dX1_copyRow_4 rfl ?_
  refine b_alen (n := (6 : Int32)) 0 1 1 rfl rfl rfl rfl dX1_copyRow_5 ?_
  refine r_aload_n 1 dX1_copyRow_6 rfl ?_
  refine b_alen (n := (6 : Int32)) 1 1 1 rfl rfl rfl rfl dX1_copyRow_7 ?_
  refine r_mmin (tb_in (i := 3) (j := 19) rfl rfl) (tb_in (i := 3) (j := 20) rfl rfl) (tb_in (i := 3) (j := 21) rfl rfl) (tb_in (i := 3) (j := 22) rfl rfl) (by decide) (Nat.le_of_ble_eq_true rfl) dX1_copyRow_8 ?_
  obtain ⟨h1, h⟩ := rq_some h
  obtain ⟨u1, e1, h⟩ := lt_some h
  refine b_copy (bs1 := [bFair K a0 z0_lasts z0_keeps z0_stalls z0_buyers z0_minute z0_goods z0_price z0_tongue z0_till z0_wealth z0_sold z0_ring z0_grudges z0_purse z0_came z0_had z0_seller z0_praise z0_borne, bFair K a1 z1_lasts z1_keeps z1_stalls z1_buyers z1_minute u1 z1_price z1_tongue z1_till z1_wealth z1_sold z1_ring z1_grudges z1_purse z1_came z1_had z1_seller z1_praise z1_borne]) (ty := .int) 0 1 1 1 1 e1 h1 (fun _ _ => rfl) rfl rfl rfl rfl rfl rfl rfl (tb_in (i := 3) (j := 23) rfl rfl) (tb_in (i := 0) (j := 11) rfl rfl) (tb_in (i := 0) (j := 12) rfl rfl) (tb_in (i := 0) (j := 13) rfl rfl) (by decide) (Nat.le_of_ble_eq_true rfl) dX1_copyRow_11 ?_
  have hq := Option.some.inj h
  subst hq
  exact r_vret rfl dX1_copyRow_14
end
abbrev MFair_copyRow_price_price : rx_M := (RX1, yX1_copyRow, cX1_copyRow, 2, none, 3)
theorem kFair_copyRow_price_price : rKs MFair_copyRow_price_price 2 := ⟨tb_in (i := 3) (j := 25) rfl rfl, tb_in (i := 3) (j := 26) rfl rfl, tb_in (i := 3) (j := 18) rfl rfl, ⟨by decide, by decide, by decide +kernel⟩, by decide⟩
section
variable {a0 : Nat → Nat} {a1 : Nat → Nat} {z0_lasts : Int32} {z0_keeps : Int32} {z0_stalls : Int32} {z0_buyers : Int32} {z0_minute : Int32} {z0_goods : Nat → Int32} {z0_price : Nat → Int32} {z0_tongue : Nat → Int32} {z0_till : Nat → Int32} {z0_wealth : Nat → Int32} {z0_sold : Nat → Int32} {z0_ring : Nat → Int32} {z0_grudges : Nat → Int32} {z0_purse : Nat → Int32} {z0_came : Nat → Int32} {z0_had : Nat → Int32} {z0_seller : Nat → Int32} {z0_praise : Nat → Int32} {z0_borne : Nat → Int32} {z1_lasts : Int32} {z1_keeps : Int32} {z1_stalls : Int32} {z1_buyers : Int32} {z1_minute : Int32} {z1_goods : Nat → Int32} {z1_price : Nat → Int32} {z1_tongue : Nat → Int32} {z1_till : Nat → Int32} {z1_wealth : Nat → Int32} {z1_sold : Nat → Int32} {z1_ring : Nat → Int32} {z1_grudges : Nat → Int32} {z1_purse : Nat → Int32} {z1_came : Nat → Int32} {z1_had : Nat → Int32} {z1_seller : Nat → Int32} {z1_praise : Nat → Int32} {z1_borne : Nat → Int32}
def mFair_copyRow_price_price (z0_price : Nat → Int32) (z1_price : Nat → Int32) : Option ((Nat → Int32)) := rq (cpin (0 : Int32) (0 : Int32) (if (6 : Int32) < (6 : Int32) then (6 : Int32) else (6 : Int32)) 6 6) (lt (va_cpy z0_price z1_price (0 : Int32).toNatClampNeg (0 : Int32).toNatClampNeg (if (6 : Int32) < (6 : Int32) then (6 : Int32) else (6 : Int32)).toNatClampNeg) (fun u1 => some (u1)))
set_option maxHeartbeats 4000000 in
set_option maxRecDepth 20000 in
theorem cFair_copyRow_price_price {q : (Nat → Int32)}  (h : mFair_copyRow_price_price z0_price z1_price = some q) : rMet l D Z (ty7 K) MFair_copyRow_price_price [.ref (a0 2), .ref (a1 2)] (List.flatten [bFair K a0 z0_lasts z0_keeps z0_stalls z0_buyers z0_minute z0_goods z0_price z0_tongue z0_till z0_wealth z0_sold z0_ring z0_grudges z0_purse z0_came z0_had z0_seller z0_praise z0_borne, bFair K a1 z1_lasts z1_keeps z1_stalls z1_buyers z1_minute z1_goods z1_price z1_tongue z1_till z1_wealth z1_sold z1_ring z1_grudges z1_purse z1_came z1_had z1_seller z1_praise z1_borne]) (List.flatten [bFair K a0 z0_lasts z0_keeps z0_stalls z0_buyers z0_minute z0_goods z0_price z0_tongue z0_till z0_wealth z0_sold z0_ring z0_grudges z0_purse z0_came z0_had z0_seller z0_praise z0_borne, bFair K a1 z1_lasts z1_keeps z1_stalls z1_buyers z1_minute z1_goods q z1_tongue z1_till z1_wealth z1_sold z1_ring z1_grudges z1_purse z1_came z1_had z1_seller z1_praise z1_borne]) none := by
  refine rMet.of (by decide) rfl (Nat.le_of_ble_eq_true rfl) ?_
  refine r_sub (lv' := [(0, .ref (a0 2)), (1, .ref (a1 2))]) [0, 1] rfl ?_
  unfold mFair_copyRow_price_price at h
  refine r_aload_n 0 dX1_copyRow_0 rfl ?_
  refine r_iconst (x := (0 : Int32)) dX1_copyRow_1 (by decide) ?_
  refine r_aload_n 1 dX1_copyRow_2 rfl ?_
  refine r_iconst (x := (0 : Int32)) dX1_copyRow_3 (by decide) ?_
  refine r_aload_n 0 dX1_copyRow_4 rfl ?_
  refine b_alen (n := (6 : Int32)) 0 2 1 rfl rfl rfl rfl dX1_copyRow_5 ?_
  refine r_aload_n 1 dX1_copyRow_6 rfl ?_
  refine b_alen (n := (6 : Int32)) 1 2 1 rfl rfl rfl rfl dX1_copyRow_7 ?_
  refine r_mmin (tb_in (i := 3) (j := 19) rfl rfl) (tb_in (i := 3) (j := 20) rfl rfl) (tb_in (i := 3) (j := 21) rfl rfl) (tb_in (i := 3) (j := 22) rfl rfl) (by decide) (Nat.le_of_ble_eq_true rfl) dX1_copyRow_8 ?_
  obtain ⟨h1, h⟩ := rq_some h
  obtain ⟨u1, e1, h⟩ := lt_some h
  refine b_copy (bs1 := [bFair K a0 z0_lasts z0_keeps z0_stalls z0_buyers z0_minute z0_goods z0_price z0_tongue z0_till z0_wealth z0_sold z0_ring z0_grudges z0_purse z0_came z0_had z0_seller z0_praise z0_borne, bFair K a1 z1_lasts z1_keeps z1_stalls z1_buyers z1_minute z1_goods u1 z1_tongue z1_till z1_wealth z1_sold z1_ring z1_grudges z1_purse z1_came z1_had z1_seller z1_praise z1_borne]) (ty := .int) 0 2 1 2 1 e1 h1 (fun _ _ => rfl) rfl rfl rfl rfl rfl rfl rfl (tb_in (i := 3) (j := 23) rfl rfl) (tb_in (i := 0) (j := 11) rfl rfl) (tb_in (i := 0) (j := 12) rfl rfl) (tb_in (i := 0) (j := 13) rfl rfl) (by decide) (Nat.le_of_ble_eq_true rfl) dX1_copyRow_11 ?_
  have hq := Option.some.inj h
  subst hq
  exact r_vret rfl dX1_copyRow_14
end
abbrev MFair_copyRow_tongue_tongue : rx_M := (RX1, yX1_copyRow, cX1_copyRow, 2, none, 3)
theorem kFair_copyRow_tongue_tongue : rKs MFair_copyRow_tongue_tongue 2 := ⟨tb_in (i := 3) (j := 25) rfl rfl, tb_in (i := 3) (j := 26) rfl rfl, tb_in (i := 3) (j := 18) rfl rfl, ⟨by decide, by decide, by decide +kernel⟩, by decide⟩
section
variable {a0 : Nat → Nat} {a1 : Nat → Nat} {z0_lasts : Int32} {z0_keeps : Int32} {z0_stalls : Int32} {z0_buyers : Int32} {z0_minute : Int32} {z0_goods : Nat → Int32} {z0_price : Nat → Int32} {z0_tongue : Nat → Int32} {z0_till : Nat → Int32} {z0_wealth : Nat → Int32} {z0_sold : Nat → Int32} {z0_ring : Nat → Int32} {z0_grudges : Nat → Int32} {z0_purse : Nat → Int32} {z0_came : Nat → Int32} {z0_had : Nat → Int32} {z0_seller : Nat → Int32} {z0_praise : Nat → Int32} {z0_borne : Nat → Int32} {z1_lasts : Int32} {z1_keeps : Int32} {z1_stalls : Int32} {z1_buyers : Int32} {z1_minute : Int32} {z1_goods : Nat → Int32} {z1_price : Nat → Int32} {z1_tongue : Nat → Int32} {z1_till : Nat → Int32} {z1_wealth : Nat → Int32} {z1_sold : Nat → Int32} {z1_ring : Nat → Int32} {z1_grudges : Nat → Int32} {z1_purse : Nat → Int32} {z1_came : Nat → Int32} {z1_had : Nat → Int32} {z1_seller : Nat → Int32} {z1_praise : Nat → Int32} {z1_borne : Nat → Int32}
def mFair_copyRow_tongue_tongue (z0_tongue : Nat → Int32) (z1_tongue : Nat → Int32) : Option ((Nat → Int32)) := rq (cpin (0 : Int32) (0 : Int32) (if (6 : Int32) < (6 : Int32) then (6 : Int32) else (6 : Int32)) 6 6) (lt (va_cpy z0_tongue z1_tongue (0 : Int32).toNatClampNeg (0 : Int32).toNatClampNeg (if (6 : Int32) < (6 : Int32) then (6 : Int32) else (6 : Int32)).toNatClampNeg) (fun u1 => some (u1)))
set_option maxHeartbeats 4000000 in
set_option maxRecDepth 20000 in
theorem cFair_copyRow_tongue_tongue {q : (Nat → Int32)}  (h : mFair_copyRow_tongue_tongue z0_tongue z1_tongue = some q) : rMet l D Z (ty7 K) MFair_copyRow_tongue_tongue [.ref (a0 3), .ref (a1 3)] (List.flatten [bFair K a0 z0_lasts z0_keeps z0_stalls z0_buyers z0_minute z0_goods z0_price z0_tongue z0_till z0_wealth z0_sold z0_ring z0_grudges z0_purse z0_came z0_had z0_seller z0_praise z0_borne, bFair K a1 z1_lasts z1_keeps z1_stalls z1_buyers z1_minute z1_goods z1_price z1_tongue z1_till z1_wealth z1_sold z1_ring z1_grudges z1_purse z1_came z1_had z1_seller z1_praise z1_borne]) (List.flatten [bFair K a0 z0_lasts z0_keeps z0_stalls z0_buyers z0_minute z0_goods z0_price z0_tongue z0_till z0_wealth z0_sold z0_ring z0_grudges z0_purse z0_came z0_had z0_seller z0_praise z0_borne, bFair K a1 z1_lasts z1_keeps z1_stalls z1_buyers z1_minute z1_goods z1_price q z1_till z1_wealth z1_sold z1_ring z1_grudges z1_purse z1_came z1_had z1_seller z1_praise z1_borne]) none := by
  refine rMet.of (by decide) rfl (Nat.le_of_ble_eq_true rfl) ?_
  refine r_sub (lv' := [(0, .ref (a0 3)), (1, .ref (a1 3))]) [0, 1] rfl ?_
  unfold mFair_copyRow_tongue_tongue at h
  refine r_aload_n 0 dX1_copyRow_0 rfl ?_
  refine r_iconst (x := (0 : Int32)) dX1_copyRow_1 (by decide) ?_
  refine r_aload_n 1 dX1_copyRow_2 rfl ?_
  refine r_iconst (x := (0 : Int32)) dX1_copyRow_3 (by decide) ?_
  refine r_aload_n 0 dX1_copyRow_4 rfl ?_
  refine b_alen (n := (6 : Int32)) 0 3 1 rfl rfl rfl rfl dX1_copyRow_5 ?_
  refine r_aload_n 1 dX1_copyRow_6 rfl ?_
  refine b_alen (n := (6 : Int32)) 1 3 1 rfl rfl rfl rfl dX1_copyRow_7 ?_
  refine r_mmin (tb_in (i := 3) (j := 19) rfl rfl) (tb_in (i := 3) (j := 20) rfl rfl) (tb_in (i := 3) (j := 21) rfl rfl) (tb_in (i := 3) (j := 22) rfl rfl) (by decide) (Nat.le_of_ble_eq_true rfl) dX1_copyRow_8 ?_
  obtain ⟨h1, h⟩ := rq_some h
  obtain ⟨u1, e1, h⟩ := lt_some h
  refine b_copy (bs1 := [bFair K a0 z0_lasts z0_keeps z0_stalls z0_buyers z0_minute z0_goods z0_price z0_tongue z0_till z0_wealth z0_sold z0_ring z0_grudges z0_purse z0_came z0_had z0_seller z0_praise z0_borne, bFair K a1 z1_lasts z1_keeps z1_stalls z1_buyers z1_minute z1_goods z1_price u1 z1_till z1_wealth z1_sold z1_ring z1_grudges z1_purse z1_came z1_had z1_seller z1_praise z1_borne]) (ty := .int) 0 3 1 3 1 e1 h1 (fun _ _ => rfl) rfl rfl rfl rfl rfl rfl rfl (tb_in (i := 3) (j := 23) rfl rfl) (tb_in (i := 0) (j := 11) rfl rfl) (tb_in (i := 0) (j := 12) rfl rfl) (tb_in (i := 0) (j := 13) rfl rfl) (by decide) (Nat.le_of_ble_eq_true rfl) dX1_copyRow_11 ?_
  have hq := Option.some.inj h
  subst hq
  exact r_vret rfl dX1_copyRow_14
end
abbrev MFair_copyRow_till_till : rx_M := (RX1, yX1_copyRow, cX1_copyRow, 2, none, 3)
theorem kFair_copyRow_till_till : rKs MFair_copyRow_till_till 2 := ⟨tb_in (i := 3) (j := 25) rfl rfl, tb_in (i := 3) (j := 26) rfl rfl, tb_in (i := 3) (j := 18) rfl rfl, ⟨by decide, by decide, by decide +kernel⟩, by decide⟩
section
variable {a0 : Nat → Nat} {a1 : Nat → Nat} {z0_lasts : Int32} {z0_keeps : Int32} {z0_stalls : Int32} {z0_buyers : Int32} {z0_minute : Int32} {z0_goods : Nat → Int32} {z0_price : Nat → Int32} {z0_tongue : Nat → Int32} {z0_till : Nat → Int32} {z0_wealth : Nat → Int32} {z0_sold : Nat → Int32} {z0_ring : Nat → Int32} {z0_grudges : Nat → Int32} {z0_purse : Nat → Int32} {z0_came : Nat → Int32} {z0_had : Nat → Int32} {z0_seller : Nat → Int32} {z0_praise : Nat → Int32} {z0_borne : Nat → Int32} {z1_lasts : Int32} {z1_keeps : Int32} {z1_stalls : Int32} {z1_buyers : Int32} {z1_minute : Int32} {z1_goods : Nat → Int32} {z1_price : Nat → Int32} {z1_tongue : Nat → Int32} {z1_till : Nat → Int32} {z1_wealth : Nat → Int32} {z1_sold : Nat → Int32} {z1_ring : Nat → Int32} {z1_grudges : Nat → Int32} {z1_purse : Nat → Int32} {z1_came : Nat → Int32} {z1_had : Nat → Int32} {z1_seller : Nat → Int32} {z1_praise : Nat → Int32} {z1_borne : Nat → Int32}
def mFair_copyRow_till_till (z0_till : Nat → Int32) (z1_till : Nat → Int32) : Option ((Nat → Int32)) := rq (cpin (0 : Int32) (0 : Int32) (if (6 : Int32) < (6 : Int32) then (6 : Int32) else (6 : Int32)) 6 6) (lt (va_cpy z0_till z1_till (0 : Int32).toNatClampNeg (0 : Int32).toNatClampNeg (if (6 : Int32) < (6 : Int32) then (6 : Int32) else (6 : Int32)).toNatClampNeg) (fun u1 => some (u1)))
set_option maxHeartbeats 4000000 in
set_option maxRecDepth 20000 in
theorem cFair_copyRow_till_till {q : (Nat → Int32)}  (h : mFair_copyRow_till_till z0_till z1_till = some q) : rMet l D Z (ty7 K) MFair_copyRow_till_till [.ref (a0 4), .ref (a1 4)] (List.flatten [bFair K a0 z0_lasts z0_keeps z0_stalls z0_buyers z0_minute z0_goods z0_price z0_tongue z0_till z0_wealth z0_sold z0_ring z0_grudges z0_purse z0_came z0_had z0_seller z0_praise z0_borne, bFair K a1 z1_lasts z1_keeps z1_stalls z1_buyers z1_minute z1_goods z1_price z1_tongue z1_till z1_wealth z1_sold z1_ring z1_grudges z1_purse z1_came z1_had z1_seller z1_praise z1_borne]) (List.flatten [bFair K a0 z0_lasts z0_keeps z0_stalls z0_buyers z0_minute z0_goods z0_price z0_tongue z0_till z0_wealth z0_sold z0_ring z0_grudges z0_purse z0_came z0_had z0_seller z0_praise z0_borne, bFair K a1 z1_lasts z1_keeps z1_stalls z1_buyers z1_minute z1_goods z1_price z1_tongue q z1_wealth z1_sold z1_ring z1_grudges z1_purse z1_came z1_had z1_seller z1_praise z1_borne]) none := by
  refine rMet.of (by decide) rfl (Nat.le_of_ble_eq_true rfl) ?_
  refine r_sub (lv' := [(0, .ref (a0 4)), (1, .ref (a1 4))]) [0, 1] rfl ?_
  unfold mFair_copyRow_till_till at h
  refine r_aload_n 0 dX1_copyRow_0 rfl ?_
  refine r_iconst (x := (0 : Int32)) dX1_copyRow_1 (by decide) ?_
  refine r_aload_n 1 dX1_copyRow_2 rfl ?_
  refine r_iconst (x := (0 : Int32)) dX1_copyRow_3 (by decide) ?_
  refine r_aload_n 0 dX1_copyRow_4 rfl ?_
  refine b_alen (n := (6 : Int32)) 0 4 1 rfl rfl rfl rfl dX1_copyRow_5 ?_
  refine r_aload_n 1 dX1_copyRow_6 rfl ?_
  refine b_alen (n := (6 : Int32)) 1 4 1 rfl rfl rfl rfl dX1_copyRow_7 ?_
  refine r_mmin (tb_in (i := 3) (j := 19) rfl rfl) (tb_in (i := 3) (j := 20) rfl rfl) (tb_in (i := 3) (j := 21) rfl rfl) (tb_in (i := 3) (j := 22) rfl rfl) (by decide) (Nat.le_of_ble_eq_true rfl) dX1_copyRow_8 ?_
  obtain ⟨h1, h⟩ := rq_some h
  obtain ⟨u1, e1, h⟩ := lt_some h
  refine b_copy (bs1 := [bFair K a0 z0_lasts z0_keeps z0_stalls z0_buyers z0_minute z0_goods z0_price z0_tongue z0_till z0_wealth z0_sold z0_ring z0_grudges z0_purse z0_came z0_had z0_seller z0_praise z0_borne, bFair K a1 z1_lasts z1_keeps z1_stalls z1_buyers z1_minute z1_goods z1_price z1_tongue u1 z1_wealth z1_sold z1_ring z1_grudges z1_purse z1_came z1_had z1_seller z1_praise z1_borne]) (ty := .int) 0 4 1 4 1 e1 h1 (fun _ _ => rfl) rfl rfl rfl rfl rfl rfl rfl (tb_in (i := 3) (j := 23) rfl rfl) (tb_in (i := 0) (j := 11) rfl rfl) (tb_in (i := 0) (j := 12) rfl rfl) (tb_in (i := 0) (j := 13) rfl rfl) (by decide) (Nat.le_of_ble_eq_true rfl) dX1_copyRow_11 ?_
  have hq := Option.some.inj h
  subst hq
  exact r_vret rfl dX1_copyRow_14
end
abbrev MFair_copyRow_wealth_wealth : rx_M := (RX1, yX1_copyRow, cX1_copyRow, 2, none, 3)
theorem kFair_copyRow_wealth_wealth : rKs MFair_copyRow_wealth_wealth 2 := ⟨tb_in (i := 3) (j := 25) rfl rfl, tb_in (i := 3) (j := 26) rfl rfl, tb_in (i := 3) (j := 18) rfl rfl, ⟨by decide, by decide, by decide +kernel⟩, by decide⟩
section
variable {a0 : Nat → Nat} {a1 : Nat → Nat} {z0_lasts : Int32} {z0_keeps : Int32} {z0_stalls : Int32} {z0_buyers : Int32} {z0_minute : Int32} {z0_goods : Nat → Int32} {z0_price : Nat → Int32} {z0_tongue : Nat → Int32} {z0_till : Nat → Int32} {z0_wealth : Nat → Int32} {z0_sold : Nat → Int32} {z0_ring : Nat → Int32} {z0_grudges : Nat → Int32} {z0_purse : Nat → Int32} {z0_came : Nat → Int32} {z0_had : Nat → Int32} {z0_seller : Nat → Int32} {z0_praise : Nat → Int32} {z0_borne : Nat → Int32} {z1_lasts : Int32} {z1_keeps : Int32} {z1_stalls : Int32} {z1_buyers : Int32} {z1_minute : Int32} {z1_goods : Nat → Int32} {z1_price : Nat → Int32} {z1_tongue : Nat → Int32} {z1_till : Nat → Int32} {z1_wealth : Nat → Int32} {z1_sold : Nat → Int32} {z1_ring : Nat → Int32} {z1_grudges : Nat → Int32} {z1_purse : Nat → Int32} {z1_came : Nat → Int32} {z1_had : Nat → Int32} {z1_seller : Nat → Int32} {z1_praise : Nat → Int32} {z1_borne : Nat → Int32}
def mFair_copyRow_wealth_wealth (z0_wealth : Nat → Int32) (z1_wealth : Nat → Int32) : Option ((Nat → Int32)) := rq (cpin (0 : Int32) (0 : Int32) (if (6 : Int32) < (6 : Int32) then (6 : Int32) else (6 : Int32)) 6 6) (lt (va_cpy z0_wealth z1_wealth (0 : Int32).toNatClampNeg (0 : Int32).toNatClampNeg (if (6 : Int32) < (6 : Int32) then (6 : Int32) else (6 : Int32)).toNatClampNeg) (fun u1 => some (u1)))
set_option maxHeartbeats 4000000 in
set_option maxRecDepth 20000 in
theorem cFair_copyRow_wealth_wealth {q : (Nat → Int32)}  (h : mFair_copyRow_wealth_wealth z0_wealth z1_wealth = some q) : rMet l D Z (ty7 K) MFair_copyRow_wealth_wealth [.ref (a0 5), .ref (a1 5)] (List.flatten [bFair K a0 z0_lasts z0_keeps z0_stalls z0_buyers z0_minute z0_goods z0_price z0_tongue z0_till z0_wealth z0_sold z0_ring z0_grudges z0_purse z0_came z0_had z0_seller z0_praise z0_borne, bFair K a1 z1_lasts z1_keeps z1_stalls z1_buyers z1_minute z1_goods z1_price z1_tongue z1_till z1_wealth z1_sold z1_ring z1_grudges z1_purse z1_came z1_had z1_seller z1_praise z1_borne]) (List.flatten [bFair K a0 z0_lasts z0_keeps z0_stalls z0_buyers z0_minute z0_goods z0_price z0_tongue z0_till z0_wealth z0_sold z0_ring z0_grudges z0_purse z0_came z0_had z0_seller z0_praise z0_borne, bFair K a1 z1_lasts z1_keeps z1_stalls z1_buyers z1_minute z1_goods z1_price z1_tongue z1_till q z1_sold z1_ring z1_grudges z1_purse z1_came z1_had z1_seller z1_praise z1_borne]) none := by
  refine rMet.of (by decide) rfl (Nat.le_of_ble_eq_true rfl) ?_
  refine r_sub (lv' := [(0, .ref (a0 5)), (1, .ref (a1 5))]) [0, 1] rfl ?_
  unfold mFair_copyRow_wealth_wealth at h
  refine r_aload_n 0 dX1_copyRow_0 rfl ?_
  refine r_iconst (x := (0 : Int32)) dX1_copyRow_1 (by decide) ?_
  refine r_aload_n 1 dX1_copyRow_2 rfl ?_
  refine r_iconst (x := (0 : Int32)) dX1_copyRow_3 (by decide) ?_
  refine r_aload_n 0 dX1_copyRow_4 rfl ?_
  refine b_alen (n := (6 : Int32)) 0 5 1 rfl rfl rfl rfl dX1_copyRow_5 ?_
  refine r_aload_n 1 dX1_copyRow_6 rfl ?_
  refine b_alen (n := (6 : Int32)) 1 5 1 rfl rfl rfl rfl dX1_copyRow_7 ?_
  refine r_mmin (tb_in (i := 3) (j := 19) rfl rfl) (tb_in (i := 3) (j := 20) rfl rfl) (tb_in (i := 3) (j := 21) rfl rfl) (tb_in (i := 3) (j := 22) rfl rfl) (by decide) (Nat.le_of_ble_eq_true rfl) dX1_copyRow_8 ?_
  obtain ⟨h1, h⟩ := rq_some h
  obtain ⟨u1, e1, h⟩ := lt_some h
  refine b_copy (bs1 := [bFair K a0 z0_lasts z0_keeps z0_stalls z0_buyers z0_minute z0_goods z0_price z0_tongue z0_till z0_wealth z0_sold z0_ring z0_grudges z0_purse z0_came z0_had z0_seller z0_praise z0_borne, bFair K a1 z1_lasts z1_keeps z1_stalls z1_buyers z1_minute z1_goods z1_price z1_tongue z1_till u1 z1_sold z1_ring z1_grudges z1_purse z1_came z1_had z1_seller z1_praise z1_borne]) (ty := .int) 0 5 1 5 1 e1 h1 (fun _ _ => rfl) rfl rfl rfl rfl rfl rfl rfl (tb_in (i := 3) (j := 23) rfl rfl) (tb_in (i := 0) (j := 11) rfl rfl) (tb_in (i := 0) (j := 12) rfl rfl) (tb_in (i := 0) (j := 13) rfl rfl) (by decide) (Nat.le_of_ble_eq_true rfl) dX1_copyRow_11 ?_
  have hq := Option.some.inj h
  subst hq
  exact r_vret rfl dX1_copyRow_14
end
abbrev MFair_copyRow_sold_sold : rx_M := (RX1, yX1_copyRow, cX1_copyRow, 2, none, 3)
theorem kFair_copyRow_sold_sold : rKs MFair_copyRow_sold_sold 2 := ⟨tb_in (i := 3) (j := 25) rfl rfl, tb_in (i := 3) (j := 26) rfl rfl, tb_in (i := 3) (j := 18) rfl rfl, ⟨by decide, by decide, by decide +kernel⟩, by decide⟩
section
variable {a0 : Nat → Nat} {a1 : Nat → Nat} {z0_lasts : Int32} {z0_keeps : Int32} {z0_stalls : Int32} {z0_buyers : Int32} {z0_minute : Int32} {z0_goods : Nat → Int32} {z0_price : Nat → Int32} {z0_tongue : Nat → Int32} {z0_till : Nat → Int32} {z0_wealth : Nat → Int32} {z0_sold : Nat → Int32} {z0_ring : Nat → Int32} {z0_grudges : Nat → Int32} {z0_purse : Nat → Int32} {z0_came : Nat → Int32} {z0_had : Nat → Int32} {z0_seller : Nat → Int32} {z0_praise : Nat → Int32} {z0_borne : Nat → Int32} {z1_lasts : Int32} {z1_keeps : Int32} {z1_stalls : Int32} {z1_buyers : Int32} {z1_minute : Int32} {z1_goods : Nat → Int32} {z1_price : Nat → Int32} {z1_tongue : Nat → Int32} {z1_till : Nat → Int32} {z1_wealth : Nat → Int32} {z1_sold : Nat → Int32} {z1_ring : Nat → Int32} {z1_grudges : Nat → Int32} {z1_purse : Nat → Int32} {z1_came : Nat → Int32} {z1_had : Nat → Int32} {z1_seller : Nat → Int32} {z1_praise : Nat → Int32} {z1_borne : Nat → Int32}
def mFair_copyRow_sold_sold (z0_sold : Nat → Int32) (z1_sold : Nat → Int32) : Option ((Nat → Int32)) := rq (cpin (0 : Int32) (0 : Int32) (if (6 : Int32) < (6 : Int32) then (6 : Int32) else (6 : Int32)) 6 6) (lt (va_cpy z0_sold z1_sold (0 : Int32).toNatClampNeg (0 : Int32).toNatClampNeg (if (6 : Int32) < (6 : Int32) then (6 : Int32) else (6 : Int32)).toNatClampNeg) (fun u1 => some (u1)))
set_option maxHeartbeats 4000000 in
set_option maxRecDepth 20000 in
theorem cFair_copyRow_sold_sold {q : (Nat → Int32)}  (h : mFair_copyRow_sold_sold z0_sold z1_sold = some q) : rMet l D Z (ty7 K) MFair_copyRow_sold_sold [.ref (a0 6), .ref (a1 6)] (List.flatten [bFair K a0 z0_lasts z0_keeps z0_stalls z0_buyers z0_minute z0_goods z0_price z0_tongue z0_till z0_wealth z0_sold z0_ring z0_grudges z0_purse z0_came z0_had z0_seller z0_praise z0_borne, bFair K a1 z1_lasts z1_keeps z1_stalls z1_buyers z1_minute z1_goods z1_price z1_tongue z1_till z1_wealth z1_sold z1_ring z1_grudges z1_purse z1_came z1_had z1_seller z1_praise z1_borne]) (List.flatten [bFair K a0 z0_lasts z0_keeps z0_stalls z0_buyers z0_minute z0_goods z0_price z0_tongue z0_till z0_wealth z0_sold z0_ring z0_grudges z0_purse z0_came z0_had z0_seller z0_praise z0_borne, bFair K a1 z1_lasts z1_keeps z1_stalls z1_buyers z1_minute z1_goods z1_price z1_tongue z1_till z1_wealth q z1_ring z1_grudges z1_purse z1_came z1_had z1_seller z1_praise z1_borne]) none := by
  refine rMet.of (by decide) rfl (Nat.le_of_ble_eq_true rfl) ?_
  refine r_sub (lv' := [(0, .ref (a0 6)), (1, .ref (a1 6))]) [0, 1] rfl ?_
  unfold mFair_copyRow_sold_sold at h
  refine r_aload_n 0 dX1_copyRow_0 rfl ?_
  refine r_iconst (x := (0 : Int32)) dX1_copyRow_1 (by decide) ?_
  refine r_aload_n 1 dX1_copyRow_2 rfl ?_
  refine r_iconst (x := (0 : Int32)) dX1_copyRow_3 (by decide) ?_
  refine r_aload_n 0 dX1_copyRow_4 rfl ?_
  refine b_alen (n := (6 : Int32)) 0 6 1 rfl rfl rfl rfl dX1_copyRow_5 ?_
  refine r_aload_n 1 dX1_copyRow_6 rfl ?_
  refine b_alen (n := (6 : Int32)) 1 6 1 rfl rfl rfl rfl dX1_copyRow_7 ?_
  refine r_mmin (tb_in (i := 3) (j := 19) rfl rfl) (tb_in (i := 3) (j := 20) rfl rfl) (tb_in (i := 3) (j := 21) rfl rfl) (tb_in (i := 3) (j := 22) rfl rfl) (by decide) (Nat.le_of_ble_eq_true rfl) dX1_copyRow_8 ?_
  obtain ⟨h1, h⟩ := rq_some h
  obtain ⟨u1, e1, h⟩ := lt_some h
  refine b_copy (bs1 := [bFair K a0 z0_lasts z0_keeps z0_stalls z0_buyers z0_minute z0_goods z0_price z0_tongue z0_till z0_wealth z0_sold z0_ring z0_grudges z0_purse z0_came z0_had z0_seller z0_praise z0_borne, bFair K a1 z1_lasts z1_keeps z1_stalls z1_buyers z1_minute z1_goods z1_price z1_tongue z1_till z1_wealth u1 z1_ring z1_grudges z1_purse z1_came z1_had z1_seller z1_praise z1_borne]) (ty := .int) 0 6 1 6 1 e1 h1 (fun _ _ => rfl) rfl rfl rfl rfl rfl rfl rfl (tb_in (i := 3) (j := 23) rfl rfl) (tb_in (i := 0) (j := 11) rfl rfl) (tb_in (i := 0) (j := 12) rfl rfl) (tb_in (i := 0) (j := 13) rfl rfl) (by decide) (Nat.le_of_ble_eq_true rfl) dX1_copyRow_11 ?_
  have hq := Option.some.inj h
  subst hq
  exact r_vret rfl dX1_copyRow_14
end
abbrev MFair_copyRow_ring_ring : rx_M := (RX1, yX1_copyRow, cX1_copyRow, 2, none, 3)
theorem kFair_copyRow_ring_ring : rKs MFair_copyRow_ring_ring 2 := ⟨tb_in (i := 3) (j := 25) rfl rfl, tb_in (i := 3) (j := 26) rfl rfl, tb_in (i := 3) (j := 18) rfl rfl, ⟨by decide, by decide, by decide +kernel⟩, by decide⟩
section
variable {a0 : Nat → Nat} {a1 : Nat → Nat} {z0_lasts : Int32} {z0_keeps : Int32} {z0_stalls : Int32} {z0_buyers : Int32} {z0_minute : Int32} {z0_goods : Nat → Int32} {z0_price : Nat → Int32} {z0_tongue : Nat → Int32} {z0_till : Nat → Int32} {z0_wealth : Nat → Int32} {z0_sold : Nat → Int32} {z0_ring : Nat → Int32} {z0_grudges : Nat → Int32} {z0_purse : Nat → Int32} {z0_came : Nat → Int32} {z0_had : Nat → Int32} {z0_seller : Nat → Int32} {z0_praise : Nat → Int32} {z0_borne : Nat → Int32} {z1_lasts : Int32} {z1_keeps : Int32} {z1_stalls : Int32} {z1_buyers : Int32} {z1_minute : Int32} {z1_goods : Nat → Int32} {z1_price : Nat → Int32} {z1_tongue : Nat → Int32} {z1_till : Nat → Int32} {z1_wealth : Nat → Int32} {z1_sold : Nat → Int32} {z1_ring : Nat → Int32} {z1_grudges : Nat → Int32} {z1_purse : Nat → Int32} {z1_came : Nat → Int32} {z1_had : Nat → Int32} {z1_seller : Nat → Int32} {z1_praise : Nat → Int32} {z1_borne : Nat → Int32}
def mFair_copyRow_ring_ring (z0_ring : Nat → Int32) (z1_ring : Nat → Int32) : Option ((Nat → Int32)) := rq (cpin (0 : Int32) (0 : Int32) (if (6 : Int32) < (6 : Int32) then (6 : Int32) else (6 : Int32)) 6 6) (lt (va_cpy z0_ring z1_ring (0 : Int32).toNatClampNeg (0 : Int32).toNatClampNeg (if (6 : Int32) < (6 : Int32) then (6 : Int32) else (6 : Int32)).toNatClampNeg) (fun u1 => some (u1)))
set_option maxHeartbeats 4000000 in
set_option maxRecDepth 20000 in
theorem cFair_copyRow_ring_ring {q : (Nat → Int32)}  (h : mFair_copyRow_ring_ring z0_ring z1_ring = some q) : rMet l D Z (ty7 K) MFair_copyRow_ring_ring [.ref (a0 7), .ref (a1 7)] (List.flatten [bFair K a0 z0_lasts z0_keeps z0_stalls z0_buyers z0_minute z0_goods z0_price z0_tongue z0_till z0_wealth z0_sold z0_ring z0_grudges z0_purse z0_came z0_had z0_seller z0_praise z0_borne, bFair K a1 z1_lasts z1_keeps z1_stalls z1_buyers z1_minute z1_goods z1_price z1_tongue z1_till z1_wealth z1_sold z1_ring z1_grudges z1_purse z1_came z1_had z1_seller z1_praise z1_borne]) (List.flatten [bFair K a0 z0_lasts z0_keeps z0_stalls z0_buyers z0_minute z0_goods z0_price z0_tongue z0_till z0_wealth z0_sold z0_ring z0_grudges z0_purse z0_came z0_had z0_seller z0_praise z0_borne, bFair K a1 z1_lasts z1_keeps z1_stalls z1_buyers z1_minute z1_goods z1_price z1_tongue z1_till z1_wealth z1_sold q z1_grudges z1_purse z1_came z1_had z1_seller z1_praise z1_borne]) none := by
  refine rMet.of (by decide) rfl (Nat.le_of_ble_eq_true rfl) ?_
  refine r_sub (lv' := [(0, .ref (a0 7)), (1, .ref (a1 7))]) [0, 1] rfl ?_
  unfold mFair_copyRow_ring_ring at h
  refine r_aload_n 0 dX1_copyRow_0 rfl ?_
  refine r_iconst (x := (0 : Int32)) dX1_copyRow_1 (by decide) ?_
  refine r_aload_n 1 dX1_copyRow_2 rfl ?_
  refine r_iconst (x := (0 : Int32)) dX1_copyRow_3 (by decide) ?_
  refine r_aload_n 0 dX1_copyRow_4 rfl ?_
  refine b_alen (n := (6 : Int32)) 0 7 1 rfl rfl rfl rfl dX1_copyRow_5 ?_
  refine r_aload_n 1 dX1_copyRow_6 rfl ?_
  refine b_alen (n := (6 : Int32)) 1 7 1 rfl rfl rfl rfl dX1_copyRow_7 ?_
  refine r_mmin (tb_in (i := 3) (j := 19) rfl rfl) (tb_in (i := 3) (j := 20) rfl rfl) (tb_in (i := 3) (j := 21) rfl rfl) (tb_in (i := 3) (j := 22) rfl rfl) (by decide) (Nat.le_of_ble_eq_true rfl) dX1_copyRow_8 ?_
  obtain ⟨h1, h⟩ := rq_some h
  obtain ⟨u1, e1, h⟩ := lt_some h
  refine b_copy (bs1 := [bFair K a0 z0_lasts z0_keeps z0_stalls z0_buyers z0_minute z0_goods z0_price z0_tongue z0_till z0_wealth z0_sold z0_ring z0_grudges z0_purse z0_came z0_had z0_seller z0_praise z0_borne, bFair K a1 z1_lasts z1_keeps z1_stalls z1_buyers z1_minute z1_goods z1_price z1_tongue z1_till z1_wealth z1_sold u1 z1_grudges z1_purse z1_came z1_had z1_seller z1_praise z1_borne]) (ty := .int) 0 7 1 7 1 e1 h1 (fun _ _ => rfl) rfl rfl rfl rfl rfl rfl rfl (tb_in (i := 3) (j := 23) rfl rfl) (tb_in (i := 0) (j := 11) rfl rfl) (tb_in (i := 0) (j := 12) rfl rfl) (tb_in (i := 0) (j := 13) rfl rfl) (by decide) (Nat.le_of_ble_eq_true rfl) dX1_copyRow_11 ?_
  have hq := Option.some.inj h
  subst hq
  exact r_vret rfl dX1_copyRow_14
end
abbrev MFair_copyRow_grudges_grudges : rx_M := (RX1, yX1_copyRow, cX1_copyRow, 2, none, 3)
theorem kFair_copyRow_grudges_grudges : rKs MFair_copyRow_grudges_grudges 2 := ⟨tb_in (i := 3) (j := 25) rfl rfl, tb_in (i := 3) (j := 26) rfl rfl, tb_in (i := 3) (j := 18) rfl rfl, ⟨by decide, by decide, by decide +kernel⟩, by decide⟩
section
variable {a0 : Nat → Nat} {a1 : Nat → Nat} {z0_lasts : Int32} {z0_keeps : Int32} {z0_stalls : Int32} {z0_buyers : Int32} {z0_minute : Int32} {z0_goods : Nat → Int32} {z0_price : Nat → Int32} {z0_tongue : Nat → Int32} {z0_till : Nat → Int32} {z0_wealth : Nat → Int32} {z0_sold : Nat → Int32} {z0_ring : Nat → Int32} {z0_grudges : Nat → Int32} {z0_purse : Nat → Int32} {z0_came : Nat → Int32} {z0_had : Nat → Int32} {z0_seller : Nat → Int32} {z0_praise : Nat → Int32} {z0_borne : Nat → Int32} {z1_lasts : Int32} {z1_keeps : Int32} {z1_stalls : Int32} {z1_buyers : Int32} {z1_minute : Int32} {z1_goods : Nat → Int32} {z1_price : Nat → Int32} {z1_tongue : Nat → Int32} {z1_till : Nat → Int32} {z1_wealth : Nat → Int32} {z1_sold : Nat → Int32} {z1_ring : Nat → Int32} {z1_grudges : Nat → Int32} {z1_purse : Nat → Int32} {z1_came : Nat → Int32} {z1_had : Nat → Int32} {z1_seller : Nat → Int32} {z1_praise : Nat → Int32} {z1_borne : Nat → Int32}
def mFair_copyRow_grudges_grudges (z0_grudges : Nat → Int32) (z1_grudges : Nat → Int32) : Option ((Nat → Int32)) := rq (cpin (0 : Int32) (0 : Int32) (if (6 : Int32) < (6 : Int32) then (6 : Int32) else (6 : Int32)) 6 6) (lt (va_cpy z0_grudges z1_grudges (0 : Int32).toNatClampNeg (0 : Int32).toNatClampNeg (if (6 : Int32) < (6 : Int32) then (6 : Int32) else (6 : Int32)).toNatClampNeg) (fun u1 => some (u1)))
set_option maxHeartbeats 4000000 in
set_option maxRecDepth 20000 in
theorem cFair_copyRow_grudges_grudges {q : (Nat → Int32)}  (h : mFair_copyRow_grudges_grudges z0_grudges z1_grudges = some q) : rMet l D Z (ty7 K) MFair_copyRow_grudges_grudges [.ref (a0 8), .ref (a1 8)] (List.flatten [bFair K a0 z0_lasts z0_keeps z0_stalls z0_buyers z0_minute z0_goods z0_price z0_tongue z0_till z0_wealth z0_sold z0_ring z0_grudges z0_purse z0_came z0_had z0_seller z0_praise z0_borne, bFair K a1 z1_lasts z1_keeps z1_stalls z1_buyers z1_minute z1_goods z1_price z1_tongue z1_till z1_wealth z1_sold z1_ring z1_grudges z1_purse z1_came z1_had z1_seller z1_praise z1_borne]) (List.flatten [bFair K a0 z0_lasts z0_keeps z0_stalls z0_buyers z0_minute z0_goods z0_price z0_tongue z0_till z0_wealth z0_sold z0_ring z0_grudges z0_purse z0_came z0_had z0_seller z0_praise z0_borne, bFair K a1 z1_lasts z1_keeps z1_stalls z1_buyers z1_minute z1_goods z1_price z1_tongue z1_till z1_wealth z1_sold z1_ring q z1_purse z1_came z1_had z1_seller z1_praise z1_borne]) none := by
  refine rMet.of (by decide) rfl (Nat.le_of_ble_eq_true rfl) ?_
  refine r_sub (lv' := [(0, .ref (a0 8)), (1, .ref (a1 8))]) [0, 1] rfl ?_
  unfold mFair_copyRow_grudges_grudges at h
  refine r_aload_n 0 dX1_copyRow_0 rfl ?_
  refine r_iconst (x := (0 : Int32)) dX1_copyRow_1 (by decide) ?_
  refine r_aload_n 1 dX1_copyRow_2 rfl ?_
  refine r_iconst (x := (0 : Int32)) dX1_copyRow_3 (by decide) ?_
  refine r_aload_n 0 dX1_copyRow_4 rfl ?_
  refine b_alen (n := (6 : Int32)) 0 8 1 rfl rfl rfl rfl dX1_copyRow_5 ?_
  refine r_aload_n 1 dX1_copyRow_6 rfl ?_
  refine b_alen (n := (6 : Int32)) 1 8 1 rfl rfl rfl rfl dX1_copyRow_7 ?_
  refine r_mmin (tb_in (i := 3) (j := 19) rfl rfl) (tb_in (i := 3) (j := 20) rfl rfl) (tb_in (i := 3) (j := 21) rfl rfl) (tb_in (i := 3) (j := 22) rfl rfl) (by decide) (Nat.le_of_ble_eq_true rfl) dX1_copyRow_8 ?_
  obtain ⟨h1, h⟩ := rq_some h
  obtain ⟨u1, e1, h⟩ := lt_some h
  refine b_copy (bs1 := [bFair K a0 z0_lasts z0_keeps z0_stalls z0_buyers z0_minute z0_goods z0_price z0_tongue z0_till z0_wealth z0_sold z0_ring z0_grudges z0_purse z0_came z0_had z0_seller z0_praise z0_borne, bFair K a1 z1_lasts z1_keeps z1_stalls z1_buyers z1_minute z1_goods z1_price z1_tongue z1_till z1_wealth z1_sold z1_ring u1 z1_purse z1_came z1_had z1_seller z1_praise z1_borne]) (ty := .int) 0 8 1 8 1 e1 h1 (fun _ _ => rfl) rfl rfl rfl rfl rfl rfl rfl (tb_in (i := 3) (j := 23) rfl rfl) (tb_in (i := 0) (j := 11) rfl rfl) (tb_in (i := 0) (j := 12) rfl rfl) (tb_in (i := 0) (j := 13) rfl rfl) (by decide) (Nat.le_of_ble_eq_true rfl) dX1_copyRow_11 ?_
  have hq := Option.some.inj h
  subst hq
  exact r_vret rfl dX1_copyRow_14
end
abbrev MFair_copyRow_purse_purse : rx_M := (RX1, yX1_copyRow, cX1_copyRow, 2, none, 3)
theorem kFair_copyRow_purse_purse : rKs MFair_copyRow_purse_purse 2 := ⟨tb_in (i := 3) (j := 25) rfl rfl, tb_in (i := 3) (j := 26) rfl rfl, tb_in (i := 3) (j := 18) rfl rfl, ⟨by decide, by decide, by decide +kernel⟩, by decide⟩
section
variable {a0 : Nat → Nat} {a1 : Nat → Nat} {z0_lasts : Int32} {z0_keeps : Int32} {z0_stalls : Int32} {z0_buyers : Int32} {z0_minute : Int32} {z0_goods : Nat → Int32} {z0_price : Nat → Int32} {z0_tongue : Nat → Int32} {z0_till : Nat → Int32} {z0_wealth : Nat → Int32} {z0_sold : Nat → Int32} {z0_ring : Nat → Int32} {z0_grudges : Nat → Int32} {z0_purse : Nat → Int32} {z0_came : Nat → Int32} {z0_had : Nat → Int32} {z0_seller : Nat → Int32} {z0_praise : Nat → Int32} {z0_borne : Nat → Int32} {z1_lasts : Int32} {z1_keeps : Int32} {z1_stalls : Int32} {z1_buyers : Int32} {z1_minute : Int32} {z1_goods : Nat → Int32} {z1_price : Nat → Int32} {z1_tongue : Nat → Int32} {z1_till : Nat → Int32} {z1_wealth : Nat → Int32} {z1_sold : Nat → Int32} {z1_ring : Nat → Int32} {z1_grudges : Nat → Int32} {z1_purse : Nat → Int32} {z1_came : Nat → Int32} {z1_had : Nat → Int32} {z1_seller : Nat → Int32} {z1_praise : Nat → Int32} {z1_borne : Nat → Int32}
def mFair_copyRow_purse_purse (z0_purse : Nat → Int32) (z1_purse : Nat → Int32) : Option ((Nat → Int32)) := rq (cpin (0 : Int32) (0 : Int32) (if (6 : Int32) < (6 : Int32) then (6 : Int32) else (6 : Int32)) 6 6) (lt (va_cpy z0_purse z1_purse (0 : Int32).toNatClampNeg (0 : Int32).toNatClampNeg (if (6 : Int32) < (6 : Int32) then (6 : Int32) else (6 : Int32)).toNatClampNeg) (fun u1 => some (u1)))
set_option maxHeartbeats 4000000 in
set_option maxRecDepth 20000 in
theorem cFair_copyRow_purse_purse {q : (Nat → Int32)}  (h : mFair_copyRow_purse_purse z0_purse z1_purse = some q) : rMet l D Z (ty7 K) MFair_copyRow_purse_purse [.ref (a0 9), .ref (a1 9)] (List.flatten [bFair K a0 z0_lasts z0_keeps z0_stalls z0_buyers z0_minute z0_goods z0_price z0_tongue z0_till z0_wealth z0_sold z0_ring z0_grudges z0_purse z0_came z0_had z0_seller z0_praise z0_borne, bFair K a1 z1_lasts z1_keeps z1_stalls z1_buyers z1_minute z1_goods z1_price z1_tongue z1_till z1_wealth z1_sold z1_ring z1_grudges z1_purse z1_came z1_had z1_seller z1_praise z1_borne]) (List.flatten [bFair K a0 z0_lasts z0_keeps z0_stalls z0_buyers z0_minute z0_goods z0_price z0_tongue z0_till z0_wealth z0_sold z0_ring z0_grudges z0_purse z0_came z0_had z0_seller z0_praise z0_borne, bFair K a1 z1_lasts z1_keeps z1_stalls z1_buyers z1_minute z1_goods z1_price z1_tongue z1_till z1_wealth z1_sold z1_ring z1_grudges q z1_came z1_had z1_seller z1_praise z1_borne]) none := by
  refine rMet.of (by decide) rfl (Nat.le_of_ble_eq_true rfl) ?_
  refine r_sub (lv' := [(0, .ref (a0 9)), (1, .ref (a1 9))]) [0, 1] rfl ?_
  unfold mFair_copyRow_purse_purse at h
  refine r_aload_n 0 dX1_copyRow_0 rfl ?_
  refine r_iconst (x := (0 : Int32)) dX1_copyRow_1 (by decide) ?_
  refine r_aload_n 1 dX1_copyRow_2 rfl ?_
  refine r_iconst (x := (0 : Int32)) dX1_copyRow_3 (by decide) ?_
  refine r_aload_n 0 dX1_copyRow_4 rfl ?_
  refine b_alen (n := (6 : Int32)) 0 9 1 rfl rfl rfl rfl dX1_copyRow_5 ?_
  refine r_aload_n 1 dX1_copyRow_6 rfl ?_
  refine b_alen (n := (6 : Int32)) 1 9 1 rfl rfl rfl rfl dX1_copyRow_7 ?_
  refine r_mmin (tb_in (i := 3) (j := 19) rfl rfl) (tb_in (i := 3) (j := 20) rfl rfl) (tb_in (i := 3) (j := 21) rfl rfl) (tb_in (i := 3) (j := 22) rfl rfl) (by decide) (Nat.le_of_ble_eq_true rfl) dX1_copyRow_8 ?_
  obtain ⟨h1, h⟩ := rq_some h
  obtain ⟨u1, e1, h⟩ := lt_some h
  refine b_copy (bs1 := [bFair K a0 z0_lasts z0_keeps z0_stalls z0_buyers z0_minute z0_goods z0_price z0_tongue z0_till z0_wealth z0_sold z0_ring z0_grudges z0_purse z0_came z0_had z0_seller z0_praise z0_borne, bFair K a1 z1_lasts z1_keeps z1_stalls z1_buyers z1_minute z1_goods z1_price z1_tongue z1_till z1_wealth z1_sold z1_ring z1_grudges u1 z1_came z1_had z1_seller z1_praise z1_borne]) (ty := .int) 0 9 1 9 1 e1 h1 (fun _ _ => rfl) rfl rfl rfl rfl rfl rfl rfl (tb_in (i := 3) (j := 23) rfl rfl) (tb_in (i := 0) (j := 11) rfl rfl) (tb_in (i := 0) (j := 12) rfl rfl) (tb_in (i := 0) (j := 13) rfl rfl) (by decide) (Nat.le_of_ble_eq_true rfl) dX1_copyRow_11 ?_
  have hq := Option.some.inj h
  subst hq
  exact r_vret rfl dX1_copyRow_14
end
abbrev MFair_copyRow_came_came : rx_M := (RX1, yX1_copyRow, cX1_copyRow, 2, none, 3)
theorem kFair_copyRow_came_came : rKs MFair_copyRow_came_came 2 := ⟨tb_in (i := 3) (j := 25) rfl rfl, tb_in (i := 3) (j := 26) rfl rfl, tb_in (i := 3) (j := 18) rfl rfl, ⟨by decide, by decide, by decide +kernel⟩, by decide⟩
section
variable {a0 : Nat → Nat} {a1 : Nat → Nat} {z0_lasts : Int32} {z0_keeps : Int32} {z0_stalls : Int32} {z0_buyers : Int32} {z0_minute : Int32} {z0_goods : Nat → Int32} {z0_price : Nat → Int32} {z0_tongue : Nat → Int32} {z0_till : Nat → Int32} {z0_wealth : Nat → Int32} {z0_sold : Nat → Int32} {z0_ring : Nat → Int32} {z0_grudges : Nat → Int32} {z0_purse : Nat → Int32} {z0_came : Nat → Int32} {z0_had : Nat → Int32} {z0_seller : Nat → Int32} {z0_praise : Nat → Int32} {z0_borne : Nat → Int32} {z1_lasts : Int32} {z1_keeps : Int32} {z1_stalls : Int32} {z1_buyers : Int32} {z1_minute : Int32} {z1_goods : Nat → Int32} {z1_price : Nat → Int32} {z1_tongue : Nat → Int32} {z1_till : Nat → Int32} {z1_wealth : Nat → Int32} {z1_sold : Nat → Int32} {z1_ring : Nat → Int32} {z1_grudges : Nat → Int32} {z1_purse : Nat → Int32} {z1_came : Nat → Int32} {z1_had : Nat → Int32} {z1_seller : Nat → Int32} {z1_praise : Nat → Int32} {z1_borne : Nat → Int32}
def mFair_copyRow_came_came (z0_came : Nat → Int32) (z1_came : Nat → Int32) : Option ((Nat → Int32)) := rq (cpin (0 : Int32) (0 : Int32) (if (6 : Int32) < (6 : Int32) then (6 : Int32) else (6 : Int32)) 6 6) (lt (va_cpy z0_came z1_came (0 : Int32).toNatClampNeg (0 : Int32).toNatClampNeg (if (6 : Int32) < (6 : Int32) then (6 : Int32) else (6 : Int32)).toNatClampNeg) (fun u1 => some (u1)))
set_option maxHeartbeats 4000000 in
set_option maxRecDepth 20000 in
theorem cFair_copyRow_came_came {q : (Nat → Int32)}  (h : mFair_copyRow_came_came z0_came z1_came = some q) : rMet l D Z (ty7 K) MFair_copyRow_came_came [.ref (a0 10), .ref (a1 10)] (List.flatten [bFair K a0 z0_lasts z0_keeps z0_stalls z0_buyers z0_minute z0_goods z0_price z0_tongue z0_till z0_wealth z0_sold z0_ring z0_grudges z0_purse z0_came z0_had z0_seller z0_praise z0_borne, bFair K a1 z1_lasts z1_keeps z1_stalls z1_buyers z1_minute z1_goods z1_price z1_tongue z1_till z1_wealth z1_sold z1_ring z1_grudges z1_purse z1_came z1_had z1_seller z1_praise z1_borne]) (List.flatten [bFair K a0 z0_lasts z0_keeps z0_stalls z0_buyers z0_minute z0_goods z0_price z0_tongue z0_till z0_wealth z0_sold z0_ring z0_grudges z0_purse z0_came z0_had z0_seller z0_praise z0_borne, bFair K a1 z1_lasts z1_keeps z1_stalls z1_buyers z1_minute z1_goods z1_price z1_tongue z1_till z1_wealth z1_sold z1_ring z1_grudges z1_purse q z1_had z1_seller z1_praise z1_borne]) none := by
  refine rMet.of (by decide) rfl (Nat.le_of_ble_eq_true rfl) ?_
  refine r_sub (lv' := [(0, .ref (a0 10)), (1, .ref (a1 10))]) [0, 1] rfl ?_
  unfold mFair_copyRow_came_came at h
  refine r_aload_n 0 dX1_copyRow_0 rfl ?_
  refine r_iconst (x := (0 : Int32)) dX1_copyRow_1 (by decide) ?_
  refine r_aload_n 1 dX1_copyRow_2 rfl ?_
  refine r_iconst (x := (0 : Int32)) dX1_copyRow_3 (by decide) ?_
  refine r_aload_n 0 dX1_copyRow_4 rfl ?_
  refine b_alen (n := (6 : Int32)) 0 10 1 rfl rfl rfl rfl dX1_copyRow_5 ?_
  refine r_aload_n 1 dX1_copyRow_6 rfl ?_
  refine b_alen (n := (6 : Int32)) 1 10 1 rfl rfl rfl rfl dX1_copyRow_7 ?_
  refine r_mmin (tb_in (i := 3) (j := 19) rfl rfl) (tb_in (i := 3) (j := 20) rfl rfl) (tb_in (i := 3) (j := 21) rfl rfl) (tb_in (i := 3) (j := 22) rfl rfl) (by decide) (Nat.le_of_ble_eq_true rfl) dX1_copyRow_8 ?_
  obtain ⟨h1, h⟩ := rq_some h
  obtain ⟨u1, e1, h⟩ := lt_some h
  refine b_copy (bs1 := [bFair K a0 z0_lasts z0_keeps z0_stalls z0_buyers z0_minute z0_goods z0_price z0_tongue z0_till z0_wealth z0_sold z0_ring z0_grudges z0_purse z0_came z0_had z0_seller z0_praise z0_borne, bFair K a1 z1_lasts z1_keeps z1_stalls z1_buyers z1_minute z1_goods z1_price z1_tongue z1_till z1_wealth z1_sold z1_ring z1_grudges z1_purse u1 z1_had z1_seller z1_praise z1_borne]) (ty := .int) 0 10 1 10 1 e1 h1 (fun _ _ => rfl) rfl rfl rfl rfl rfl rfl rfl (tb_in (i := 3) (j := 23) rfl rfl) (tb_in (i := 0) (j := 11) rfl rfl) (tb_in (i := 0) (j := 12) rfl rfl) (tb_in (i := 0) (j := 13) rfl rfl) (by decide) (Nat.le_of_ble_eq_true rfl) dX1_copyRow_11 ?_
  have hq := Option.some.inj h
  subst hq
  exact r_vret rfl dX1_copyRow_14
end
abbrev MFair_copyRow_had_had : rx_M := (RX1, yX1_copyRow, cX1_copyRow, 2, none, 3)
theorem kFair_copyRow_had_had : rKs MFair_copyRow_had_had 2 := ⟨tb_in (i := 3) (j := 25) rfl rfl, tb_in (i := 3) (j := 26) rfl rfl, tb_in (i := 3) (j := 18) rfl rfl, ⟨by decide, by decide, by decide +kernel⟩, by decide⟩
section
variable {a0 : Nat → Nat} {a1 : Nat → Nat} {z0_lasts : Int32} {z0_keeps : Int32} {z0_stalls : Int32} {z0_buyers : Int32} {z0_minute : Int32} {z0_goods : Nat → Int32} {z0_price : Nat → Int32} {z0_tongue : Nat → Int32} {z0_till : Nat → Int32} {z0_wealth : Nat → Int32} {z0_sold : Nat → Int32} {z0_ring : Nat → Int32} {z0_grudges : Nat → Int32} {z0_purse : Nat → Int32} {z0_came : Nat → Int32} {z0_had : Nat → Int32} {z0_seller : Nat → Int32} {z0_praise : Nat → Int32} {z0_borne : Nat → Int32} {z1_lasts : Int32} {z1_keeps : Int32} {z1_stalls : Int32} {z1_buyers : Int32} {z1_minute : Int32} {z1_goods : Nat → Int32} {z1_price : Nat → Int32} {z1_tongue : Nat → Int32} {z1_till : Nat → Int32} {z1_wealth : Nat → Int32} {z1_sold : Nat → Int32} {z1_ring : Nat → Int32} {z1_grudges : Nat → Int32} {z1_purse : Nat → Int32} {z1_came : Nat → Int32} {z1_had : Nat → Int32} {z1_seller : Nat → Int32} {z1_praise : Nat → Int32} {z1_borne : Nat → Int32}
def mFair_copyRow_had_had (z0_had : Nat → Int32) (z1_had : Nat → Int32) : Option ((Nat → Int32)) := rq (cpin (0 : Int32) (0 : Int32) (if (36 : Int32) < (36 : Int32) then (36 : Int32) else (36 : Int32)) 36 36) (lt (va_cpy z0_had z1_had (0 : Int32).toNatClampNeg (0 : Int32).toNatClampNeg (if (36 : Int32) < (36 : Int32) then (36 : Int32) else (36 : Int32)).toNatClampNeg) (fun u1 => some (u1)))
set_option maxHeartbeats 4000000 in
set_option maxRecDepth 20000 in
theorem cFair_copyRow_had_had {q : (Nat → Int32)}  (h : mFair_copyRow_had_had z0_had z1_had = some q) : rMet l D Z (ty7 K) MFair_copyRow_had_had [.ref (a0 11), .ref (a1 11)] (List.flatten [bFair K a0 z0_lasts z0_keeps z0_stalls z0_buyers z0_minute z0_goods z0_price z0_tongue z0_till z0_wealth z0_sold z0_ring z0_grudges z0_purse z0_came z0_had z0_seller z0_praise z0_borne, bFair K a1 z1_lasts z1_keeps z1_stalls z1_buyers z1_minute z1_goods z1_price z1_tongue z1_till z1_wealth z1_sold z1_ring z1_grudges z1_purse z1_came z1_had z1_seller z1_praise z1_borne]) (List.flatten [bFair K a0 z0_lasts z0_keeps z0_stalls z0_buyers z0_minute z0_goods z0_price z0_tongue z0_till z0_wealth z0_sold z0_ring z0_grudges z0_purse z0_came z0_had z0_seller z0_praise z0_borne, bFair K a1 z1_lasts z1_keeps z1_stalls z1_buyers z1_minute z1_goods z1_price z1_tongue z1_till z1_wealth z1_sold z1_ring z1_grudges z1_purse z1_came q z1_seller z1_praise z1_borne]) none := by
  refine rMet.of (by decide) rfl (Nat.le_of_ble_eq_true rfl) ?_
  refine r_sub (lv' := [(0, .ref (a0 11)), (1, .ref (a1 11))]) [0, 1] rfl ?_
  unfold mFair_copyRow_had_had at h
  refine r_aload_n 0 dX1_copyRow_0 rfl ?_
  refine r_iconst (x := (0 : Int32)) dX1_copyRow_1 (by decide) ?_
  refine r_aload_n 1 dX1_copyRow_2 rfl ?_
  refine r_iconst (x := (0 : Int32)) dX1_copyRow_3 (by decide) ?_
  refine r_aload_n 0 dX1_copyRow_4 rfl ?_
  refine b_alen (n := (36 : Int32)) 0 11 1 rfl rfl rfl rfl dX1_copyRow_5 ?_
  refine r_aload_n 1 dX1_copyRow_6 rfl ?_
  refine b_alen (n := (36 : Int32)) 1 11 1 rfl rfl rfl rfl dX1_copyRow_7 ?_
  refine r_mmin (tb_in (i := 3) (j := 19) rfl rfl) (tb_in (i := 3) (j := 20) rfl rfl) (tb_in (i := 3) (j := 21) rfl rfl) (tb_in (i := 3) (j := 22) rfl rfl) (by decide) (Nat.le_of_ble_eq_true rfl) dX1_copyRow_8 ?_
  obtain ⟨h1, h⟩ := rq_some h
  obtain ⟨u1, e1, h⟩ := lt_some h
  refine b_copy (bs1 := [bFair K a0 z0_lasts z0_keeps z0_stalls z0_buyers z0_minute z0_goods z0_price z0_tongue z0_till z0_wealth z0_sold z0_ring z0_grudges z0_purse z0_came z0_had z0_seller z0_praise z0_borne, bFair K a1 z1_lasts z1_keeps z1_stalls z1_buyers z1_minute z1_goods z1_price z1_tongue z1_till z1_wealth z1_sold z1_ring z1_grudges z1_purse z1_came u1 z1_seller z1_praise z1_borne]) (ty := .int) 0 11 1 11 1 e1 h1 (fun _ _ => rfl) rfl rfl rfl rfl rfl rfl rfl (tb_in (i := 3) (j := 23) rfl rfl) (tb_in (i := 0) (j := 11) rfl rfl) (tb_in (i := 0) (j := 12) rfl rfl) (tb_in (i := 0) (j := 13) rfl rfl) (by decide) (Nat.le_of_ble_eq_true rfl) dX1_copyRow_11 ?_
  have hq := Option.some.inj h
  subst hq
  exact r_vret rfl dX1_copyRow_14
end
abbrev MFair_copyRow_seller_seller : rx_M := (RX1, yX1_copyRow, cX1_copyRow, 2, none, 3)
theorem kFair_copyRow_seller_seller : rKs MFair_copyRow_seller_seller 2 := ⟨tb_in (i := 3) (j := 25) rfl rfl, tb_in (i := 3) (j := 26) rfl rfl, tb_in (i := 3) (j := 18) rfl rfl, ⟨by decide, by decide, by decide +kernel⟩, by decide⟩
section
variable {a0 : Nat → Nat} {a1 : Nat → Nat} {z0_lasts : Int32} {z0_keeps : Int32} {z0_stalls : Int32} {z0_buyers : Int32} {z0_minute : Int32} {z0_goods : Nat → Int32} {z0_price : Nat → Int32} {z0_tongue : Nat → Int32} {z0_till : Nat → Int32} {z0_wealth : Nat → Int32} {z0_sold : Nat → Int32} {z0_ring : Nat → Int32} {z0_grudges : Nat → Int32} {z0_purse : Nat → Int32} {z0_came : Nat → Int32} {z0_had : Nat → Int32} {z0_seller : Nat → Int32} {z0_praise : Nat → Int32} {z0_borne : Nat → Int32} {z1_lasts : Int32} {z1_keeps : Int32} {z1_stalls : Int32} {z1_buyers : Int32} {z1_minute : Int32} {z1_goods : Nat → Int32} {z1_price : Nat → Int32} {z1_tongue : Nat → Int32} {z1_till : Nat → Int32} {z1_wealth : Nat → Int32} {z1_sold : Nat → Int32} {z1_ring : Nat → Int32} {z1_grudges : Nat → Int32} {z1_purse : Nat → Int32} {z1_came : Nat → Int32} {z1_had : Nat → Int32} {z1_seller : Nat → Int32} {z1_praise : Nat → Int32} {z1_borne : Nat → Int32}
def mFair_copyRow_seller_seller (z0_seller : Nat → Int32) (z1_seller : Nat → Int32) : Option ((Nat → Int32)) := rq (cpin (0 : Int32) (0 : Int32) (if (6 : Int32) < (6 : Int32) then (6 : Int32) else (6 : Int32)) 6 6) (lt (va_cpy z0_seller z1_seller (0 : Int32).toNatClampNeg (0 : Int32).toNatClampNeg (if (6 : Int32) < (6 : Int32) then (6 : Int32) else (6 : Int32)).toNatClampNeg) (fun u1 => some (u1)))
set_option maxHeartbeats 4000000 in
set_option maxRecDepth 20000 in
theorem cFair_copyRow_seller_seller {q : (Nat → Int32)}  (h : mFair_copyRow_seller_seller z0_seller z1_seller = some q) : rMet l D Z (ty7 K) MFair_copyRow_seller_seller [.ref (a0 12), .ref (a1 12)] (List.flatten [bFair K a0 z0_lasts z0_keeps z0_stalls z0_buyers z0_minute z0_goods z0_price z0_tongue z0_till z0_wealth z0_sold z0_ring z0_grudges z0_purse z0_came z0_had z0_seller z0_praise z0_borne, bFair K a1 z1_lasts z1_keeps z1_stalls z1_buyers z1_minute z1_goods z1_price z1_tongue z1_till z1_wealth z1_sold z1_ring z1_grudges z1_purse z1_came z1_had z1_seller z1_praise z1_borne]) (List.flatten [bFair K a0 z0_lasts z0_keeps z0_stalls z0_buyers z0_minute z0_goods z0_price z0_tongue z0_till z0_wealth z0_sold z0_ring z0_grudges z0_purse z0_came z0_had z0_seller z0_praise z0_borne, bFair K a1 z1_lasts z1_keeps z1_stalls z1_buyers z1_minute z1_goods z1_price z1_tongue z1_till z1_wealth z1_sold z1_ring z1_grudges z1_purse z1_came z1_had q z1_praise z1_borne]) none := by
  refine rMet.of (by decide) rfl (Nat.le_of_ble_eq_true rfl) ?_
  refine r_sub (lv' := [(0, .ref (a0 12)), (1, .ref (a1 12))]) [0, 1] rfl ?_
  unfold mFair_copyRow_seller_seller at h
  refine r_aload_n 0 dX1_copyRow_0 rfl ?_
  refine r_iconst (x := (0 : Int32)) dX1_copyRow_1 (by decide) ?_
  refine r_aload_n 1 dX1_copyRow_2 rfl ?_
  refine r_iconst (x := (0 : Int32)) dX1_copyRow_3 (by decide) ?_
  refine r_aload_n 0 dX1_copyRow_4 rfl ?_
  refine b_alen (n := (6 : Int32)) 0 12 1 rfl rfl rfl rfl dX1_copyRow_5 ?_
  refine r_aload_n 1 dX1_copyRow_6 rfl ?_
  refine b_alen (n := (6 : Int32)) 1 12 1 rfl rfl rfl rfl dX1_copyRow_7 ?_
  refine r_mmin (tb_in (i := 3) (j := 19) rfl rfl) (tb_in (i := 3) (j := 20) rfl rfl) (tb_in (i := 3) (j := 21) rfl rfl) (tb_in (i := 3) (j := 22) rfl rfl) (by decide) (Nat.le_of_ble_eq_true rfl) dX1_copyRow_8 ?_
  obtain ⟨h1, h⟩ := rq_some h
  obtain ⟨u1, e1, h⟩ := lt_some h
  refine b_copy (bs1 := [bFair K a0 z0_lasts z0_keeps z0_stalls z0_buyers z0_minute z0_goods z0_price z0_tongue z0_till z0_wealth z0_sold z0_ring z0_grudges z0_purse z0_came z0_had z0_seller z0_praise z0_borne, bFair K a1 z1_lasts z1_keeps z1_stalls z1_buyers z1_minute z1_goods z1_price z1_tongue z1_till z1_wealth z1_sold z1_ring z1_grudges z1_purse z1_came z1_had u1 z1_praise z1_borne]) (ty := .int) 0 12 1 12 1 e1 h1 (fun _ _ => rfl) rfl rfl rfl rfl rfl rfl rfl (tb_in (i := 3) (j := 23) rfl rfl) (tb_in (i := 0) (j := 11) rfl rfl) (tb_in (i := 0) (j := 12) rfl rfl) (tb_in (i := 0) (j := 13) rfl rfl) (by decide) (Nat.le_of_ble_eq_true rfl) dX1_copyRow_11 ?_
  have hq := Option.some.inj h
  subst hq
  exact r_vret rfl dX1_copyRow_14
end
abbrev MFair_copyRow_praise_praise : rx_M := (RX1, yX1_copyRow, cX1_copyRow, 2, none, 3)
theorem kFair_copyRow_praise_praise : rKs MFair_copyRow_praise_praise 2 := ⟨tb_in (i := 3) (j := 25) rfl rfl, tb_in (i := 3) (j := 26) rfl rfl, tb_in (i := 3) (j := 18) rfl rfl, ⟨by decide, by decide, by decide +kernel⟩, by decide⟩
section
variable {a0 : Nat → Nat} {a1 : Nat → Nat} {z0_lasts : Int32} {z0_keeps : Int32} {z0_stalls : Int32} {z0_buyers : Int32} {z0_minute : Int32} {z0_goods : Nat → Int32} {z0_price : Nat → Int32} {z0_tongue : Nat → Int32} {z0_till : Nat → Int32} {z0_wealth : Nat → Int32} {z0_sold : Nat → Int32} {z0_ring : Nat → Int32} {z0_grudges : Nat → Int32} {z0_purse : Nat → Int32} {z0_came : Nat → Int32} {z0_had : Nat → Int32} {z0_seller : Nat → Int32} {z0_praise : Nat → Int32} {z0_borne : Nat → Int32} {z1_lasts : Int32} {z1_keeps : Int32} {z1_stalls : Int32} {z1_buyers : Int32} {z1_minute : Int32} {z1_goods : Nat → Int32} {z1_price : Nat → Int32} {z1_tongue : Nat → Int32} {z1_till : Nat → Int32} {z1_wealth : Nat → Int32} {z1_sold : Nat → Int32} {z1_ring : Nat → Int32} {z1_grudges : Nat → Int32} {z1_purse : Nat → Int32} {z1_came : Nat → Int32} {z1_had : Nat → Int32} {z1_seller : Nat → Int32} {z1_praise : Nat → Int32} {z1_borne : Nat → Int32}
def mFair_copyRow_praise_praise (z0_praise : Nat → Int32) (z1_praise : Nat → Int32) : Option ((Nat → Int32)) := rq (cpin (0 : Int32) (0 : Int32) (if (6 : Int32) < (6 : Int32) then (6 : Int32) else (6 : Int32)) 6 6) (lt (va_cpy z0_praise z1_praise (0 : Int32).toNatClampNeg (0 : Int32).toNatClampNeg (if (6 : Int32) < (6 : Int32) then (6 : Int32) else (6 : Int32)).toNatClampNeg) (fun u1 => some (u1)))
set_option maxHeartbeats 4000000 in
set_option maxRecDepth 20000 in
theorem cFair_copyRow_praise_praise {q : (Nat → Int32)}  (h : mFair_copyRow_praise_praise z0_praise z1_praise = some q) : rMet l D Z (ty7 K) MFair_copyRow_praise_praise [.ref (a0 13), .ref (a1 13)] (List.flatten [bFair K a0 z0_lasts z0_keeps z0_stalls z0_buyers z0_minute z0_goods z0_price z0_tongue z0_till z0_wealth z0_sold z0_ring z0_grudges z0_purse z0_came z0_had z0_seller z0_praise z0_borne, bFair K a1 z1_lasts z1_keeps z1_stalls z1_buyers z1_minute z1_goods z1_price z1_tongue z1_till z1_wealth z1_sold z1_ring z1_grudges z1_purse z1_came z1_had z1_seller z1_praise z1_borne]) (List.flatten [bFair K a0 z0_lasts z0_keeps z0_stalls z0_buyers z0_minute z0_goods z0_price z0_tongue z0_till z0_wealth z0_sold z0_ring z0_grudges z0_purse z0_came z0_had z0_seller z0_praise z0_borne, bFair K a1 z1_lasts z1_keeps z1_stalls z1_buyers z1_minute z1_goods z1_price z1_tongue z1_till z1_wealth z1_sold z1_ring z1_grudges z1_purse z1_came z1_had z1_seller q z1_borne]) none := by
  refine rMet.of (by decide) rfl (Nat.le_of_ble_eq_true rfl) ?_
  refine r_sub (lv' := [(0, .ref (a0 13)), (1, .ref (a1 13))]) [0, 1] rfl ?_
  unfold mFair_copyRow_praise_praise at h
  refine r_aload_n 0 dX1_copyRow_0 rfl ?_
  refine r_iconst (x := (0 : Int32)) dX1_copyRow_1 (by decide) ?_
  refine r_aload_n 1 dX1_copyRow_2 rfl ?_
  refine r_iconst (x := (0 : Int32)) dX1_copyRow_3 (by decide) ?_
  refine r_aload_n 0 dX1_copyRow_4 rfl ?_
  refine b_alen (n := (6 : Int32)) 0 13 1 rfl rfl rfl rfl dX1_copyRow_5 ?_
  refine r_aload_n 1 dX1_copyRow_6 rfl ?_
  refine b_alen (n := (6 : Int32)) 1 13 1 rfl rfl rfl rfl dX1_copyRow_7 ?_
  refine r_mmin (tb_in (i := 3) (j := 19) rfl rfl) (tb_in (i := 3) (j := 20) rfl rfl) (tb_in (i := 3) (j := 21) rfl rfl) (tb_in (i := 3) (j := 22) rfl rfl) (by decide) (Nat.le_of_ble_eq_true rfl) dX1_copyRow_8 ?_
  obtain ⟨h1, h⟩ := rq_some h
  obtain ⟨u1, e1, h⟩ := lt_some h
  refine b_copy (bs1 := [bFair K a0 z0_lasts z0_keeps z0_stalls z0_buyers z0_minute z0_goods z0_price z0_tongue z0_till z0_wealth z0_sold z0_ring z0_grudges z0_purse z0_came z0_had z0_seller z0_praise z0_borne, bFair K a1 z1_lasts z1_keeps z1_stalls z1_buyers z1_minute z1_goods z1_price z1_tongue z1_till z1_wealth z1_sold z1_ring z1_grudges z1_purse z1_came z1_had z1_seller u1 z1_borne]) (ty := .int) 0 13 1 13 1 e1 h1 (fun _ _ => rfl) rfl rfl rfl rfl rfl rfl rfl (tb_in (i := 3) (j := 23) rfl rfl) (tb_in (i := 0) (j := 11) rfl rfl) (tb_in (i := 0) (j := 12) rfl rfl) (tb_in (i := 0) (j := 13) rfl rfl) (by decide) (Nat.le_of_ble_eq_true rfl) dX1_copyRow_11 ?_
  have hq := Option.some.inj h
  subst hq
  exact r_vret rfl dX1_copyRow_14
end
abbrev MFair_copyRow_borne_borne : rx_M := (RX1, yX1_copyRow, cX1_copyRow, 2, none, 3)
theorem kFair_copyRow_borne_borne : rKs MFair_copyRow_borne_borne 2 := ⟨tb_in (i := 3) (j := 25) rfl rfl, tb_in (i := 3) (j := 26) rfl rfl, tb_in (i := 3) (j := 18) rfl rfl, ⟨by decide, by decide, by decide +kernel⟩, by decide⟩
section
variable {a0 : Nat → Nat} {a1 : Nat → Nat} {z0_lasts : Int32} {z0_keeps : Int32} {z0_stalls : Int32} {z0_buyers : Int32} {z0_minute : Int32} {z0_goods : Nat → Int32} {z0_price : Nat → Int32} {z0_tongue : Nat → Int32} {z0_till : Nat → Int32} {z0_wealth : Nat → Int32} {z0_sold : Nat → Int32} {z0_ring : Nat → Int32} {z0_grudges : Nat → Int32} {z0_purse : Nat → Int32} {z0_came : Nat → Int32} {z0_had : Nat → Int32} {z0_seller : Nat → Int32} {z0_praise : Nat → Int32} {z0_borne : Nat → Int32} {z1_lasts : Int32} {z1_keeps : Int32} {z1_stalls : Int32} {z1_buyers : Int32} {z1_minute : Int32} {z1_goods : Nat → Int32} {z1_price : Nat → Int32} {z1_tongue : Nat → Int32} {z1_till : Nat → Int32} {z1_wealth : Nat → Int32} {z1_sold : Nat → Int32} {z1_ring : Nat → Int32} {z1_grudges : Nat → Int32} {z1_purse : Nat → Int32} {z1_came : Nat → Int32} {z1_had : Nat → Int32} {z1_seller : Nat → Int32} {z1_praise : Nat → Int32} {z1_borne : Nat → Int32}
def mFair_copyRow_borne_borne (z0_borne : Nat → Int32) (z1_borne : Nat → Int32) : Option ((Nat → Int32)) := rq (cpin (0 : Int32) (0 : Int32) (if (6 : Int32) < (6 : Int32) then (6 : Int32) else (6 : Int32)) 6 6) (lt (va_cpy z0_borne z1_borne (0 : Int32).toNatClampNeg (0 : Int32).toNatClampNeg (if (6 : Int32) < (6 : Int32) then (6 : Int32) else (6 : Int32)).toNatClampNeg) (fun u1 => some (u1)))
set_option maxHeartbeats 4000000 in
set_option maxRecDepth 20000 in
theorem cFair_copyRow_borne_borne {q : (Nat → Int32)}  (h : mFair_copyRow_borne_borne z0_borne z1_borne = some q) : rMet l D Z (ty7 K) MFair_copyRow_borne_borne [.ref (a0 14), .ref (a1 14)] (List.flatten [bFair K a0 z0_lasts z0_keeps z0_stalls z0_buyers z0_minute z0_goods z0_price z0_tongue z0_till z0_wealth z0_sold z0_ring z0_grudges z0_purse z0_came z0_had z0_seller z0_praise z0_borne, bFair K a1 z1_lasts z1_keeps z1_stalls z1_buyers z1_minute z1_goods z1_price z1_tongue z1_till z1_wealth z1_sold z1_ring z1_grudges z1_purse z1_came z1_had z1_seller z1_praise z1_borne]) (List.flatten [bFair K a0 z0_lasts z0_keeps z0_stalls z0_buyers z0_minute z0_goods z0_price z0_tongue z0_till z0_wealth z0_sold z0_ring z0_grudges z0_purse z0_came z0_had z0_seller z0_praise z0_borne, bFair K a1 z1_lasts z1_keeps z1_stalls z1_buyers z1_minute z1_goods z1_price z1_tongue z1_till z1_wealth z1_sold z1_ring z1_grudges z1_purse z1_came z1_had z1_seller z1_praise q]) none := by
  refine rMet.of (by decide) rfl (Nat.le_of_ble_eq_true rfl) ?_
  refine r_sub (lv' := [(0, .ref (a0 14)), (1, .ref (a1 14))]) [0, 1] rfl ?_
  unfold mFair_copyRow_borne_borne at h
  refine r_aload_n 0 dX1_copyRow_0 rfl ?_
  refine r_iconst (x := (0 : Int32)) dX1_copyRow_1 (by decide) ?_
  refine r_aload_n 1 dX1_copyRow_2 rfl ?_
  refine r_iconst (x := (0 : Int32)) dX1_copyRow_3 (by decide) ?_
  refine r_aload_n 0 dX1_copyRow_4 rfl ?_
  refine b_alen (n := (6 : Int32)) 0 14 1 rfl rfl rfl rfl dX1_copyRow_5 ?_
  refine r_aload_n 1 dX1_copyRow_6 rfl ?_
  refine b_alen (n := (6 : Int32)) 1 14 1 rfl rfl rfl rfl dX1_copyRow_7 ?_
  refine r_mmin (tb_in (i := 3) (j := 19) rfl rfl) (tb_in (i := 3) (j := 20) rfl rfl) (tb_in (i := 3) (j := 21) rfl rfl) (tb_in (i := 3) (j := 22) rfl rfl) (by decide) (Nat.le_of_ble_eq_true rfl) dX1_copyRow_8 ?_
  obtain ⟨h1, h⟩ := rq_some h
  obtain ⟨u1, e1, h⟩ := lt_some h
  refine b_copy (bs1 := [bFair K a0 z0_lasts z0_keeps z0_stalls z0_buyers z0_minute z0_goods z0_price z0_tongue z0_till z0_wealth z0_sold z0_ring z0_grudges z0_purse z0_came z0_had z0_seller z0_praise z0_borne, bFair K a1 z1_lasts z1_keeps z1_stalls z1_buyers z1_minute z1_goods z1_price z1_tongue z1_till z1_wealth z1_sold z1_ring z1_grudges z1_purse z1_came z1_had z1_seller z1_praise u1]) (ty := .int) 0 14 1 14 1 e1 h1 (fun _ _ => rfl) rfl rfl rfl rfl rfl rfl rfl (tb_in (i := 3) (j := 23) rfl rfl) (tb_in (i := 0) (j := 11) rfl rfl) (tb_in (i := 0) (j := 12) rfl rfl) (tb_in (i := 0) (j := 13) rfl rfl) (by decide) (Nat.le_of_ble_eq_true rfl) dX1_copyRow_11 ?_
  have hq := Option.some.inj h
  subst hq
  exact r_vret rfl dX1_copyRow_14
end
theorem dX1_copyFrom_0 : decode cX1_copyFrom 0 = .ok (.aload_n 0, 1) := by decide +kernel
theorem dX1_copyFrom_1 : decode cX1_copyFrom 1 = .ok (.aload_n 1, 1) := by decide +kernel
theorem dX1_copyFrom_2 : decode cX1_copyFrom 2 = .ok (.getfield 9, 3) := by decide +kernel
theorem dX1_copyFrom_5 : decode cX1_copyFrom 5 = .ok (.putfield 9, 3) := by decide +kernel
theorem dX1_copyFrom_8 : decode cX1_copyFrom 8 = .ok (.aload_n 0, 1) := by decide +kernel
theorem dX1_copyFrom_9 : decode cX1_copyFrom 9 = .ok (.aload_n 1, 1) := by decide +kernel
theorem dX1_copyFrom_10 : decode cX1_copyFrom 10 = .ok (.getfield 15, 3) := by decide +kernel
theorem dX1_copyFrom_13 : decode cX1_copyFrom 13 = .ok (.putfield 15, 3) := by decide +kernel
theorem dX1_copyFrom_16 : decode cX1_copyFrom 16 = .ok (.aload_n 0, 1) := by decide +kernel
theorem dX1_copyFrom_17 : decode cX1_copyFrom 17 = .ok (.aload_n 1, 1) := by decide +kernel
theorem dX1_copyFrom_18 : decode cX1_copyFrom 18 = .ok (.getfield 18, 3) := by decide +kernel
theorem dX1_copyFrom_21 : decode cX1_copyFrom 21 = .ok (.putfield 18, 3) := by decide +kernel
theorem dX1_copyFrom_24 : decode cX1_copyFrom 24 = .ok (.aload_n 0, 1) := by decide +kernel
theorem dX1_copyFrom_25 : decode cX1_copyFrom 25 = .ok (.aload_n 1, 1) := by decide +kernel
theorem dX1_copyFrom_26 : decode cX1_copyFrom 26 = .ok (.getfield 21, 3) := by decide +kernel
theorem dX1_copyFrom_29 : decode cX1_copyFrom 29 = .ok (.putfield 21, 3) := by decide +kernel
theorem dX1_copyFrom_32 : decode cX1_copyFrom 32 = .ok (.aload_n 0, 1) := by decide +kernel
theorem dX1_copyFrom_33 : decode cX1_copyFrom 33 = .ok (.aload_n 1, 1) := by decide +kernel
theorem dX1_copyFrom_34 : decode cX1_copyFrom 34 = .ok (.getfield 24, 3) := by decide +kernel
theorem dX1_copyFrom_37 : decode cX1_copyFrom 37 = .ok (.putfield 24, 3) := by decide +kernel
theorem dX1_copyFrom_40 : decode cX1_copyFrom 40 = .ok (.aload_n 1, 1) := by decide +kernel
theorem dX1_copyFrom_41 : decode cX1_copyFrom 41 = .ok (.getfield 27, 3) := by decide +kernel
theorem dX1_copyFrom_44 : decode cX1_copyFrom 44 = .ok (.aload_n 0, 1) := by decide +kernel
theorem dX1_copyFrom_45 : decode cX1_copyFrom 45 = .ok (.getfield 27, 3) := by decide +kernel
theorem dX1_copyFrom_48 : decode cX1_copyFrom 48 = .ok (.invokestatic 70, 3) := by decide +kernel
theorem dX1_copyFrom_51 : decode cX1_copyFrom 51 = .ok (.aload_n 1, 1) := by decide +kernel
theorem dX1_copyFrom_52 : decode cX1_copyFrom 52 = .ok (.getfield 31, 3) := by decide +kernel
theorem dX1_copyFrom_55 : decode cX1_copyFrom 55 = .ok (.aload_n 0, 1) := by decide +kernel
theorem dX1_copyFrom_56 : decode cX1_copyFrom 56 = .ok (.getfield 31, 3) := by decide +kernel
theorem dX1_copyFrom_59 : decode cX1_copyFrom 59 = .ok (.invokestatic 70, 3) := by decide +kernel
theorem dX1_copyFrom_62 : decode cX1_copyFrom 62 = .ok (.aload_n 1, 1) := by decide +kernel
theorem dX1_copyFrom_63 : decode cX1_copyFrom 63 = .ok (.getfield 34, 3) := by decide +kernel
theorem dX1_copyFrom_66 : decode cX1_copyFrom 66 = .ok (.aload_n 0, 1) := by decide +kernel
theorem dX1_copyFrom_67 : decode cX1_copyFrom 67 = .ok (.getfield 34, 3) := by decide +kernel
theorem dX1_copyFrom_70 : decode cX1_copyFrom 70 = .ok (.invokestatic 70, 3) := by decide +kernel
theorem dX1_copyFrom_73 : decode cX1_copyFrom 73 = .ok (.aload_n 1, 1) := by decide +kernel
theorem dX1_copyFrom_74 : decode cX1_copyFrom 74 = .ok (.getfield 37, 3) := by decide +kernel
theorem dX1_copyFrom_77 : decode cX1_copyFrom 77 = .ok (.aload_n 0, 1) := by decide +kernel
theorem dX1_copyFrom_78 : decode cX1_copyFrom 78 = .ok (.getfield 37, 3) := by decide +kernel
theorem dX1_copyFrom_81 : decode cX1_copyFrom 81 = .ok (.invokestatic 70, 3) := by decide +kernel
theorem dX1_copyFrom_84 : decode cX1_copyFrom 84 = .ok (.aload_n 1, 1) := by decide +kernel
theorem dX1_copyFrom_85 : decode cX1_copyFrom 85 = .ok (.getfield 40, 3) := by decide +kernel
theorem dX1_copyFrom_88 : decode cX1_copyFrom 88 = .ok (.aload_n 0, 1) := by decide +kernel
theorem dX1_copyFrom_89 : decode cX1_copyFrom 89 = .ok (.getfield 40, 3) := by decide +kernel
theorem dX1_copyFrom_92 : decode cX1_copyFrom 92 = .ok (.invokestatic 70, 3) := by decide +kernel
theorem dX1_copyFrom_95 : decode cX1_copyFrom 95 = .ok (.aload_n 1, 1) := by decide +kernel
theorem dX1_copyFrom_96 : decode cX1_copyFrom 96 = .ok (.getfield 43, 3) := by decide +kernel
theorem dX1_copyFrom_99 : decode cX1_copyFrom 99 = .ok (.aload_n 0, 1) := by decide +kernel
theorem dX1_copyFrom_100 : decode cX1_copyFrom 100 = .ok (.getfield 43, 3) := by decide +kernel
theorem dX1_copyFrom_103 : decode cX1_copyFrom 103 = .ok (.invokestatic 70, 3) := by decide +kernel
theorem dX1_copyFrom_106 : decode cX1_copyFrom 106 = .ok (.aload_n 1, 1) := by decide +kernel
theorem dX1_copyFrom_107 : decode cX1_copyFrom 107 = .ok (.getfield 46, 3) := by decide +kernel
theorem dX1_copyFrom_110 : decode cX1_copyFrom 110 = .ok (.aload_n 0, 1) := by decide +kernel
theorem dX1_copyFrom_111 : decode cX1_copyFrom 111 = .ok (.getfield 46, 3) := by decide +kernel
theorem dX1_copyFrom_114 : decode cX1_copyFrom 114 = .ok (.invokestatic 70, 3) := by decide +kernel
theorem dX1_copyFrom_117 : decode cX1_copyFrom 117 = .ok (.aload_n 1, 1) := by decide +kernel
theorem dX1_copyFrom_118 : decode cX1_copyFrom 118 = .ok (.getfield 49, 3) := by decide +kernel
theorem dX1_copyFrom_121 : decode cX1_copyFrom 121 = .ok (.aload_n 0, 1) := by decide +kernel
theorem dX1_copyFrom_122 : decode cX1_copyFrom 122 = .ok (.getfield 49, 3) := by decide +kernel
theorem dX1_copyFrom_125 : decode cX1_copyFrom 125 = .ok (.invokestatic 70, 3) := by decide +kernel
theorem dX1_copyFrom_128 : decode cX1_copyFrom 128 = .ok (.aload_n 1, 1) := by decide +kernel
theorem dX1_copyFrom_129 : decode cX1_copyFrom 129 = .ok (.getfield 52, 3) := by decide +kernel
theorem dX1_copyFrom_132 : decode cX1_copyFrom 132 = .ok (.aload_n 0, 1) := by decide +kernel
theorem dX1_copyFrom_133 : decode cX1_copyFrom 133 = .ok (.getfield 52, 3) := by decide +kernel
theorem dX1_copyFrom_136 : decode cX1_copyFrom 136 = .ok (.invokestatic 70, 3) := by decide +kernel
theorem dX1_copyFrom_139 : decode cX1_copyFrom 139 = .ok (.aload_n 1, 1) := by decide +kernel
theorem dX1_copyFrom_140 : decode cX1_copyFrom 140 = .ok (.getfield 55, 3) := by decide +kernel
theorem dX1_copyFrom_143 : decode cX1_copyFrom 143 = .ok (.aload_n 0, 1) := by decide +kernel
theorem dX1_copyFrom_144 : decode cX1_copyFrom 144 = .ok (.getfield 55, 3) := by decide +kernel
theorem dX1_copyFrom_147 : decode cX1_copyFrom 147 = .ok (.invokestatic 70, 3) := by decide +kernel
theorem dX1_copyFrom_150 : decode cX1_copyFrom 150 = .ok (.aload_n 1, 1) := by decide +kernel
theorem dX1_copyFrom_151 : decode cX1_copyFrom 151 = .ok (.getfield 58, 3) := by decide +kernel
theorem dX1_copyFrom_154 : decode cX1_copyFrom 154 = .ok (.aload_n 0, 1) := by decide +kernel
theorem dX1_copyFrom_155 : decode cX1_copyFrom 155 = .ok (.getfield 58, 3) := by decide +kernel
theorem dX1_copyFrom_158 : decode cX1_copyFrom 158 = .ok (.invokestatic 70, 3) := by decide +kernel
theorem dX1_copyFrom_161 : decode cX1_copyFrom 161 = .ok (.aload_n 1, 1) := by decide +kernel
theorem dX1_copyFrom_162 : decode cX1_copyFrom 162 = .ok (.getfield 61, 3) := by decide +kernel
theorem dX1_copyFrom_165 : decode cX1_copyFrom 165 = .ok (.aload_n 0, 1) := by decide +kernel
theorem dX1_copyFrom_166 : decode cX1_copyFrom 166 = .ok (.getfield 61, 3) := by decide +kernel
theorem dX1_copyFrom_169 : decode cX1_copyFrom 169 = .ok (.invokestatic 70, 3) := by decide +kernel
theorem dX1_copyFrom_172 : decode cX1_copyFrom 172 = .ok (.aload_n 1, 1) := by decide +kernel
theorem dX1_copyFrom_173 : decode cX1_copyFrom 173 = .ok (.getfield 64, 3) := by decide +kernel
theorem dX1_copyFrom_176 : decode cX1_copyFrom 176 = .ok (.aload_n 0, 1) := by decide +kernel
theorem dX1_copyFrom_177 : decode cX1_copyFrom 177 = .ok (.getfield 64, 3) := by decide +kernel
theorem dX1_copyFrom_180 : decode cX1_copyFrom 180 = .ok (.invokestatic 70, 3) := by decide +kernel
theorem dX1_copyFrom_183 : decode cX1_copyFrom 183 = .ok (.aload_n 1, 1) := by decide +kernel
theorem dX1_copyFrom_184 : decode cX1_copyFrom 184 = .ok (.getfield 67, 3) := by decide +kernel
theorem dX1_copyFrom_187 : decode cX1_copyFrom 187 = .ok (.aload_n 0, 1) := by decide +kernel
theorem dX1_copyFrom_188 : decode cX1_copyFrom 188 = .ok (.getfield 67, 3) := by decide +kernel
theorem dX1_copyFrom_191 : decode cX1_copyFrom 191 = .ok (.invokestatic 70, 3) := by decide +kernel
theorem dX1_copyFrom_194 : decode cX1_copyFrom 194 = .ok (.return_, 1) := by decide +kernel
abbrev MFair_copyFrom : rx_M := (RX1, yX1_copyFrom, cX1_copyFrom, 2, none, 4)
theorem kFair_copyFrom : rKv MFair_copyFrom 1 := ⟨tb_in (i := 8) (j := 11) rfl rfl, tb_in (i := 8) (j := 12) rfl rfl, tb_in (i := 3) (j := 26) rfl rfl, tb_in (i := 3) (j := 27) rfl rfl, ⟨by decide, by decide, by decide +kernel⟩, by decide⟩
section
variable {a0 : Nat → Nat} {a1 : Nat → Nat} {z0_lasts : Int32} {z0_keeps : Int32} {z0_stalls : Int32} {z0_buyers : Int32} {z0_minute : Int32} {z0_goods : Nat → Int32} {z0_price : Nat → Int32} {z0_tongue : Nat → Int32} {z0_till : Nat → Int32} {z0_wealth : Nat → Int32} {z0_sold : Nat → Int32} {z0_ring : Nat → Int32} {z0_grudges : Nat → Int32} {z0_purse : Nat → Int32} {z0_came : Nat → Int32} {z0_had : Nat → Int32} {z0_seller : Nat → Int32} {z0_praise : Nat → Int32} {z0_borne : Nat → Int32} {z1_lasts : Int32} {z1_keeps : Int32} {z1_stalls : Int32} {z1_buyers : Int32} {z1_minute : Int32} {z1_goods : Nat → Int32} {z1_price : Nat → Int32} {z1_tongue : Nat → Int32} {z1_till : Nat → Int32} {z1_wealth : Nat → Int32} {z1_sold : Nat → Int32} {z1_ring : Nat → Int32} {z1_grudges : Nat → Int32} {z1_purse : Nat → Int32} {z1_came : Nat → Int32} {z1_had : Nat → Int32} {z1_seller : Nat → Int32} {z1_praise : Nat → Int32} {z1_borne : Nat → Int32}
def mFair_copyFrom (z0_lasts : Int32) (z0_keeps : Int32) (z0_stalls : Int32) (z0_buyers : Int32) (z0_minute : Int32) (z0_goods : Nat → Int32) (z0_price : Nat → Int32) (z0_tongue : Nat → Int32) (z0_till : Nat → Int32) (z0_wealth : Nat → Int32) (z0_sold : Nat → Int32) (z0_ring : Nat → Int32) (z0_grudges : Nat → Int32) (z0_purse : Nat → Int32) (z0_came : Nat → Int32) (z0_had : Nat → Int32) (z0_seller : Nat → Int32) (z0_praise : Nat → Int32) (z0_borne : Nat → Int32) (z1_lasts : Int32) (z1_keeps : Int32) (z1_stalls : Int32) (z1_buyers : Int32) (z1_minute : Int32) (z1_goods : Nat → Int32) (z1_price : Nat → Int32) (z1_tongue : Nat → Int32) (z1_till : Nat → Int32) (z1_wealth : Nat → Int32) (z1_sold : Nat → Int32) (z1_ring : Nat → Int32) (z1_grudges : Nat → Int32) (z1_purse : Nat → Int32) (z1_came : Nat → Int32) (z1_had : Nat → Int32) (z1_seller : Nat → Int32) (z1_praise : Nat → Int32) (z1_borne : Nat → Int32) : Option (Int32 × Int32 × Int32 × Int32 × Int32 × (Nat → Int32) × (Nat → Int32) × (Nat → Int32) × (Nat → Int32) × (Nat → Int32) × (Nat → Int32) × (Nat → Int32) × (Nat → Int32) × (Nat → Int32) × (Nat → Int32) × (Nat → Int32) × (Nat → Int32) × (Nat → Int32) × (Nat → Int32)) := (mFair_copyRow_goods_goods z1_goods z0_goods).bind (fun q1 => (mFair_copyRow_price_price z1_price z0_price).bind (fun q2 => (mFair_copyRow_tongue_tongue z1_tongue z0_tongue).bind (fun q3 => (mFair_copyRow_till_till z1_till z0_till).bind (fun q4 => (mFair_copyRow_wealth_wealth z1_wealth z0_wealth).bind (fun q5 => (mFair_copyRow_sold_sold z1_sold z0_sold).bind (fun q6 => (mFair_copyRow_ring_ring z1_ring z0_ring).bind (fun q7 => (mFair_copyRow_grudges_grudges z1_grudges z0_grudges).bind (fun q8 => (mFair_copyRow_purse_purse z1_purse z0_purse).bind (fun q9 => (mFair_copyRow_came_came z1_came z0_came).bind (fun q10 => (mFair_copyRow_had_had z1_had z0_had).bind (fun q11 => (mFair_copyRow_seller_seller z1_seller z0_seller).bind (fun q12 => (mFair_copyRow_praise_praise z1_praise z0_praise).bind (fun q13 => (mFair_copyRow_borne_borne z1_borne z0_borne).bind (fun q14 => some (z1_lasts, z1_keeps, z1_stalls, z1_buyers, z1_minute, q1, q2, q3, q4, q5, q6, q7, q8, q9, q10, q11, q12, q13, q14)))))))))))))))
set_option maxHeartbeats 4000000 in
set_option maxRecDepth 20000 in
theorem cFair_copyFrom {q : Int32 × Int32 × Int32 × Int32 × Int32 × (Nat → Int32) × (Nat → Int32) × (Nat → Int32) × (Nat → Int32) × (Nat → Int32) × (Nat → Int32) × (Nat → Int32) × (Nat → Int32) × (Nat → Int32) × (Nat → Int32) × (Nat → Int32) × (Nat → Int32) × (Nat → Int32) × (Nat → Int32)}  (h : mFair_copyFrom z0_lasts z0_keeps z0_stalls z0_buyers z0_minute z0_goods z0_price z0_tongue z0_till z0_wealth z0_sold z0_ring z0_grudges z0_purse z0_came z0_had z0_seller z0_praise z0_borne z1_lasts z1_keeps z1_stalls z1_buyers z1_minute z1_goods z1_price z1_tongue z1_till z1_wealth z1_sold z1_ring z1_grudges z1_purse z1_came z1_had z1_seller z1_praise z1_borne = some q) : rMet l D Z (ty7 K) MFair_copyFrom [.ref (a0 0), .ref (a1 0)] (List.flatten [bFair K a0 z0_lasts z0_keeps z0_stalls z0_buyers z0_minute z0_goods z0_price z0_tongue z0_till z0_wealth z0_sold z0_ring z0_grudges z0_purse z0_came z0_had z0_seller z0_praise z0_borne, bFair K a1 z1_lasts z1_keeps z1_stalls z1_buyers z1_minute z1_goods z1_price z1_tongue z1_till z1_wealth z1_sold z1_ring z1_grudges z1_purse z1_came z1_had z1_seller z1_praise z1_borne]) (List.flatten [bFairG K a0 q, bFair K a1 z1_lasts z1_keeps z1_stalls z1_buyers z1_minute z1_goods z1_price z1_tongue z1_till z1_wealth z1_sold z1_ring z1_grudges z1_purse z1_came z1_had z1_seller z1_praise z1_borne]) none := by
  refine rMet.of (by decide) rfl (Nat.le_of_ble_eq_true rfl) ?_
  refine r_sub (lv' := [(0, .ref (a0 0)), (1, .ref (a1 0))]) [0, 1] rfl ?_
  unfold mFair_copyFrom at h
  refine r_aload_n 0 dX1_copyFrom_0 rfl ?_
  refine r_aload_n 1 dX1_copyFrom_1 rfl ?_
  refine gFair_lasts 1 rfl (tb_in (i := 2) (j := 29) rfl rfl) dX1_copyFrom_2 ?_
  refine pFair_lasts (bs1 := [bFair K a0 z1_lasts z0_keeps z0_stalls z0_buyers z0_minute z0_goods z0_price z0_tongue z0_till z0_wealth z0_sold z0_ring z0_grudges z0_purse z0_came z0_had z0_seller z0_praise z0_borne, bFair K a1 z1_lasts z1_keeps z1_stalls z1_buyers z1_minute z1_goods z1_price z1_tongue z1_till z1_wealth z1_sold z1_ring z1_grudges z1_purse z1_came z1_had z1_seller z1_praise z1_borne]) 0 rfl rfl (tb_in (i := 2) (j := 29) rfl rfl) dX1_copyFrom_5 ?_
  refine r_aload_n 0 dX1_copyFrom_8 rfl ?_
  refine r_aload_n 1 dX1_copyFrom_9 rfl ?_
  refine gFair_keeps 1 rfl (tb_in (i := 2) (j := 30) rfl rfl) dX1_copyFrom_10 ?_
  refine pFair_keeps (bs1 := [bFair K a0 z1_lasts z1_keeps z0_stalls z0_buyers z0_minute z0_goods z0_price z0_tongue z0_till z0_wealth z0_sold z0_ring z0_grudges z0_purse z0_came z0_had z0_seller z0_praise z0_borne, bFair K a1 z1_lasts z1_keeps z1_stalls z1_buyers z1_minute z1_goods z1_price z1_tongue z1_till z1_wealth z1_sold z1_ring z1_grudges z1_purse z1_came z1_had z1_seller z1_praise z1_borne]) 0 rfl rfl (tb_in (i := 2) (j := 30) rfl rfl) dX1_copyFrom_13 ?_
  refine r_aload_n 0 dX1_copyFrom_16 rfl ?_
  refine r_aload_n 1 dX1_copyFrom_17 rfl ?_
  refine gFair_stalls 1 rfl (tb_in (i := 2) (j := 31) rfl rfl) dX1_copyFrom_18 ?_
  refine pFair_stalls (bs1 := [bFair K a0 z1_lasts z1_keeps z1_stalls z0_buyers z0_minute z0_goods z0_price z0_tongue z0_till z0_wealth z0_sold z0_ring z0_grudges z0_purse z0_came z0_had z0_seller z0_praise z0_borne, bFair K a1 z1_lasts z1_keeps z1_stalls z1_buyers z1_minute z1_goods z1_price z1_tongue z1_till z1_wealth z1_sold z1_ring z1_grudges z1_purse z1_came z1_had z1_seller z1_praise z1_borne]) 0 rfl rfl (tb_in (i := 2) (j := 31) rfl rfl) dX1_copyFrom_21 ?_
  refine r_aload_n 0 dX1_copyFrom_24 rfl ?_
  refine r_aload_n 1 dX1_copyFrom_25 rfl ?_
  refine gFair_buyers 1 rfl (tb_in (i := 3) (j := 0) rfl rfl) dX1_copyFrom_26 ?_
  refine pFair_buyers (bs1 := [bFair K a0 z1_lasts z1_keeps z1_stalls z1_buyers z0_minute z0_goods z0_price z0_tongue z0_till z0_wealth z0_sold z0_ring z0_grudges z0_purse z0_came z0_had z0_seller z0_praise z0_borne, bFair K a1 z1_lasts z1_keeps z1_stalls z1_buyers z1_minute z1_goods z1_price z1_tongue z1_till z1_wealth z1_sold z1_ring z1_grudges z1_purse z1_came z1_had z1_seller z1_praise z1_borne]) 0 rfl rfl (tb_in (i := 3) (j := 0) rfl rfl) dX1_copyFrom_29 ?_
  refine r_aload_n 0 dX1_copyFrom_32 rfl ?_
  refine r_aload_n 1 dX1_copyFrom_33 rfl ?_
  refine gFair_minute 1 rfl (tb_in (i := 3) (j := 1) rfl rfl) dX1_copyFrom_34 ?_
  refine pFair_minute (bs1 := [bFair K a0 z1_lasts z1_keeps z1_stalls z1_buyers z1_minute z0_goods z0_price z0_tongue z0_till z0_wealth z0_sold z0_ring z0_grudges z0_purse z0_came z0_had z0_seller z0_praise z0_borne, bFair K a1 z1_lasts z1_keeps z1_stalls z1_buyers z1_minute z1_goods z1_price z1_tongue z1_till z1_wealth z1_sold z1_ring z1_grudges z1_purse z1_came z1_had z1_seller z1_praise z1_borne]) 0 rfl rfl (tb_in (i := 3) (j := 1) rfl rfl) dX1_copyFrom_37 ?_
  refine r_aload_n 1 dX1_copyFrom_40 rfl ?_
  refine gFair_goods 1 rfl (tb_in (i := 3) (j := 3) rfl rfl) dX1_copyFrom_41 ?_
  refine r_aload_n 0 dX1_copyFrom_44 rfl ?_
  refine gFair_goods 0 rfl (tb_in (i := 3) (j := 3) rfl rfl) dX1_copyFrom_45 ?_
  obtain ⟨q1, h1, h⟩ := bd_some h
  refine b_callS (isC := [1, 0]) (st := []) (bs1 := [bFair K a0 z1_lasts z1_keeps z1_stalls z1_buyers z1_minute q1 z0_price z0_tongue z0_till z0_wealth z0_sold z0_ring z0_grudges z0_purse z0_came z0_had z0_seller z0_praise z0_borne, bFair K a1 z1_lasts z1_keeps z1_stalls z1_buyers z1_minute z1_goods z1_price z1_tongue z1_till z1_wealth z1_sold z1_ring z1_grudges z1_purse z1_came z1_had z1_seller z1_praise z1_borne]) (cFair_copyRow_goods_goods (a0 := a1) (a1 := a0) (z0_lasts := z1_lasts) (z0_keeps := z1_keeps) (z0_stalls := z1_stalls) (z0_buyers := z1_buyers) (z0_minute := z1_minute) (z0_goods := z1_goods) (z0_price := z1_price) (z0_tongue := z1_tongue) (z0_till := z1_till) (z0_wealth := z1_wealth) (z0_sold := z1_sold) (z0_ring := z1_ring) (z0_grudges := z1_grudges) (z0_purse := z1_purse) (z0_came := z1_came) (z0_had := z1_had) (z0_seller := z1_seller) (z0_praise := z1_praise) (z0_borne := z1_borne) (z1_lasts := z1_lasts) (z1_keeps := z1_keeps) (z1_stalls := z1_stalls) (z1_buyers := z1_buyers) (z1_minute := z1_minute) (z1_goods := z0_goods) (z1_price := z0_price) (z1_tongue := z0_tongue) (z1_till := z0_till) (z1_wealth := z0_wealth) (z1_sold := z0_sold) (z1_ring := z0_ring) (z1_grudges := z0_grudges) (z1_purse := z0_purse) (z1_came := z0_came) (z1_had := z0_had) (z1_seller := z0_seller) (z1_praise := z0_praise) (z1_borne := z0_borne) h1) rfl rfl (Nat.le_of_ble_eq_true rfl) kFair_copyRow_goods_goods (tb_in (i := 3) (j := 24) rfl rfl) (by decide) (by decide) rfl rfl rfl dX1_copyFrom_48 ?_
  refine r_aload_n 1 dX1_copyFrom_51 rfl ?_
  refine gFair_price 1 rfl (tb_in (i := 3) (j := 4) rfl rfl) dX1_copyFrom_52 ?_
  refine r_aload_n 0 dX1_copyFrom_55 rfl ?_
  refine gFair_price 0 rfl (tb_in (i := 3) (j := 4) rfl rfl) dX1_copyFrom_56 ?_
  obtain ⟨q2, h2, h⟩ := bd_some h
  refine b_callS (isC := [1, 0]) (st := []) (bs1 := [bFair K a0 z1_lasts z1_keeps z1_stalls z1_buyers z1_minute q1 q2 z0_tongue z0_till z0_wealth z0_sold z0_ring z0_grudges z0_purse z0_came z0_had z0_seller z0_praise z0_borne, bFair K a1 z1_lasts z1_keeps z1_stalls z1_buyers z1_minute z1_goods z1_price z1_tongue z1_till z1_wealth z1_sold z1_ring z1_grudges z1_purse z1_came z1_had z1_seller z1_praise z1_borne]) (cFair_copyRow_price_price (a0 := a1) (a1 := a0) (z0_lasts := z1_lasts) (z0_keeps := z1_keeps) (z0_stalls := z1_stalls) (z0_buyers := z1_buyers) (z0_minute := z1_minute) (z0_goods := z1_goods) (z0_price := z1_price) (z0_tongue := z1_tongue) (z0_till := z1_till) (z0_wealth := z1_wealth) (z0_sold := z1_sold) (z0_ring := z1_ring) (z0_grudges := z1_grudges) (z0_purse := z1_purse) (z0_came := z1_came) (z0_had := z1_had) (z0_seller := z1_seller) (z0_praise := z1_praise) (z0_borne := z1_borne) (z1_lasts := z1_lasts) (z1_keeps := z1_keeps) (z1_stalls := z1_stalls) (z1_buyers := z1_buyers) (z1_minute := z1_minute) (z1_goods := q1) (z1_price := z0_price) (z1_tongue := z0_tongue) (z1_till := z0_till) (z1_wealth := z0_wealth) (z1_sold := z0_sold) (z1_ring := z0_ring) (z1_grudges := z0_grudges) (z1_purse := z0_purse) (z1_came := z0_came) (z1_had := z0_had) (z1_seller := z0_seller) (z1_praise := z0_praise) (z1_borne := z0_borne) h2) rfl rfl (Nat.le_of_ble_eq_true rfl) kFair_copyRow_price_price (tb_in (i := 3) (j := 24) rfl rfl) (by decide) (by decide) rfl rfl rfl dX1_copyFrom_59 ?_
  refine r_aload_n 1 dX1_copyFrom_62 rfl ?_
  refine gFair_tongue 1 rfl (tb_in (i := 3) (j := 5) rfl rfl) dX1_copyFrom_63 ?_
  refine r_aload_n 0 dX1_copyFrom_66 rfl ?_
  refine gFair_tongue 0 rfl (tb_in (i := 3) (j := 5) rfl rfl) dX1_copyFrom_67 ?_
  obtain ⟨q3, h3, h⟩ := bd_some h
  refine b_callS (isC := [1, 0]) (st := []) (bs1 := [bFair K a0 z1_lasts z1_keeps z1_stalls z1_buyers z1_minute q1 q2 q3 z0_till z0_wealth z0_sold z0_ring z0_grudges z0_purse z0_came z0_had z0_seller z0_praise z0_borne, bFair K a1 z1_lasts z1_keeps z1_stalls z1_buyers z1_minute z1_goods z1_price z1_tongue z1_till z1_wealth z1_sold z1_ring z1_grudges z1_purse z1_came z1_had z1_seller z1_praise z1_borne]) (cFair_copyRow_tongue_tongue (a0 := a1) (a1 := a0) (z0_lasts := z1_lasts) (z0_keeps := z1_keeps) (z0_stalls := z1_stalls) (z0_buyers := z1_buyers) (z0_minute := z1_minute) (z0_goods := z1_goods) (z0_price := z1_price) (z0_tongue := z1_tongue) (z0_till := z1_till) (z0_wealth := z1_wealth) (z0_sold := z1_sold) (z0_ring := z1_ring) (z0_grudges := z1_grudges) (z0_purse := z1_purse) (z0_came := z1_came) (z0_had := z1_had) (z0_seller := z1_seller) (z0_praise := z1_praise) (z0_borne := z1_borne) (z1_lasts := z1_lasts) (z1_keeps := z1_keeps) (z1_stalls := z1_stalls) (z1_buyers := z1_buyers) (z1_minute := z1_minute) (z1_goods := q1) (z1_price := q2) (z1_tongue := z0_tongue) (z1_till := z0_till) (z1_wealth := z0_wealth) (z1_sold := z0_sold) (z1_ring := z0_ring) (z1_grudges := z0_grudges) (z1_purse := z0_purse) (z1_came := z0_came) (z1_had := z0_had) (z1_seller := z0_seller) (z1_praise := z0_praise) (z1_borne := z0_borne) h3) rfl rfl (Nat.le_of_ble_eq_true rfl) kFair_copyRow_tongue_tongue (tb_in (i := 3) (j := 24) rfl rfl) (by decide) (by decide) rfl rfl rfl dX1_copyFrom_70 ?_
  refine r_aload_n 1 dX1_copyFrom_73 rfl ?_
  refine gFair_till 1 rfl (tb_in (i := 3) (j := 6) rfl rfl) dX1_copyFrom_74 ?_
  refine r_aload_n 0 dX1_copyFrom_77 rfl ?_
  refine gFair_till 0 rfl (tb_in (i := 3) (j := 6) rfl rfl) dX1_copyFrom_78 ?_
  obtain ⟨q4, h4, h⟩ := bd_some h
  refine b_callS (isC := [1, 0]) (st := []) (bs1 := [bFair K a0 z1_lasts z1_keeps z1_stalls z1_buyers z1_minute q1 q2 q3 q4 z0_wealth z0_sold z0_ring z0_grudges z0_purse z0_came z0_had z0_seller z0_praise z0_borne, bFair K a1 z1_lasts z1_keeps z1_stalls z1_buyers z1_minute z1_goods z1_price z1_tongue z1_till z1_wealth z1_sold z1_ring z1_grudges z1_purse z1_came z1_had z1_seller z1_praise z1_borne]) (cFair_copyRow_till_till (a0 := a1) (a1 := a0) (z0_lasts := z1_lasts) (z0_keeps := z1_keeps) (z0_stalls := z1_stalls) (z0_buyers := z1_buyers) (z0_minute := z1_minute) (z0_goods := z1_goods) (z0_price := z1_price) (z0_tongue := z1_tongue) (z0_till := z1_till) (z0_wealth := z1_wealth) (z0_sold := z1_sold) (z0_ring := z1_ring) (z0_grudges := z1_grudges) (z0_purse := z1_purse) (z0_came := z1_came) (z0_had := z1_had) (z0_seller := z1_seller) (z0_praise := z1_praise) (z0_borne := z1_borne) (z1_lasts := z1_lasts) (z1_keeps := z1_keeps) (z1_stalls := z1_stalls) (z1_buyers := z1_buyers) (z1_minute := z1_minute) (z1_goods := q1) (z1_price := q2) (z1_tongue := q3) (z1_till := z0_till) (z1_wealth := z0_wealth) (z1_sold := z0_sold) (z1_ring := z0_ring) (z1_grudges := z0_grudges) (z1_purse := z0_purse) (z1_came := z0_came) (z1_had := z0_had) (z1_seller := z0_seller) (z1_praise := z0_praise) (z1_borne := z0_borne) h4) rfl rfl (Nat.le_of_ble_eq_true rfl) kFair_copyRow_till_till (tb_in (i := 3) (j := 24) rfl rfl) (by decide) (by decide) rfl rfl rfl dX1_copyFrom_81 ?_
  refine r_aload_n 1 dX1_copyFrom_84 rfl ?_
  refine gFair_wealth 1 rfl (tb_in (i := 3) (j := 7) rfl rfl) dX1_copyFrom_85 ?_
  refine r_aload_n 0 dX1_copyFrom_88 rfl ?_
  refine gFair_wealth 0 rfl (tb_in (i := 3) (j := 7) rfl rfl) dX1_copyFrom_89 ?_
  obtain ⟨q5, h5, h⟩ := bd_some h
  refine b_callS (isC := [1, 0]) (st := []) (bs1 := [bFair K a0 z1_lasts z1_keeps z1_stalls z1_buyers z1_minute q1 q2 q3 q4 q5 z0_sold z0_ring z0_grudges z0_purse z0_came z0_had z0_seller z0_praise z0_borne, bFair K a1 z1_lasts z1_keeps z1_stalls z1_buyers z1_minute z1_goods z1_price z1_tongue z1_till z1_wealth z1_sold z1_ring z1_grudges z1_purse z1_came z1_had z1_seller z1_praise z1_borne]) (cFair_copyRow_wealth_wealth (a0 := a1) (a1 := a0) (z0_lasts := z1_lasts) (z0_keeps := z1_keeps) (z0_stalls := z1_stalls) (z0_buyers := z1_buyers) (z0_minute := z1_minute) (z0_goods := z1_goods) (z0_price := z1_price) (z0_tongue := z1_tongue) (z0_till := z1_till) (z0_wealth := z1_wealth) (z0_sold := z1_sold) (z0_ring := z1_ring) (z0_grudges := z1_grudges) (z0_purse := z1_purse) (z0_came := z1_came) (z0_had := z1_had) (z0_seller := z1_seller) (z0_praise := z1_praise) (z0_borne := z1_borne) (z1_lasts := z1_lasts) (z1_keeps := z1_keeps) (z1_stalls := z1_stalls) (z1_buyers := z1_buyers) (z1_minute := z1_minute) (z1_goods := q1) (z1_price := q2) (z1_tongue := q3) (z1_till := q4) (z1_wealth := z0_wealth) (z1_sold := z0_sold) (z1_ring := z0_ring) (z1_grudges := z0_grudges) (z1_purse := z0_purse) (z1_came := z0_came) (z1_had := z0_had) (z1_seller := z0_seller) (z1_praise := z0_praise) (z1_borne := z0_borne) h5) rfl rfl (Nat.le_of_ble_eq_true rfl) kFair_copyRow_wealth_wealth (tb_in (i := 3) (j := 24) rfl rfl) (by decide) (by decide) rfl rfl rfl dX1_copyFrom_92 ?_
  refine r_aload_n 1 dX1_copyFrom_95 rfl ?_
  refine gFair_sold 1 rfl (tb_in (i := 3) (j := 8) rfl rfl) dX1_copyFrom_96 ?_
  refine r_aload_n 0 dX1_copyFrom_99 rfl ?_
  refine gFair_sold 0 rfl (tb_in (i := 3) (j := 8) rfl rfl) dX1_copyFrom_100 ?_
  obtain ⟨q6, h6, h⟩ := bd_some h
  refine b_callS (isC := [1, 0]) (st := []) (bs1 := [bFair K a0 z1_lasts z1_keeps z1_stalls z1_buyers z1_minute q1 q2 q3 q4 q5 q6 z0_ring z0_grudges z0_purse z0_came z0_had z0_seller z0_praise z0_borne, bFair K a1 z1_lasts z1_keeps z1_stalls z1_buyers z1_minute z1_goods z1_price z1_tongue z1_till z1_wealth z1_sold z1_ring z1_grudges z1_purse z1_came z1_had z1_seller z1_praise z1_borne]) (cFair_copyRow_sold_sold (a0 := a1) (a1 := a0) (z0_lasts := z1_lasts) (z0_keeps := z1_keeps) (z0_stalls := z1_stalls) (z0_buyers := z1_buyers) (z0_minute := z1_minute) (z0_goods := z1_goods) (z0_price := z1_price) (z0_tongue := z1_tongue) (z0_till := z1_till) (z0_wealth := z1_wealth) (z0_sold := z1_sold) (z0_ring := z1_ring) (z0_grudges := z1_grudges) (z0_purse := z1_purse) (z0_came := z1_came) (z0_had := z1_had) (z0_seller := z1_seller) (z0_praise := z1_praise) (z0_borne := z1_borne) (z1_lasts := z1_lasts) (z1_keeps := z1_keeps) (z1_stalls := z1_stalls) (z1_buyers := z1_buyers) (z1_minute := z1_minute) (z1_goods := q1) (z1_price := q2) (z1_tongue := q3) (z1_till := q4) (z1_wealth := q5) (z1_sold := z0_sold) (z1_ring := z0_ring) (z1_grudges := z0_grudges) (z1_purse := z0_purse) (z1_came := z0_came) (z1_had := z0_had) (z1_seller := z0_seller) (z1_praise := z0_praise) (z1_borne := z0_borne) h6) rfl rfl (Nat.le_of_ble_eq_true rfl) kFair_copyRow_sold_sold (tb_in (i := 3) (j := 24) rfl rfl) (by decide) (by decide) rfl rfl rfl dX1_copyFrom_103 ?_
  refine r_aload_n 1 dX1_copyFrom_106 rfl ?_
  refine gFair_ring 1 rfl (tb_in (i := 3) (j := 9) rfl rfl) dX1_copyFrom_107 ?_
  refine r_aload_n 0 dX1_copyFrom_110 rfl ?_
  refine gFair_ring 0 rfl (tb_in (i := 3) (j := 9) rfl rfl) dX1_copyFrom_111 ?_
  obtain ⟨q7, h7, h⟩ := bd_some h
  refine b_callS (isC := [1, 0]) (st := []) (bs1 := [bFair K a0 z1_lasts z1_keeps z1_stalls z1_buyers z1_minute q1 q2 q3 q4 q5 q6 q7 z0_grudges z0_purse z0_came z0_had z0_seller z0_praise z0_borne, bFair K a1 z1_lasts z1_keeps z1_stalls z1_buyers z1_minute z1_goods z1_price z1_tongue z1_till z1_wealth z1_sold z1_ring z1_grudges z1_purse z1_came z1_had z1_seller z1_praise z1_borne]) (cFair_copyRow_ring_ring (a0 := a1) (a1 := a0) (z0_lasts := z1_lasts) (z0_keeps := z1_keeps) (z0_stalls := z1_stalls) (z0_buyers := z1_buyers) (z0_minute := z1_minute) (z0_goods := z1_goods) (z0_price := z1_price) (z0_tongue := z1_tongue) (z0_till := z1_till) (z0_wealth := z1_wealth) (z0_sold := z1_sold) (z0_ring := z1_ring) (z0_grudges := z1_grudges) (z0_purse := z1_purse) (z0_came := z1_came) (z0_had := z1_had) (z0_seller := z1_seller) (z0_praise := z1_praise) (z0_borne := z1_borne) (z1_lasts := z1_lasts) (z1_keeps := z1_keeps) (z1_stalls := z1_stalls) (z1_buyers := z1_buyers) (z1_minute := z1_minute) (z1_goods := q1) (z1_price := q2) (z1_tongue := q3) (z1_till := q4) (z1_wealth := q5) (z1_sold := q6) (z1_ring := z0_ring) (z1_grudges := z0_grudges) (z1_purse := z0_purse) (z1_came := z0_came) (z1_had := z0_had) (z1_seller := z0_seller) (z1_praise := z0_praise) (z1_borne := z0_borne) h7) rfl rfl (Nat.le_of_ble_eq_true rfl) kFair_copyRow_ring_ring (tb_in (i := 3) (j := 24) rfl rfl) (by decide) (by decide) rfl rfl rfl dX1_copyFrom_114 ?_
  refine r_aload_n 1 dX1_copyFrom_117 rfl ?_
  refine gFair_grudges 1 rfl (tb_in (i := 3) (j := 10) rfl rfl) dX1_copyFrom_118 ?_
  refine r_aload_n 0 dX1_copyFrom_121 rfl ?_
  refine gFair_grudges 0 rfl (tb_in (i := 3) (j := 10) rfl rfl) dX1_copyFrom_122 ?_
  obtain ⟨q8, h8, h⟩ := bd_some h
  refine b_callS (isC := [1, 0]) (st := []) (bs1 := [bFair K a0 z1_lasts z1_keeps z1_stalls z1_buyers z1_minute q1 q2 q3 q4 q5 q6 q7 q8 z0_purse z0_came z0_had z0_seller z0_praise z0_borne, bFair K a1 z1_lasts z1_keeps z1_stalls z1_buyers z1_minute z1_goods z1_price z1_tongue z1_till z1_wealth z1_sold z1_ring z1_grudges z1_purse z1_came z1_had z1_seller z1_praise z1_borne]) (cFair_copyRow_grudges_grudges (a0 := a1) (a1 := a0) (z0_lasts := z1_lasts) (z0_keeps := z1_keeps) (z0_stalls := z1_stalls) (z0_buyers := z1_buyers) (z0_minute := z1_minute) (z0_goods := z1_goods) (z0_price := z1_price) (z0_tongue := z1_tongue) (z0_till := z1_till) (z0_wealth := z1_wealth) (z0_sold := z1_sold) (z0_ring := z1_ring) (z0_grudges := z1_grudges) (z0_purse := z1_purse) (z0_came := z1_came) (z0_had := z1_had) (z0_seller := z1_seller) (z0_praise := z1_praise) (z0_borne := z1_borne) (z1_lasts := z1_lasts) (z1_keeps := z1_keeps) (z1_stalls := z1_stalls) (z1_buyers := z1_buyers) (z1_minute := z1_minute) (z1_goods := q1) (z1_price := q2) (z1_tongue := q3) (z1_till := q4) (z1_wealth := q5) (z1_sold := q6) (z1_ring := q7) (z1_grudges := z0_grudges) (z1_purse := z0_purse) (z1_came := z0_came) (z1_had := z0_had) (z1_seller := z0_seller) (z1_praise := z0_praise) (z1_borne := z0_borne) h8) rfl rfl (Nat.le_of_ble_eq_true rfl) kFair_copyRow_grudges_grudges (tb_in (i := 3) (j := 24) rfl rfl) (by decide) (by decide) rfl rfl rfl dX1_copyFrom_125 ?_
  refine r_aload_n 1 dX1_copyFrom_128 rfl ?_
  refine gFair_purse 1 rfl (tb_in (i := 3) (j := 11) rfl rfl) dX1_copyFrom_129 ?_
  refine r_aload_n 0 dX1_copyFrom_132 rfl ?_
  refine gFair_purse 0 rfl (tb_in (i := 3) (j := 11) rfl rfl) dX1_copyFrom_133 ?_
  obtain ⟨q9, h9, h⟩ := bd_some h
  refine b_callS (isC := [1, 0]) (st := []) (bs1 := [bFair K a0 z1_lasts z1_keeps z1_stalls z1_buyers z1_minute q1 q2 q3 q4 q5 q6 q7 q8 q9 z0_came z0_had z0_seller z0_praise z0_borne, bFair K a1 z1_lasts z1_keeps z1_stalls z1_buyers z1_minute z1_goods z1_price z1_tongue z1_till z1_wealth z1_sold z1_ring z1_grudges z1_purse z1_came z1_had z1_seller z1_praise z1_borne]) (cFair_copyRow_purse_purse (a0 := a1) (a1 := a0) (z0_lasts := z1_lasts) (z0_keeps := z1_keeps) (z0_stalls := z1_stalls) (z0_buyers := z1_buyers) (z0_minute := z1_minute) (z0_goods := z1_goods) (z0_price := z1_price) (z0_tongue := z1_tongue) (z0_till := z1_till) (z0_wealth := z1_wealth) (z0_sold := z1_sold) (z0_ring := z1_ring) (z0_grudges := z1_grudges) (z0_purse := z1_purse) (z0_came := z1_came) (z0_had := z1_had) (z0_seller := z1_seller) (z0_praise := z1_praise) (z0_borne := z1_borne) (z1_lasts := z1_lasts) (z1_keeps := z1_keeps) (z1_stalls := z1_stalls) (z1_buyers := z1_buyers) (z1_minute := z1_minute) (z1_goods := q1) (z1_price := q2) (z1_tongue := q3) (z1_till := q4) (z1_wealth := q5) (z1_sold := q6) (z1_ring := q7) (z1_grudges := q8) (z1_purse := z0_purse) (z1_came := z0_came) (z1_had := z0_had) (z1_seller := z0_seller) (z1_praise := z0_praise) (z1_borne := z0_borne) h9) rfl rfl (Nat.le_of_ble_eq_true rfl) kFair_copyRow_purse_purse (tb_in (i := 3) (j := 24) rfl rfl) (by decide) (by decide) rfl rfl rfl dX1_copyFrom_136 ?_
  refine r_aload_n 1 dX1_copyFrom_139 rfl ?_
  refine gFair_came 1 rfl (tb_in (i := 3) (j := 12) rfl rfl) dX1_copyFrom_140 ?_
  refine r_aload_n 0 dX1_copyFrom_143 rfl ?_
  refine gFair_came 0 rfl (tb_in (i := 3) (j := 12) rfl rfl) dX1_copyFrom_144 ?_
  obtain ⟨q10, h10, h⟩ := bd_some h
  refine b_callS (isC := [1, 0]) (st := []) (bs1 := [bFair K a0 z1_lasts z1_keeps z1_stalls z1_buyers z1_minute q1 q2 q3 q4 q5 q6 q7 q8 q9 q10 z0_had z0_seller z0_praise z0_borne, bFair K a1 z1_lasts z1_keeps z1_stalls z1_buyers z1_minute z1_goods z1_price z1_tongue z1_till z1_wealth z1_sold z1_ring z1_grudges z1_purse z1_came z1_had z1_seller z1_praise z1_borne]) (cFair_copyRow_came_came (a0 := a1) (a1 := a0) (z0_lasts := z1_lasts) (z0_keeps := z1_keeps) (z0_stalls := z1_stalls) (z0_buyers := z1_buyers) (z0_minute := z1_minute) (z0_goods := z1_goods) (z0_price := z1_price) (z0_tongue := z1_tongue) (z0_till := z1_till) (z0_wealth := z1_wealth) (z0_sold := z1_sold) (z0_ring := z1_ring) (z0_grudges := z1_grudges) (z0_purse := z1_purse) (z0_came := z1_came) (z0_had := z1_had) (z0_seller := z1_seller) (z0_praise := z1_praise) (z0_borne := z1_borne) (z1_lasts := z1_lasts) (z1_keeps := z1_keeps) (z1_stalls := z1_stalls) (z1_buyers := z1_buyers) (z1_minute := z1_minute) (z1_goods := q1) (z1_price := q2) (z1_tongue := q3) (z1_till := q4) (z1_wealth := q5) (z1_sold := q6) (z1_ring := q7) (z1_grudges := q8) (z1_purse := q9) (z1_came := z0_came) (z1_had := z0_had) (z1_seller := z0_seller) (z1_praise := z0_praise) (z1_borne := z0_borne) h10) rfl rfl (Nat.le_of_ble_eq_true rfl) kFair_copyRow_came_came (tb_in (i := 3) (j := 24) rfl rfl) (by decide) (by decide) rfl rfl rfl dX1_copyFrom_147 ?_
  refine r_aload_n 1 dX1_copyFrom_150 rfl ?_
  refine gFair_had 1 rfl (tb_in (i := 3) (j := 13) rfl rfl) dX1_copyFrom_151 ?_
  refine r_aload_n 0 dX1_copyFrom_154 rfl ?_
  refine gFair_had 0 rfl (tb_in (i := 3) (j := 13) rfl rfl) dX1_copyFrom_155 ?_
  obtain ⟨q11, h11, h⟩ := bd_some h
  refine b_callS (isC := [1, 0]) (st := []) (bs1 := [bFair K a0 z1_lasts z1_keeps z1_stalls z1_buyers z1_minute q1 q2 q3 q4 q5 q6 q7 q8 q9 q10 q11 z0_seller z0_praise z0_borne, bFair K a1 z1_lasts z1_keeps z1_stalls z1_buyers z1_minute z1_goods z1_price z1_tongue z1_till z1_wealth z1_sold z1_ring z1_grudges z1_purse z1_came z1_had z1_seller z1_praise z1_borne]) (cFair_copyRow_had_had (a0 := a1) (a1 := a0) (z0_lasts := z1_lasts) (z0_keeps := z1_keeps) (z0_stalls := z1_stalls) (z0_buyers := z1_buyers) (z0_minute := z1_minute) (z0_goods := z1_goods) (z0_price := z1_price) (z0_tongue := z1_tongue) (z0_till := z1_till) (z0_wealth := z1_wealth) (z0_sold := z1_sold) (z0_ring := z1_ring) (z0_grudges := z1_grudges) (z0_purse := z1_purse) (z0_came := z1_came) (z0_had := z1_had) (z0_seller := z1_seller) (z0_praise := z1_praise) (z0_borne := z1_borne) (z1_lasts := z1_lasts) (z1_keeps := z1_keeps) (z1_stalls := z1_stalls) (z1_buyers := z1_buyers) (z1_minute := z1_minute) (z1_goods := q1) (z1_price := q2) (z1_tongue := q3) (z1_till := q4) (z1_wealth := q5) (z1_sold := q6) (z1_ring := q7) (z1_grudges := q8) (z1_purse := q9) (z1_came := q10) (z1_had := z0_had) (z1_seller := z0_seller) (z1_praise := z0_praise) (z1_borne := z0_borne) h11) rfl rfl (Nat.le_of_ble_eq_true rfl) kFair_copyRow_had_had (tb_in (i := 3) (j := 24) rfl rfl) (by decide) (by decide) rfl rfl rfl dX1_copyFrom_158 ?_
  refine r_aload_n 1 dX1_copyFrom_161 rfl ?_
  refine gFair_seller 1 rfl (tb_in (i := 3) (j := 14) rfl rfl) dX1_copyFrom_162 ?_
  refine r_aload_n 0 dX1_copyFrom_165 rfl ?_
  refine gFair_seller 0 rfl (tb_in (i := 3) (j := 14) rfl rfl) dX1_copyFrom_166 ?_
  obtain ⟨q12, h12, h⟩ := bd_some h
  refine b_callS (isC := [1, 0]) (st := []) (bs1 := [bFair K a0 z1_lasts z1_keeps z1_stalls z1_buyers z1_minute q1 q2 q3 q4 q5 q6 q7 q8 q9 q10 q11 q12 z0_praise z0_borne, bFair K a1 z1_lasts z1_keeps z1_stalls z1_buyers z1_minute z1_goods z1_price z1_tongue z1_till z1_wealth z1_sold z1_ring z1_grudges z1_purse z1_came z1_had z1_seller z1_praise z1_borne]) (cFair_copyRow_seller_seller (a0 := a1) (a1 := a0) (z0_lasts := z1_lasts) (z0_keeps := z1_keeps) (z0_stalls := z1_stalls) (z0_buyers := z1_buyers) (z0_minute := z1_minute) (z0_goods := z1_goods) (z0_price := z1_price) (z0_tongue := z1_tongue) (z0_till := z1_till) (z0_wealth := z1_wealth) (z0_sold := z1_sold) (z0_ring := z1_ring) (z0_grudges := z1_grudges) (z0_purse := z1_purse) (z0_came := z1_came) (z0_had := z1_had) (z0_seller := z1_seller) (z0_praise := z1_praise) (z0_borne := z1_borne) (z1_lasts := z1_lasts) (z1_keeps := z1_keeps) (z1_stalls := z1_stalls) (z1_buyers := z1_buyers) (z1_minute := z1_minute) (z1_goods := q1) (z1_price := q2) (z1_tongue := q3) (z1_till := q4) (z1_wealth := q5) (z1_sold := q6) (z1_ring := q7) (z1_grudges := q8) (z1_purse := q9) (z1_came := q10) (z1_had := q11) (z1_seller := z0_seller) (z1_praise := z0_praise) (z1_borne := z0_borne) h12) rfl rfl (Nat.le_of_ble_eq_true rfl) kFair_copyRow_seller_seller (tb_in (i := 3) (j := 24) rfl rfl) (by decide) (by decide) rfl rfl rfl dX1_copyFrom_169 ?_
  refine r_aload_n 1 dX1_copyFrom_172 rfl ?_
  refine gFair_praise 1 rfl (tb_in (i := 3) (j := 15) rfl rfl) dX1_copyFrom_173 ?_
  refine r_aload_n 0 dX1_copyFrom_176 rfl ?_
  refine gFair_praise 0 rfl (tb_in (i := 3) (j := 15) rfl rfl) dX1_copyFrom_177 ?_
  obtain ⟨q13, h13, h⟩ := bd_some h
  refine b_callS (isC := [1, 0]) (st := []) (bs1 := [bFair K a0 z1_lasts z1_keeps z1_stalls z1_buyers z1_minute q1 q2 q3 q4 q5 q6 q7 q8 q9 q10 q11 q12 q13 z0_borne, bFair K a1 z1_lasts z1_keeps z1_stalls z1_buyers z1_minute z1_goods z1_price z1_tongue z1_till z1_wealth z1_sold z1_ring z1_grudges z1_purse z1_came z1_had z1_seller z1_praise z1_borne]) (cFair_copyRow_praise_praise (a0 := a1) (a1 := a0) (z0_lasts := z1_lasts) (z0_keeps := z1_keeps) (z0_stalls := z1_stalls) (z0_buyers := z1_buyers) (z0_minute := z1_minute) (z0_goods := z1_goods) (z0_price := z1_price) (z0_tongue := z1_tongue) (z0_till := z1_till) (z0_wealth := z1_wealth) (z0_sold := z1_sold) (z0_ring := z1_ring) (z0_grudges := z1_grudges) (z0_purse := z1_purse) (z0_came := z1_came) (z0_had := z1_had) (z0_seller := z1_seller) (z0_praise := z1_praise) (z0_borne := z1_borne) (z1_lasts := z1_lasts) (z1_keeps := z1_keeps) (z1_stalls := z1_stalls) (z1_buyers := z1_buyers) (z1_minute := z1_minute) (z1_goods := q1) (z1_price := q2) (z1_tongue := q3) (z1_till := q4) (z1_wealth := q5) (z1_sold := q6) (z1_ring := q7) (z1_grudges := q8) (z1_purse := q9) (z1_came := q10) (z1_had := q11) (z1_seller := q12) (z1_praise := z0_praise) (z1_borne := z0_borne) h13) rfl rfl (Nat.le_of_ble_eq_true rfl) kFair_copyRow_praise_praise (tb_in (i := 3) (j := 24) rfl rfl) (by decide) (by decide) rfl rfl rfl dX1_copyFrom_180 ?_
  refine r_aload_n 1 dX1_copyFrom_183 rfl ?_
  refine gFair_borne 1 rfl (tb_in (i := 3) (j := 16) rfl rfl) dX1_copyFrom_184 ?_
  refine r_aload_n 0 dX1_copyFrom_187 rfl ?_
  refine gFair_borne 0 rfl (tb_in (i := 3) (j := 16) rfl rfl) dX1_copyFrom_188 ?_
  obtain ⟨q14, h14, h⟩ := bd_some h
  refine b_callS (isC := [1, 0]) (st := []) (bs1 := [bFair K a0 z1_lasts z1_keeps z1_stalls z1_buyers z1_minute q1 q2 q3 q4 q5 q6 q7 q8 q9 q10 q11 q12 q13 q14, bFair K a1 z1_lasts z1_keeps z1_stalls z1_buyers z1_minute z1_goods z1_price z1_tongue z1_till z1_wealth z1_sold z1_ring z1_grudges z1_purse z1_came z1_had z1_seller z1_praise z1_borne]) (cFair_copyRow_borne_borne (a0 := a1) (a1 := a0) (z0_lasts := z1_lasts) (z0_keeps := z1_keeps) (z0_stalls := z1_stalls) (z0_buyers := z1_buyers) (z0_minute := z1_minute) (z0_goods := z1_goods) (z0_price := z1_price) (z0_tongue := z1_tongue) (z0_till := z1_till) (z0_wealth := z1_wealth) (z0_sold := z1_sold) (z0_ring := z1_ring) (z0_grudges := z1_grudges) (z0_purse := z1_purse) (z0_came := z1_came) (z0_had := z1_had) (z0_seller := z1_seller) (z0_praise := z1_praise) (z0_borne := z1_borne) (z1_lasts := z1_lasts) (z1_keeps := z1_keeps) (z1_stalls := z1_stalls) (z1_buyers := z1_buyers) (z1_minute := z1_minute) (z1_goods := q1) (z1_price := q2) (z1_tongue := q3) (z1_till := q4) (z1_wealth := q5) (z1_sold := q6) (z1_ring := q7) (z1_grudges := q8) (z1_purse := q9) (z1_came := q10) (z1_had := q11) (z1_seller := q12) (z1_praise := q13) (z1_borne := z0_borne) h14) rfl rfl (Nat.le_of_ble_eq_true rfl) kFair_copyRow_borne_borne (tb_in (i := 3) (j := 24) rfl rfl) (by decide) (by decide) rfl rfl rfl dX1_copyFrom_191 ?_
  have hq := Option.some.inj h
  subst hq
  exact r_vret rfl dX1_copyFrom_194
end
abbrev MFair_copyRow_who_ring : rx_M := (RX1, yX1_copyRow, cX1_copyRow, 2, none, 3)
theorem kFair_copyRow_who_ring : rKs MFair_copyRow_who_ring 2 := ⟨tb_in (i := 3) (j := 25) rfl rfl, tb_in (i := 3) (j := 26) rfl rfl, tb_in (i := 3) (j := 18) rfl rfl, ⟨by decide, by decide, by decide +kernel⟩, by decide⟩
section
variable {a0 : Nat → Nat} {a1 : Nat → Nat} {z0_who : Nat → Int32} {z0_size : Int32} {z1_lasts : Int32} {z1_keeps : Int32} {z1_stalls : Int32} {z1_buyers : Int32} {z1_minute : Int32} {z1_goods : Nat → Int32} {z1_price : Nat → Int32} {z1_tongue : Nat → Int32} {z1_till : Nat → Int32} {z1_wealth : Nat → Int32} {z1_sold : Nat → Int32} {z1_ring : Nat → Int32} {z1_grudges : Nat → Int32} {z1_purse : Nat → Int32} {z1_came : Nat → Int32} {z1_had : Nat → Int32} {z1_seller : Nat → Int32} {z1_praise : Nat → Int32} {z1_borne : Nat → Int32}
def mFair_copyRow_who_ring (z0_who : Nat → Int32) (z1_ring : Nat → Int32) : Option ((Nat → Int32)) := rq (cpin (0 : Int32) (0 : Int32) (if (6 : Int32) < (6 : Int32) then (6 : Int32) else (6 : Int32)) 6 6) (lt (va_cpy z0_who z1_ring (0 : Int32).toNatClampNeg (0 : Int32).toNatClampNeg (if (6 : Int32) < (6 : Int32) then (6 : Int32) else (6 : Int32)).toNatClampNeg) (fun u1 => some (u1)))
set_option maxHeartbeats 4000000 in
set_option maxRecDepth 20000 in
theorem cFair_copyRow_who_ring {q : (Nat → Int32)}  (h : mFair_copyRow_who_ring z0_who z1_ring = some q) : rMet l D Z (ty7 K) MFair_copyRow_who_ring [.ref (a0 1), .ref (a1 7)] (List.flatten [bOrder K a0 z0_who z0_size, bFair K a1 z1_lasts z1_keeps z1_stalls z1_buyers z1_minute z1_goods z1_price z1_tongue z1_till z1_wealth z1_sold z1_ring z1_grudges z1_purse z1_came z1_had z1_seller z1_praise z1_borne]) (List.flatten [bOrder K a0 z0_who z0_size, bFair K a1 z1_lasts z1_keeps z1_stalls z1_buyers z1_minute z1_goods z1_price z1_tongue z1_till z1_wealth z1_sold q z1_grudges z1_purse z1_came z1_had z1_seller z1_praise z1_borne]) none := by
  refine rMet.of (by decide) rfl (Nat.le_of_ble_eq_true rfl) ?_
  refine r_sub (lv' := [(0, .ref (a0 1)), (1, .ref (a1 7))]) [0, 1] rfl ?_
  unfold mFair_copyRow_who_ring at h
  refine r_aload_n 0 dX1_copyRow_0 rfl ?_
  refine r_iconst (x := (0 : Int32)) dX1_copyRow_1 (by decide) ?_
  refine r_aload_n 1 dX1_copyRow_2 rfl ?_
  refine r_iconst (x := (0 : Int32)) dX1_copyRow_3 (by decide) ?_
  refine r_aload_n 0 dX1_copyRow_4 rfl ?_
  refine b_alen (n := (6 : Int32)) 0 1 1 rfl rfl rfl rfl dX1_copyRow_5 ?_
  refine r_aload_n 1 dX1_copyRow_6 rfl ?_
  refine b_alen (n := (6 : Int32)) 1 7 1 rfl rfl rfl rfl dX1_copyRow_7 ?_
  refine r_mmin (tb_in (i := 3) (j := 19) rfl rfl) (tb_in (i := 3) (j := 20) rfl rfl) (tb_in (i := 3) (j := 21) rfl rfl) (tb_in (i := 3) (j := 22) rfl rfl) (by decide) (Nat.le_of_ble_eq_true rfl) dX1_copyRow_8 ?_
  obtain ⟨h1, h⟩ := rq_some h
  obtain ⟨u1, e1, h⟩ := lt_some h
  refine b_copy (bs1 := [bOrder K a0 z0_who z0_size, bFair K a1 z1_lasts z1_keeps z1_stalls z1_buyers z1_minute z1_goods z1_price z1_tongue z1_till z1_wealth z1_sold u1 z1_grudges z1_purse z1_came z1_had z1_seller z1_praise z1_borne]) (ty := .int) 0 1 1 7 1 e1 h1 (fun _ _ => rfl) rfl rfl rfl rfl rfl rfl rfl (tb_in (i := 3) (j := 23) rfl rfl) (tb_in (i := 0) (j := 11) rfl rfl) (tb_in (i := 0) (j := 12) rfl rfl) (tb_in (i := 0) (j := 13) rfl rfl) (by decide) (Nat.le_of_ble_eq_true rfl) dX1_copyRow_11 ?_
  have hq := Option.some.inj h
  subst hq
  exact r_vret rfl dX1_copyRow_14
end
theorem dX1_bears_0 : decode cX1_bears 0 = .ok (.aload_n 0, 1) := by decide +kernel
theorem dX1_bears_1 : decode cX1_bears 1 = .ok (.getfield 49, 3) := by decide +kernel
theorem dX1_bears_4 : decode cX1_bears 4 = .ok (.iload_n 1, 1) := by decide +kernel
theorem dX1_bears_5 : decode cX1_bears 5 = .ok (.iaload, 1) := by decide +kernel
theorem dX1_bears_6 : decode cX1_bears 6 = .ok (.iload_n 2, 1) := by decide +kernel
theorem dX1_bears_7 : decode cX1_bears 7 = .ok (.ishr, 1) := by decide +kernel
theorem dX1_bears_8 : decode cX1_bears 8 = .ok (.iconst 1, 1) := by decide +kernel
theorem dX1_bears_9 : decode cX1_bears 9 = .ok (.iand, 1) := by decide +kernel
theorem dX1_bears_10 : decode cX1_bears 10 = .ok (.iconst 1, 1) := by decide +kernel
theorem dX1_bears_11 : decode cX1_bears 11 = .ok (.if_icmp .ne 7, 3) := by decide +kernel
theorem dX1_bears_14 : decode cX1_bears 14 = .ok (.iconst 1, 1) := by decide +kernel
theorem dX1_bears_15 : decode cX1_bears 15 = .ok (.goto 4, 3) := by decide +kernel
theorem dX1_bears_18 : decode cX1_bears 18 = .ok (.iconst 0, 1) := by decide +kernel
theorem dX1_bears_19 : decode cX1_bears 19 = .ok (.ireturn, 1) := by decide +kernel
abbrev MFair_bears : rx_M := (RX1, yX1_bears, cX1_bears, 3, (some .boolean), 1)
theorem kFair_bears : rKv MFair_bears 2 := ⟨tb_in (i := 4) (j := 1) rfl rfl, tb_in (i := 4) (j := 2) rfl rfl, tb_in (i := 3) (j := 26) rfl rfl, tb_in (i := 3) (j := 30) rfl rfl, ⟨by decide, by decide, by decide +kernel⟩, by decide⟩
section
variable {a0 : Nat → Nat} {z0_lasts : Int32} {z0_keeps : Int32} {z0_stalls : Int32} {z0_buyers : Int32} {z0_minute : Int32} {z0_goods : Nat → Int32} {z0_price : Nat → Int32} {z0_tongue : Nat → Int32} {z0_till : Nat → Int32} {z0_wealth : Nat → Int32} {z0_sold : Nat → Int32} {z0_ring : Nat → Int32} {z0_grudges : Nat → Int32} {z0_purse : Nat → Int32} {z0_came : Nat → Int32} {z0_had : Nat → Int32} {z0_seller : Nat → Int32} {z0_praise : Nat → Int32} {z0_borne : Nat → Int32}
def mFair_bears (x1 : Int32) (x2 : Int32) (z0_grudges : Nat → Int32) : Option (Int32) := rq (inb x1 6) ((if (((z0_grudges x1.toNatClampNeg) >>> (x2 &&& 31)) &&& (1 : Int32)) = (1 : Int32) then some ((1 : Int32)) else some ((0 : Int32))))
set_option maxHeartbeats 4000000 in
set_option maxRecDepth 20000 in
theorem cFair_bears {q : Int32} {x1 : Int32} {x2 : Int32} (h : mFair_bears x1 x2 z0_grudges = some q) : rMet l D Z (ty7 K) MFair_bears [.ref (a0 0), .int x1, .int x2] (List.flatten [bFair K a0 z0_lasts z0_keeps z0_stalls z0_buyers z0_minute z0_goods z0_price z0_tongue z0_till z0_wealth z0_sold z0_ring z0_grudges z0_purse z0_came z0_had z0_seller z0_praise z0_borne]) (List.flatten [bFair K a0 z0_lasts z0_keeps z0_stalls z0_buyers z0_minute z0_goods z0_price z0_tongue z0_till z0_wealth z0_sold z0_ring z0_grudges z0_purse z0_came z0_had z0_seller z0_praise z0_borne]) (some (.int q)) := by
  refine rMet.of (by decide) rfl (Nat.le_of_ble_eq_true rfl) ?_
  refine r_sub (lv' := [(0, .ref (a0 0)), (1, .int x1), (2, .int x2)]) [0, 1, 2] rfl ?_
  unfold mFair_bears at h
  refine r_aload_n 0 dX1_bears_0 rfl ?_
  refine gFair_grudges 0 rfl (tb_in (i := 3) (j := 10) rfl rfl) dX1_bears_1 ?_
  refine r_iload_n 1 dX1_bears_4 rfl ?_
  obtain ⟨h1, h⟩ := rq_some h
  refine lFair_grudges 0 rfl (inb_in h1) dX1_bears_5 ?_
  refine r_iload_n 2 dX1_bears_6 rfl ?_
  refine r_ishr dX1_bears_7 ?_
  refine r_iconst (x := (1 : Int32)) dX1_bears_8 (by decide) ?_
  refine r_iand dX1_bears_9 ?_
  refine r_iconst (x := (1 : Int32)) dX1_bears_10 (by decide) ?_
  refine r_icmp_ne 18 dX1_bears_11 (by decide) (fun c2 => ?_) (fun c2 => ?_)
  · replace h := it_neg c2 h
    refine r_iconst (x := (0 : Int32)) dX1_bears_18 (by decide) ?_
    have hq := Option.some.inj h
    subst hq
    exact r_zret (ty := .boolean) rfl rfl dX1_bears_19
  · replace h := it_pos c2 h
    refine r_iconst (x := (1 : Int32)) dX1_bears_14 (by decide) ?_
    refine r_goto 19 dX1_bears_15 (by decide) ?_
    have hq := Option.some.inj h
    subst hq
    exact r_zret (ty := .boolean) rfl rfl dX1_bears_19
end
theorem dX1_arrange_0 : decode cX1_arrange 0 = .ok (.iconst 0, 1) := by decide +kernel
theorem dX1_arrange_1 : decode cX1_arrange 1 = .ok (.istore_n 1, 1) := by decide +kernel
theorem dX1_arrange_2 : decode cX1_arrange 2 = .ok (.iload_n 1, 1) := by decide +kernel
theorem dX1_arrange_3 : decode cX1_arrange 3 = .ok (.aload_n 0, 1) := by decide +kernel
theorem dX1_arrange_4 : decode cX1_arrange 4 = .ok (.getfield 18, 3) := by decide +kernel
theorem dX1_arrange_7 : decode cX1_arrange 7 = .ok (.if_icmp .ge 98, 3) := by decide +kernel
theorem dX1_arrange_10 : decode cX1_arrange 10 = .ok (.aload_n 0, 1) := by decide +kernel
theorem dX1_arrange_11 : decode cX1_arrange 11 = .ok (.getfield 46, 3) := by decide +kernel
theorem dX1_arrange_14 : decode cX1_arrange 14 = .ok (.iload_n 1, 1) := by decide +kernel
theorem dX1_arrange_15 : decode cX1_arrange 15 = .ok (.iaload, 1) := by decide +kernel
theorem dX1_arrange_16 : decode cX1_arrange 16 = .ok (.istore_n 2, 1) := by decide +kernel
theorem dX1_arrange_17 : decode cX1_arrange 17 = .ok (.aload_n 0, 1) := by decide +kernel
theorem dX1_arrange_18 : decode cX1_arrange 18 = .ok (.getfield 46, 3) := by decide +kernel
theorem dX1_arrange_21 : decode cX1_arrange 21 = .ok (.iload_n 1, 1) := by decide +kernel
theorem dX1_arrange_22 : decode cX1_arrange 22 = .ok (.ifCond .le 9, 3) := by decide +kernel
theorem dX1_arrange_25 : decode cX1_arrange 25 = .ok (.iload_n 1, 1) := by decide +kernel
theorem dX1_arrange_26 : decode cX1_arrange 26 = .ok (.iconst 1, 1) := by decide +kernel
theorem dX1_arrange_27 : decode cX1_arrange 27 = .ok (.isub, 1) := by decide +kernel
theorem dX1_arrange_28 : decode cX1_arrange 28 = .ok (.goto 9, 3) := by decide +kernel
theorem dX1_arrange_31 : decode cX1_arrange 31 = .ok (.aload_n 0, 1) := by decide +kernel
theorem dX1_arrange_32 : decode cX1_arrange 32 = .ok (.getfield 18, 3) := by decide +kernel
theorem dX1_arrange_35 : decode cX1_arrange 35 = .ok (.iconst 1, 1) := by decide +kernel
theorem dX1_arrange_36 : decode cX1_arrange 36 = .ok (.isub, 1) := by decide +kernel
theorem dX1_arrange_37 : decode cX1_arrange 37 = .ok (.iaload, 1) := by decide +kernel
theorem dX1_arrange_38 : decode cX1_arrange 38 = .ok (.istore_n 3, 1) := by decide +kernel
theorem dX1_arrange_39 : decode cX1_arrange 39 = .ok (.aload_n 0, 1) := by decide +kernel
theorem dX1_arrange_40 : decode cX1_arrange 40 = .ok (.getfield 61, 3) := by decide +kernel
theorem dX1_arrange_43 : decode cX1_arrange 43 = .ok (.iload_n 2, 1) := by decide +kernel
theorem dX1_arrange_44 : decode cX1_arrange 44 = .ok (.iload_n 3, 1) := by decide +kernel
theorem dX1_arrange_45 : decode cX1_arrange 45 = .ok (.iastore, 1) := by decide +kernel
theorem dX1_arrange_46 : decode cX1_arrange 46 = .ok (.aload_n 0, 1) := by decide +kernel
theorem dX1_arrange_47 : decode cX1_arrange 47 = .ok (.getfield 67, 3) := by decide +kernel
theorem dX1_arrange_50 : decode cX1_arrange 50 = .ok (.iload_n 2, 1) := by decide +kernel
theorem dX1_arrange_51 : decode cX1_arrange 51 = .ok (.aload_n 0, 1) := by decide +kernel
theorem dX1_arrange_52 : decode cX1_arrange 52 = .ok (.iload_n 3, 1) := by decide +kernel
theorem dX1_arrange_53 : decode cX1_arrange 53 = .ok (.iload_n 2, 1) := by decide +kernel
theorem dX1_arrange_54 : decode cX1_arrange 54 = .ok (.invokevirtual 86, 3) := by decide +kernel
theorem dX1_arrange_57 : decode cX1_arrange 57 = .ok (.ifCond .eq 7, 3) := by decide +kernel
theorem dX1_arrange_60 : decode cX1_arrange 60 = .ok (.iconst 1, 1) := by decide +kernel
theorem dX1_arrange_61 : decode cX1_arrange 61 = .ok (.goto 4, 3) := by decide +kernel
theorem dX1_arrange_64 : decode cX1_arrange 64 = .ok (.iconst 0, 1) := by decide +kernel
theorem dX1_arrange_65 : decode cX1_arrange 65 = .ok (.iastore, 1) := by decide +kernel
theorem dX1_arrange_66 : decode cX1_arrange 66 = .ok (.aload_n 0, 1) := by decide +kernel
theorem dX1_arrange_67 : decode cX1_arrange 67 = .ok (.getfield 64, 3) := by decide +kernel
theorem dX1_arrange_70 : decode cX1_arrange 70 = .ok (.iload_n 2, 1) := by decide +kernel
theorem dX1_arrange_71 : decode cX1_arrange 71 = .ok (.aload_n 0, 1) := by decide +kernel
theorem dX1_arrange_72 : decode cX1_arrange 72 = .ok (.getfield 67, 3) := by decide +kernel
theorem dX1_arrange_75 : decode cX1_arrange 75 = .ok (.iload_n 2, 1) := by decide +kernel
theorem dX1_arrange_76 : decode cX1_arrange 76 = .ok (.iaload, 1) := by decide +kernel
theorem dX1_arrange_77 : decode cX1_arrange 77 = .ok (.iconst 1, 1) := by decide +kernel
theorem dX1_arrange_78 : decode cX1_arrange 78 = .ok (.if_icmp .ne 14, 3) := by decide +kernel
theorem dX1_arrange_81 : decode cX1_arrange 81 = .ok (.aload_n 0, 1) := by decide +kernel
theorem dX1_arrange_82 : decode cX1_arrange 82 = .ok (.getfield 34, 3) := by decide +kernel
theorem dX1_arrange_85 : decode cX1_arrange 85 = .ok (.iload_n 3, 1) := by decide +kernel
theorem dX1_arrange_86 : decode cX1_arrange 86 = .ok (.iaload, 1) := by decide +kernel
theorem dX1_arrange_87 : decode cX1_arrange 87 = .ok (.iconst 2, 1) := by decide +kernel
theorem dX1_arrange_88 : decode cX1_arrange 88 = .ok (.idiv, 1) := by decide +kernel
theorem dX1_arrange_89 : decode cX1_arrange 89 = .ok (.goto 9, 3) := by decide +kernel
theorem dX1_arrange_92 : decode cX1_arrange 92 = .ok (.aload_n 0, 1) := by decide +kernel
theorem dX1_arrange_93 : decode cX1_arrange 93 = .ok (.getfield 34, 3) := by decide +kernel
theorem dX1_arrange_96 : decode cX1_arrange 96 = .ok (.iload_n 3, 1) := by decide +kernel
theorem dX1_arrange_97 : decode cX1_arrange 97 = .ok (.iaload, 1) := by decide +kernel
theorem dX1_arrange_98 : decode cX1_arrange 98 = .ok (.iastore, 1) := by decide +kernel
theorem dX1_arrange_99 : decode cX1_arrange 99 = .ok (.iinc 1 1, 3) := by decide +kernel
theorem dX1_arrange_102 : decode cX1_arrange 102 = .ok (.goto (-100), 3) := by decide +kernel
theorem dX1_arrange_105 : decode cX1_arrange 105 = .ok (.return_, 1) := by decide +kernel
abbrev MFair_arrange : rx_M := (RX1, yX1_arrange, cX1_arrange, 4, none, 2)
theorem kFair_arrange : rKv MFair_arrange 0 := ⟨tb_in (i := 4) (j := 4) rfl rfl, tb_in (i := 4) (j := 5) rfl rfl, tb_in (i := 3) (j := 26) rfl rfl, tb_in (i := 3) (j := 31) rfl rfl, ⟨by decide, by decide, by decide +kernel⟩, by decide⟩
section
variable {a0 : Nat → Nat} {z0_lasts : Int32} {z0_keeps : Int32} {z0_stalls : Int32} {z0_buyers : Int32} {z0_minute : Int32} {z0_goods : Nat → Int32} {z0_price : Nat → Int32} {z0_tongue : Nat → Int32} {z0_till : Nat → Int32} {z0_wealth : Nat → Int32} {z0_sold : Nat → Int32} {z0_ring : Nat → Int32} {z0_grudges : Nat → Int32} {z0_purse : Nat → Int32} {z0_came : Nat → Int32} {z0_had : Nat → Int32} {z0_seller : Nat → Int32} {z0_praise : Nat → Int32} {z0_borne : Nat → Int32}
def mFair_arrange_j65 (k2 : Int32 → (Nat → Int32) → (Nat → Int32) → (Nat → Int32) → Option ((Nat → Int32) × (Nat → Int32) × (Nat → Int32))) (x1 : Int32) (x2 : Int32) (x3 : Int32) (z0_stalls : Int32) (z0_tongue : Nat → Int32) (z0_ring : Nat → Int32) (z0_grudges : Nat → Int32) (z0_seller : Nat → Int32) (z0_praise : Nat → Int32) (z0_borne : Nat → Int32) (s1 : Int32) (s2 : Int32) : Option ((Nat → Int32) × (Nat → Int32) × (Nat → Int32)) := rq (inb s1 6) (lt (upd z0_borne s1.toNatClampNeg s2) (fun u10 => rq (inb x2 6) ((if (u10 x2.toNatClampNeg) = (1 : Int32) then rq (inb x3 6) (rq (inb x2 6) (lt (upd z0_praise x2.toNatClampNeg ((z0_tongue x3.toNatClampNeg) / (2 : Int32))) (fun u16 => k2 (x1 + (1 : Int32)) z0_seller u16 u10))) else rq (inb x3 6) (rq (inb x2 6) (lt (upd z0_praise x2.toNatClampNeg (z0_tongue x3.toNatClampNeg)) (fun u14 => k2 (x1 + (1 : Int32)) z0_seller u14 u10)))))))
set_option maxHeartbeats 4000000 in
set_option maxRecDepth 20000 in
theorem cFair_arrange_j65 {q : (Nat → Int32) × (Nat → Int32) × (Nat → Int32)} {x1 : Int32} {x2 : Int32} {x3 : Int32} {s1 : Int32} {s2 : Int32} {k2 : Int32 → (Nat → Int32) → (Nat → Int32) → (Nat → Int32) → Option ((Nat → Int32) × (Nat → Int32) × (Nat → Int32))} (hk2 : ∀ (x1 : Int32) (z0_seller : Nat → Int32) (z0_praise : Nat → Int32) (z0_borne : Nat → Int32), k2 x1 z0_seller z0_praise z0_borne = some q → rW l D Z (ty7 K) MFair_arrange 2 [(0, .ref (a0 0)), (1, .int x1)] [] (List.flatten [bFair K a0 z0_lasts z0_keeps z0_stalls z0_buyers z0_minute z0_goods z0_price z0_tongue z0_till z0_wealth z0_sold z0_ring z0_grudges z0_purse z0_came z0_had z0_seller z0_praise z0_borne]) (List.flatten [bFair K a0 z0_lasts z0_keeps z0_stalls z0_buyers z0_minute z0_goods z0_price z0_tongue z0_till z0_wealth z0_sold z0_ring z0_grudges z0_purse z0_came z0_had q.1 q.2.1 q.2.2]) none) (h : mFair_arrange_j65 k2 x1 x2 x3 z0_stalls z0_tongue z0_ring z0_grudges z0_seller z0_praise z0_borne s1 s2 = some q) : rW l D Z (ty7 K) MFair_arrange 65 [(0, .ref (a0 0)), (1, .int x1), (2, .int x2), (3, .int x3)] [.int s2, .int s1, .ref (a0 14)] (List.flatten [bFair K a0 z0_lasts z0_keeps z0_stalls z0_buyers z0_minute z0_goods z0_price z0_tongue z0_till z0_wealth z0_sold z0_ring z0_grudges z0_purse z0_came z0_had z0_seller z0_praise z0_borne]) (List.flatten [bFair K a0 z0_lasts z0_keeps z0_stalls z0_buyers z0_minute z0_goods z0_price z0_tongue z0_till z0_wealth z0_sold z0_ring z0_grudges z0_purse z0_came z0_had q.1 q.2.1 q.2.2]) none := by
  unfold mFair_arrange_j65 at h
  obtain ⟨h10, h⟩ := rq_some h
  obtain ⟨u10, e10, h⟩ := lt_some h
  refine sFair_borne (bs1 := [bFair K a0 z0_lasts z0_keeps z0_stalls z0_buyers z0_minute z0_goods z0_price z0_tongue z0_till z0_wealth z0_sold z0_ring z0_grudges z0_purse z0_came z0_had z0_seller z0_praise u10]) 0 e10 rfl (inb_in h10) rfl dX1_arrange_65 ?_
  refine r_aload_n 0 dX1_arrange_66 rfl ?_
  refine gFair_praise 0 rfl (tb_in (i := 3) (j := 15) rfl rfl) dX1_arrange_67 ?_
  refine r_iload_n 2 dX1_arrange_70 rfl ?_
  refine r_aload_n 0 dX1_arrange_71 rfl ?_
  refine gFair_borne 0 rfl (tb_in (i := 3) (j := 16) rfl rfl) dX1_arrange_72 ?_
  refine r_iload_n 2 dX1_arrange_75 rfl ?_
  obtain ⟨h11, h⟩ := rq_some h
  refine lFair_borne 0 rfl (inb_in h11) dX1_arrange_76 ?_
  refine r_iconst (x := (1 : Int32)) dX1_arrange_77 (by decide) ?_
  refine r_icmp_ne 92 dX1_arrange_78 (by decide) (fun c12 => ?_) (fun c12 => ?_)
  · replace h := it_neg c12 h
    refine r_aload_n 0 dX1_arrange_92 rfl ?_
    refine gFair_tongue 0 rfl (tb_in (i := 3) (j := 5) rfl rfl) dX1_arrange_93 ?_
    refine r_iload_n 3 dX1_arrange_96 rfl ?_
    obtain ⟨h13, h⟩ := rq_some h
    refine lFair_tongue 0 rfl (inb_in h13) dX1_arrange_97 ?_
    obtain ⟨h14, h⟩ := rq_some h
    obtain ⟨u14, e14, h⟩ := lt_some h
    refine sFair_praise (bs1 := [bFair K a0 z0_lasts z0_keeps z0_stalls z0_buyers z0_minute z0_goods z0_price z0_tongue z0_till z0_wealth z0_sold z0_ring z0_grudges z0_purse z0_came z0_had z0_seller u14 u10]) 0 e14 rfl (inb_in h14) rfl dX1_arrange_98 ?_
    refine r_iinc (y := (x1 + (1 : Int32))) (lv' := [(1, .int (x1 + (1 : Int32))), (0, .ref (a0 0)), (2, .int x2), (3, .int x3)]) 1 dX1_arrange_99 rfl rfl (Nat.le_of_ble_eq_true rfl) rfl ?_
    refine r_goto 2 dX1_arrange_102 (by decide) ?_
    refine r_sub (lv' := [(0, .ref (a0 0)), (1, .int (x1 + (1 : Int32)))]) [1, 0] rfl ?_
    exact hk2 (x1 + (1 : Int32)) z0_seller u14 u10 h
  · replace h := it_pos c12 h
    refine r_aload_n 0 dX1_arrange_81 rfl ?_
    refine gFair_tongue 0 rfl (tb_in (i := 3) (j := 5) rfl rfl) dX1_arrange_82 ?_
    refine r_iload_n 3 dX1_arrange_85 rfl ?_
    obtain ⟨h15, h⟩ := rq_some h
    refine lFair_tongue 0 rfl (inb_in h15) dX1_arrange_86 ?_
    refine r_iconst (x := (2 : Int32)) dX1_arrange_87 (by decide) ?_
    refine r_idiv dX1_arrange_88 (by decide) ?_
    refine r_goto 98 dX1_arrange_89 (by decide) ?_
    obtain ⟨h16, h⟩ := rq_some h
    obtain ⟨u16, e16, h⟩ := lt_some h
    refine sFair_praise (bs1 := [bFair K a0 z0_lasts z0_keeps z0_stalls z0_buyers z0_minute z0_goods z0_price z0_tongue z0_till z0_wealth z0_sold z0_ring z0_grudges z0_purse z0_came z0_had z0_seller u16 u10]) 0 e16 rfl (inb_in h16) rfl dX1_arrange_98 ?_
    refine r_iinc (y := (x1 + (1 : Int32))) (lv' := [(1, .int (x1 + (1 : Int32))), (0, .ref (a0 0)), (2, .int x2), (3, .int x3)]) 1 dX1_arrange_99 rfl rfl (Nat.le_of_ble_eq_true rfl) rfl ?_
    refine r_goto 2 dX1_arrange_102 (by decide) ?_
    refine r_sub (lv' := [(0, .ref (a0 0)), (1, .int (x1 + (1 : Int32)))]) [1, 0] rfl ?_
    exact hk2 (x1 + (1 : Int32)) z0_seller u16 u10 h
def mFair_arrange_j37 (k2 : Int32 → (Nat → Int32) → (Nat → Int32) → (Nat → Int32) → Option ((Nat → Int32) × (Nat → Int32) × (Nat → Int32))) (x1 : Int32) (x2 : Int32) (z0_stalls : Int32) (z0_tongue : Nat → Int32) (z0_ring : Nat → Int32) (z0_grudges : Nat → Int32) (z0_seller : Nat → Int32) (z0_praise : Nat → Int32) (z0_borne : Nat → Int32) (s1 : Int32) : Option ((Nat → Int32) × (Nat → Int32) × (Nat → Int32)) := rq (inb s1 6) (lt (z0_ring s1.toNatClampNeg) (fun y6 => rq (inb x2 6) (lt (upd z0_seller x2.toNatClampNeg y6) (fun u7 => (mFair_bears y6 x2 z0_grudges).bind (fun q8 => (if q8 = 0 then mFair_arrange_j65 k2 x1 x2 y6 z0_stalls z0_tongue z0_ring z0_grudges u7 z0_praise z0_borne x2 (0 : Int32) else mFair_arrange_j65 k2 x1 x2 y6 z0_stalls z0_tongue z0_ring z0_grudges u7 z0_praise z0_borne x2 (1 : Int32)))))))
set_option maxHeartbeats 4000000 in
set_option maxRecDepth 20000 in
theorem cFair_arrange_j37 {q : (Nat → Int32) × (Nat → Int32) × (Nat → Int32)} {x1 : Int32} {x2 : Int32} {s1 : Int32} {k2 : Int32 → (Nat → Int32) → (Nat → Int32) → (Nat → Int32) → Option ((Nat → Int32) × (Nat → Int32) × (Nat → Int32))} (hk2 : ∀ (x1 : Int32) (z0_seller : Nat → Int32) (z0_praise : Nat → Int32) (z0_borne : Nat → Int32), k2 x1 z0_seller z0_praise z0_borne = some q → rW l D Z (ty7 K) MFair_arrange 2 [(0, .ref (a0 0)), (1, .int x1)] [] (List.flatten [bFair K a0 z0_lasts z0_keeps z0_stalls z0_buyers z0_minute z0_goods z0_price z0_tongue z0_till z0_wealth z0_sold z0_ring z0_grudges z0_purse z0_came z0_had z0_seller z0_praise z0_borne]) (List.flatten [bFair K a0 z0_lasts z0_keeps z0_stalls z0_buyers z0_minute z0_goods z0_price z0_tongue z0_till z0_wealth z0_sold z0_ring z0_grudges z0_purse z0_came z0_had q.1 q.2.1 q.2.2]) none) (h : mFair_arrange_j37 k2 x1 x2 z0_stalls z0_tongue z0_ring z0_grudges z0_seller z0_praise z0_borne s1 = some q) : rW l D Z (ty7 K) MFair_arrange 37 [(0, .ref (a0 0)), (1, .int x1), (2, .int x2)] [.int s1, .ref (a0 7)] (List.flatten [bFair K a0 z0_lasts z0_keeps z0_stalls z0_buyers z0_minute z0_goods z0_price z0_tongue z0_till z0_wealth z0_sold z0_ring z0_grudges z0_purse z0_came z0_had z0_seller z0_praise z0_borne]) (List.flatten [bFair K a0 z0_lasts z0_keeps z0_stalls z0_buyers z0_minute z0_goods z0_price z0_tongue z0_till z0_wealth z0_sold z0_ring z0_grudges z0_purse z0_came z0_had q.1 q.2.1 q.2.2]) none := by
  unfold mFair_arrange_j37 at h
  obtain ⟨h5, h⟩ := rq_some h
  refine lFair_ring 0 rfl (inb_in h5) dX1_arrange_37 ?_
  obtain ⟨y6, e6, h⟩ := lt_some h
  refine r_top e6 ?_
  refine r_istore_n (lv' := [(3, .int y6), (0, .ref (a0 0)), (1, .int x1), (2, .int x2)]) dX1_arrange_38 (Nat.le_of_ble_eq_true rfl) rfl ?_
  refine r_aload_n 1 dX1_arrange_39 rfl ?_
  refine gFair_seller 0 rfl (tb_in (i := 3) (j := 14) rfl rfl) dX1_arrange_40 ?_
  refine r_iload_n 3 dX1_arrange_43 rfl ?_
  refine r_iload_n 0 dX1_arrange_44 rfl ?_
  obtain ⟨h7, h⟩ := rq_some h
  obtain ⟨u7, e7, h⟩ := lt_some h
  refine sFair_seller (bs1 := [bFair K a0 z0_lasts z0_keeps z0_stalls z0_buyers z0_minute z0_goods z0_price z0_tongue z0_till z0_wealth z0_sold z0_ring z0_grudges z0_purse z0_came z0_had u7 z0_praise z0_borne]) 0 e7 rfl (inb_in h7) rfl dX1_arrange_45 ?_
  refine r_aload_n 1 dX1_arrange_46 rfl ?_
  refine gFair_borne 0 rfl (tb_in (i := 3) (j := 16) rfl rfl) dX1_arrange_47 ?_
  refine r_iload_n 3 dX1_arrange_50 rfl ?_
  refine r_aload_n 1 dX1_arrange_51 rfl ?_
  refine r_iload_n 0 dX1_arrange_52 rfl ?_
  refine r_iload_n 3 dX1_arrange_53 rfl ?_
  obtain ⟨q8, h8, h⟩ := bd_some h
  refine b_callV (isC := [0]) (ci := 1)  (st := [.int x2, .ref (a0 14)]) (bs1 := [bFair K a0 z0_lasts z0_keeps z0_stalls z0_buyers z0_minute z0_goods z0_price z0_tongue z0_till z0_wealth z0_sold z0_ring z0_grudges z0_purse z0_came z0_had u7 z0_praise z0_borne]) (cFair_bears (a0 := a0) (z0_lasts := z0_lasts) (z0_keeps := z0_keeps) (z0_stalls := z0_stalls) (z0_buyers := z0_buyers) (z0_minute := z0_minute) (z0_goods := z0_goods) (z0_price := z0_price) (z0_tongue := z0_tongue) (z0_till := z0_till) (z0_wealth := z0_wealth) (z0_sold := z0_sold) (z0_ring := z0_ring) (z0_grudges := z0_grudges) (z0_purse := z0_purse) (z0_came := z0_came) (z0_had := z0_had) (z0_seller := u7) (z0_praise := z0_praise) (z0_borne := z0_borne) h8) rfl rfl (Nat.le_of_ble_eq_true rfl) kFair_bears (tb_in (i := 4) (j := 0) rfl rfl) (by decide) (by decide) rfl rfl rfl rfl rfl rfl rfl dX1_arrange_54 ?_
  refine r_if_eq 64 dX1_arrange_57 (by decide) (fun c9 => ?_) (fun c9 => ?_)
  · replace h := it_pos c9 h
    refine r_iconst (x := (0 : Int32)) dX1_arrange_64 (by decide) ?_
    refine r_sub (lv' := [(0, .ref (a0 0)), (1, .int x1), (2, .int x2), (3, .int y6)]) [1, 2, 3, 0] rfl ?_
    exact cFair_arrange_j65  (hk2) h
  · replace h := it_neg c9 h
    refine r_iconst (x := (1 : Int32)) dX1_arrange_60 (by decide) ?_
    refine r_goto 65 dX1_arrange_61 (by decide) ?_
    refine r_sub (lv' := [(0, .ref (a0 0)), (1, .int x1), (2, .int x2), (3, .int y6)]) [1, 2, 3, 0] rfl ?_
    exact cFair_arrange_j65  (hk2) h
def mFair_arrange_l2 (z0_stalls : Int32) (z0_tongue : Nat → Int32) (z0_ring : Nat → Int32) (z0_grudges : Nat → Int32) : Nat → Int32 → (Nat → Int32) → (Nat → Int32) → (Nat → Int32) → Option ((Nat → Int32) × (Nat → Int32) × (Nat → Int32))
  | 0, _, _, _, _ => none
  | n + 1, x1, z0_seller, z0_praise, z0_borne => (if z0_stalls ≤ x1 then some (z0_seller, z0_praise, z0_borne) else rq (inb x1 6) (lt (z0_ring x1.toNatClampNeg) (fun y3 => (if x1 ≤ 0 then mFair_arrange_j37 (mFair_arrange_l2 z0_stalls z0_tongue z0_ring z0_grudges n) x1 y3 z0_stalls z0_tongue z0_ring z0_grudges z0_seller z0_praise z0_borne (z0_stalls - (1 : Int32)) else mFair_arrange_j37 (mFair_arrange_l2 z0_stalls z0_tongue z0_ring z0_grudges n) x1 y3 z0_stalls z0_tongue z0_ring z0_grudges z0_seller z0_praise z0_borne (x1 - (1 : Int32))))))
set_option maxHeartbeats 4000000 in
set_option maxRecDepth 20000 in
theorem cFair_arrange_l2 {q : (Nat → Int32) × (Nat → Int32) × (Nat → Int32)}   : ∀ (n : Nat) (x1 : Int32) (z0_seller : Nat → Int32) (z0_praise : Nat → Int32) (z0_borne : Nat → Int32), mFair_arrange_l2 z0_stalls z0_tongue z0_ring z0_grudges n x1 z0_seller z0_praise z0_borne = some q → rW l D Z (ty7 K) MFair_arrange 2 [(0, .ref (a0 0)), (1, .int x1)] [] (List.flatten [bFair K a0 z0_lasts z0_keeps z0_stalls z0_buyers z0_minute z0_goods z0_price z0_tongue z0_till z0_wealth z0_sold z0_ring z0_grudges z0_purse z0_came z0_had z0_seller z0_praise z0_borne]) (List.flatten [bFair K a0 z0_lasts z0_keeps z0_stalls z0_buyers z0_minute z0_goods z0_price z0_tongue z0_till z0_wealth z0_sold z0_ring z0_grudges z0_purse z0_came z0_had q.1 q.2.1 q.2.2]) none := by
  intro n
  induction n with
  | zero => intro x1 z0_seller z0_praise z0_borne h; unfold mFair_arrange_l2 at h; cases h
  | succ n ih =>
    intro x1 z0_seller z0_praise z0_borne h
    unfold mFair_arrange_l2 at h
    refine r_iload_n 1 dX1_arrange_2 rfl ?_
    refine r_aload_n 0 dX1_arrange_3 rfl ?_
    refine gFair_stalls 0 rfl (tb_in (i := 2) (j := 31) rfl rfl) dX1_arrange_4 ?_
    refine r_icmp_ge 105 dX1_arrange_7 (by decide) (fun c1 => ?_) (fun c1 => ?_)
    · replace h := it_pos c1 h
      have hq := Option.some.inj h
      subst hq
      exact r_vret rfl dX1_arrange_105
    · replace h := it_neg c1 h
      refine r_aload_n 0 dX1_arrange_10 rfl ?_
      refine gFair_ring 0 rfl (tb_in (i := 3) (j := 9) rfl rfl) dX1_arrange_11 ?_
      refine r_iload_n 1 dX1_arrange_14 rfl ?_
      obtain ⟨h2, h⟩ := rq_some h
      refine lFair_ring 0 rfl (inb_in h2) dX1_arrange_15 ?_
      obtain ⟨y3, e3, h⟩ := lt_some h
      refine r_top e3 ?_
      refine r_istore_n (lv' := [(2, .int y3), (0, .ref (a0 0)), (1, .int x1)]) dX1_arrange_16 (Nat.le_of_ble_eq_true rfl) rfl ?_
      refine r_aload_n 1 dX1_arrange_17 rfl ?_
      refine gFair_ring 0 rfl (tb_in (i := 3) (j := 9) rfl rfl) dX1_arrange_18 ?_
      refine r_iload_n 2 dX1_arrange_21 rfl ?_
      refine r_if_le 31 dX1_arrange_22 (by decide) (fun c4 => ?_) (fun c4 => ?_)
      · replace h := it_pos c4 h
        refine r_aload_n 1 dX1_arrange_31 rfl ?_
        refine gFair_stalls 0 rfl (tb_in (i := 2) (j := 31) rfl rfl) dX1_arrange_32 ?_
        refine r_iconst (x := (1 : Int32)) dX1_arrange_35 (by decide) ?_
        refine r_isub dX1_arrange_36 ?_
        refine r_sub (lv' := [(0, .ref (a0 0)), (1, .int x1), (2, .int y3)]) [1, 2, 0] rfl ?_
        exact cFair_arrange_j37  (ih) h
      · replace h := it_neg c4 h
        refine r_iload_n 2 dX1_arrange_25 rfl ?_
        refine r_iconst (x := (1 : Int32)) dX1_arrange_26 (by decide) ?_
        refine r_isub dX1_arrange_27 ?_
        refine r_goto 37 dX1_arrange_28 (by decide) ?_
        refine r_sub (lv' := [(0, .ref (a0 0)), (1, .int x1), (2, .int y3)]) [1, 2, 0] rfl ?_
        exact cFair_arrange_j37  (ih) h
def mFair_arrange (z0_stalls : Int32) (z0_tongue : Nat → Int32) (z0_ring : Nat → Int32) (z0_grudges : Nat → Int32) (z0_seller : Nat → Int32) (z0_praise : Nat → Int32) (z0_borne : Nat → Int32) : Option ((Nat → Int32) × (Nat → Int32) × (Nat → Int32)) := mFair_arrange_l2 z0_stalls z0_tongue z0_ring z0_grudges FU (0 : Int32) z0_seller z0_praise z0_borne
set_option maxHeartbeats 4000000 in
set_option maxRecDepth 20000 in
theorem cFair_arrange {q : (Nat → Int32) × (Nat → Int32) × (Nat → Int32)}  (h : mFair_arrange z0_stalls z0_tongue z0_ring z0_grudges z0_seller z0_praise z0_borne = some q) : rMet l D Z (ty7 K) MFair_arrange [.ref (a0 0)] (List.flatten [bFair K a0 z0_lasts z0_keeps z0_stalls z0_buyers z0_minute z0_goods z0_price z0_tongue z0_till z0_wealth z0_sold z0_ring z0_grudges z0_purse z0_came z0_had z0_seller z0_praise z0_borne]) (List.flatten [bFair K a0 z0_lasts z0_keeps z0_stalls z0_buyers z0_minute z0_goods z0_price z0_tongue z0_till z0_wealth z0_sold z0_ring z0_grudges z0_purse z0_came z0_had q.1 q.2.1 q.2.2]) none := by
  refine rMet.of (by decide) rfl (Nat.le_of_ble_eq_true rfl) ?_
  refine r_sub (lv' := [(0, .ref (a0 0))]) [0] rfl ?_
  unfold mFair_arrange at h
  refine r_iconst (x := (0 : Int32)) dX1_arrange_0 (by decide) ?_
  refine r_istore_n (lv' := [(1, .int (0 : Int32)), (0, .ref (a0 0))]) dX1_arrange_1 (Nat.le_of_ble_eq_true rfl) rfl ?_
  refine r_sub (lv' := [(0, .ref (a0 0)), (1, .int (0 : Int32))]) [1, 0] rfl ?_
  exact cFair_arrange_l2   FU (0 : Int32) z0_seller z0_praise z0_borne h
end
theorem dX1_stand_0 : decode cX1_stand 0 = .ok (.aload_n 1, 1) := by decide +kernel
theorem dX1_stand_1 : decode cX1_stand 1 = .ok (.aload_n 0, 1) := by decide +kernel
theorem dX1_stand_2 : decode cX1_stand 2 = .ok (.getfield 46, 3) := by decide +kernel
theorem dX1_stand_5 : decode cX1_stand 5 = .ok (.invokestatic 70, 3) := by decide +kernel
theorem dX1_stand_8 : decode cX1_stand 8 = .ok (.aload_n 0, 1) := by decide +kernel
theorem dX1_stand_9 : decode cX1_stand 9 = .ok (.invokevirtual 90, 3) := by decide +kernel
theorem dX1_stand_12 : decode cX1_stand 12 = .ok (.return_, 1) := by decide +kernel
abbrev MFair_stand_who : rx_M := (RX1, yX1_stand, cX1_stand, 2, none, 4)
theorem kFair_stand_who : rKv MFair_stand_who 1 := ⟨tb_in (i := 10) (j := 12) rfl rfl, tb_in (i := 10) (j := 13) rfl rfl, tb_in (i := 3) (j := 26) rfl rfl, tb_in (i := 4) (j := 6) rfl rfl, ⟨by decide, by decide, by decide +kernel⟩, by decide⟩
section
variable {a0 : Nat → Nat} {a1 : Nat → Nat} {z0_lasts : Int32} {z0_keeps : Int32} {z0_stalls : Int32} {z0_buyers : Int32} {z0_minute : Int32} {z0_goods : Nat → Int32} {z0_price : Nat → Int32} {z0_tongue : Nat → Int32} {z0_till : Nat → Int32} {z0_wealth : Nat → Int32} {z0_sold : Nat → Int32} {z0_ring : Nat → Int32} {z0_grudges : Nat → Int32} {z0_purse : Nat → Int32} {z0_came : Nat → Int32} {z0_had : Nat → Int32} {z0_seller : Nat → Int32} {z0_praise : Nat → Int32} {z0_borne : Nat → Int32} {z1_who : Nat → Int32} {z1_size : Int32}
def mFair_stand_who (z0_stalls : Int32) (z0_tongue : Nat → Int32) (z0_ring : Nat → Int32) (z0_grudges : Nat → Int32) (z0_seller : Nat → Int32) (z0_praise : Nat → Int32) (z0_borne : Nat → Int32) (z1_who : Nat → Int32) : Option ((Nat → Int32) × (Nat → Int32) × (Nat → Int32) × (Nat → Int32)) := (mFair_copyRow_who_ring z1_who z0_ring).bind (fun q1 => (mFair_arrange z0_stalls z0_tongue q1 z0_grudges z0_seller z0_praise z0_borne).bind (fun q2 => some (q1, q2.1, q2.2.1, q2.2.2)))
set_option maxHeartbeats 4000000 in
set_option maxRecDepth 20000 in
theorem cFair_stand_who {q : (Nat → Int32) × (Nat → Int32) × (Nat → Int32) × (Nat → Int32)}  (h : mFair_stand_who z0_stalls z0_tongue z0_ring z0_grudges z0_seller z0_praise z0_borne z1_who = some q) : rMet l D Z (ty7 K) MFair_stand_who [.ref (a0 0), .ref (a1 1)] (List.flatten [bFair K a0 z0_lasts z0_keeps z0_stalls z0_buyers z0_minute z0_goods z0_price z0_tongue z0_till z0_wealth z0_sold z0_ring z0_grudges z0_purse z0_came z0_had z0_seller z0_praise z0_borne, bOrder K a1 z1_who z1_size]) (List.flatten [bFair K a0 z0_lasts z0_keeps z0_stalls z0_buyers z0_minute z0_goods z0_price z0_tongue z0_till z0_wealth z0_sold q.1 z0_grudges z0_purse z0_came z0_had q.2.1 q.2.2.1 q.2.2.2, bOrder K a1 z1_who z1_size]) none := by
  refine rMet.of (by decide) rfl (Nat.le_of_ble_eq_true rfl) ?_
  refine r_sub (lv' := [(0, .ref (a0 0)), (1, .ref (a1 1))]) [0, 1] rfl ?_
  unfold mFair_stand_who at h
  refine r_aload_n 1 dX1_stand_0 rfl ?_
  refine r_aload_n 0 dX1_stand_1 rfl ?_
  refine gFair_ring 0 rfl (tb_in (i := 3) (j := 9) rfl rfl) dX1_stand_2 ?_
  obtain ⟨q1, h1, h⟩ := bd_some h
  refine b_callS (isC := [1, 0]) (st := []) (bs1 := [bFair K a0 z0_lasts z0_keeps z0_stalls z0_buyers z0_minute z0_goods z0_price z0_tongue z0_till z0_wealth z0_sold q1 z0_grudges z0_purse z0_came z0_had z0_seller z0_praise z0_borne, bOrder K a1 z1_who z1_size]) (cFair_copyRow_who_ring (a0 := a1) (a1 := a0) (z0_who := z1_who) (z0_size := z1_size) (z1_lasts := z0_lasts) (z1_keeps := z0_keeps) (z1_stalls := z0_stalls) (z1_buyers := z0_buyers) (z1_minute := z0_minute) (z1_goods := z0_goods) (z1_price := z0_price) (z1_tongue := z0_tongue) (z1_till := z0_till) (z1_wealth := z0_wealth) (z1_sold := z0_sold) (z1_ring := z0_ring) (z1_grudges := z0_grudges) (z1_purse := z0_purse) (z1_came := z0_came) (z1_had := z0_had) (z1_seller := z0_seller) (z1_praise := z0_praise) (z1_borne := z0_borne) h1) rfl rfl (Nat.le_of_ble_eq_true rfl) kFair_copyRow_who_ring (tb_in (i := 3) (j := 24) rfl rfl) (by decide) (by decide) rfl rfl rfl dX1_stand_5 ?_
  refine r_aload_n 0 dX1_stand_8 rfl ?_
  obtain ⟨q2, h2, h⟩ := bd_some h
  refine b_callV (isC := [0]) (ci := 1)  (st := []) (bs1 := [bFair K a0 z0_lasts z0_keeps z0_stalls z0_buyers z0_minute z0_goods z0_price z0_tongue z0_till z0_wealth z0_sold q1 z0_grudges z0_purse z0_came z0_had q2.1 q2.2.1 q2.2.2, bOrder K a1 z1_who z1_size]) (cFair_arrange (a0 := a0) (z0_lasts := z0_lasts) (z0_keeps := z0_keeps) (z0_stalls := z0_stalls) (z0_buyers := z0_buyers) (z0_minute := z0_minute) (z0_goods := z0_goods) (z0_price := z0_price) (z0_tongue := z0_tongue) (z0_till := z0_till) (z0_wealth := z0_wealth) (z0_sold := z0_sold) (z0_ring := q1) (z0_grudges := z0_grudges) (z0_purse := z0_purse) (z0_came := z0_came) (z0_had := z0_had) (z0_seller := z0_seller) (z0_praise := z0_praise) (z0_borne := z0_borne) h2) rfl rfl (Nat.le_of_ble_eq_true rfl) kFair_arrange (tb_in (i := 4) (j := 3) rfl rfl) (by decide) (by decide) rfl rfl rfl rfl rfl rfl rfl dX1_stand_9 ?_
  have hq := Option.some.inj h
  subst hq
  exact r_vret rfl dX1_stand_12
end
theorem dX1_can_0 : decode cX1_can 0 = .ok (.aload_n 0, 1) := by decide +kernel
theorem dX1_can_1 : decode cX1_can 1 = .ok (.getfield 27, 3) := by decide +kernel
theorem dX1_can_4 : decode cX1_can 4 = .ok (.iload_n 2, 1) := by decide +kernel
theorem dX1_can_5 : decode cX1_can 5 = .ok (.iaload, 1) := by decide +kernel
theorem dX1_can_6 : decode cX1_can 6 = .ok (.ifCond .le 22, 3) := by decide +kernel
theorem dX1_can_9 : decode cX1_can 9 = .ok (.aload_n 0, 1) := by decide +kernel
theorem dX1_can_10 : decode cX1_can 10 = .ok (.getfield 31, 3) := by decide +kernel
theorem dX1_can_13 : decode cX1_can 13 = .ok (.iload_n 2, 1) := by decide +kernel
theorem dX1_can_14 : decode cX1_can 14 = .ok (.iaload, 1) := by decide +kernel
theorem dX1_can_15 : decode cX1_can 15 = .ok (.aload_n 0, 1) := by decide +kernel
theorem dX1_can_16 : decode cX1_can 16 = .ok (.getfield 52, 3) := by decide +kernel
theorem dX1_can_19 : decode cX1_can 19 = .ok (.iload_n 1, 1) := by decide +kernel
theorem dX1_can_20 : decode cX1_can 20 = .ok (.iaload, 1) := by decide +kernel
theorem dX1_can_21 : decode cX1_can 21 = .ok (.if_icmp .gt 7, 3) := by decide +kernel
theorem dX1_can_24 : decode cX1_can 24 = .ok (.iconst 1, 1) := by decide +kernel
theorem dX1_can_25 : decode cX1_can 25 = .ok (.goto 4, 3) := by decide +kernel
theorem dX1_can_28 : decode cX1_can 28 = .ok (.iconst 0, 1) := by decide +kernel
theorem dX1_can_29 : decode cX1_can 29 = .ok (.ireturn, 1) := by decide +kernel
abbrev MFair_can : rx_M := (RX1, yX1_can, cX1_can, 3, (some .boolean), 1)
theorem kFair_can : rKv MFair_can 2 := ⟨tb_in (i := 4) (j := 16) rfl rfl, tb_in (i := 4) (j := 17) rfl rfl, tb_in (i := 3) (j := 26) rfl rfl, tb_in (i := 4) (j := 13) rfl rfl, ⟨by decide, by decide, by decide +kernel⟩, by decide⟩
section
variable {a0 : Nat → Nat} {z0_lasts : Int32} {z0_keeps : Int32} {z0_stalls : Int32} {z0_buyers : Int32} {z0_minute : Int32} {z0_goods : Nat → Int32} {z0_price : Nat → Int32} {z0_tongue : Nat → Int32} {z0_till : Nat → Int32} {z0_wealth : Nat → Int32} {z0_sold : Nat → Int32} {z0_ring : Nat → Int32} {z0_grudges : Nat → Int32} {z0_purse : Nat → Int32} {z0_came : Nat → Int32} {z0_had : Nat → Int32} {z0_seller : Nat → Int32} {z0_praise : Nat → Int32} {z0_borne : Nat → Int32}
def mFair_can (x1 : Int32) (x2 : Int32) (z0_goods : Nat → Int32) (z0_price : Nat → Int32) (z0_purse : Nat → Int32) : Option (Int32) := rq (inb x2 6) ((if (z0_goods x2.toNatClampNeg) ≤ 0 then some ((0 : Int32)) else rq (inb x2 6) (rq (inb x1 6) ((if (z0_purse x1.toNatClampNeg) < (z0_price x2.toNatClampNeg) then some ((0 : Int32)) else some ((1 : Int32)))))))
set_option maxHeartbeats 4000000 in
set_option maxRecDepth 20000 in
theorem cFair_can {q : Int32} {x1 : Int32} {x2 : Int32} (h : mFair_can x1 x2 z0_goods z0_price z0_purse = some q) : rMet l D Z (ty7 K) MFair_can [.ref (a0 0), .int x1, .int x2] (List.flatten [bFair K a0 z0_lasts z0_keeps z0_stalls z0_buyers z0_minute z0_goods z0_price z0_tongue z0_till z0_wealth z0_sold z0_ring z0_grudges z0_purse z0_came z0_had z0_seller z0_praise z0_borne]) (List.flatten [bFair K a0 z0_lasts z0_keeps z0_stalls z0_buyers z0_minute z0_goods z0_price z0_tongue z0_till z0_wealth z0_sold z0_ring z0_grudges z0_purse z0_came z0_had z0_seller z0_praise z0_borne]) (some (.int q)) := by
  refine rMet.of (by decide) rfl (Nat.le_of_ble_eq_true rfl) ?_
  refine r_sub (lv' := [(0, .ref (a0 0)), (1, .int x1), (2, .int x2)]) [0, 1, 2] rfl ?_
  unfold mFair_can at h
  refine r_aload_n 0 dX1_can_0 rfl ?_
  refine gFair_goods 0 rfl (tb_in (i := 3) (j := 3) rfl rfl) dX1_can_1 ?_
  refine r_iload_n 2 dX1_can_4 rfl ?_
  obtain ⟨h1, h⟩ := rq_some h
  refine lFair_goods 0 rfl (inb_in h1) dX1_can_5 ?_
  refine r_if_le 28 dX1_can_6 (by decide) (fun c2 => ?_) (fun c2 => ?_)
  · replace h := it_pos c2 h
    refine r_iconst (x := (0 : Int32)) dX1_can_28 (by decide) ?_
    have hq := Option.some.inj h
    subst hq
    exact r_zret (ty := .boolean) rfl rfl dX1_can_29
  · replace h := it_neg c2 h
    refine r_aload_n 0 dX1_can_9 rfl ?_
    refine gFair_price 0 rfl (tb_in (i := 3) (j := 4) rfl rfl) dX1_can_10 ?_
    refine r_iload_n 2 dX1_can_13 rfl ?_
    obtain ⟨h3, h⟩ := rq_some h
    refine lFair_price 0 rfl (inb_in h3) dX1_can_14 ?_
    refine r_aload_n 0 dX1_can_15 rfl ?_
    refine gFair_purse 0 rfl (tb_in (i := 3) (j := 11) rfl rfl) dX1_can_16 ?_
    refine r_iload_n 1 dX1_can_19 rfl ?_
    obtain ⟨h4, h⟩ := rq_some h
    refine lFair_purse 0 rfl (inb_in h4) dX1_can_20 ?_
    refine r_icmp_gt 28 dX1_can_21 (by decide) (fun c5 => ?_) (fun c5 => ?_)
    · replace h := it_pos c5 h
      refine r_iconst (x := (0 : Int32)) dX1_can_28 (by decide) ?_
      have hq := Option.some.inj h
      subst hq
      exact r_zret (ty := .boolean) rfl rfl dX1_can_29
    · replace h := it_neg c5 h
      refine r_iconst (x := (1 : Int32)) dX1_can_24 (by decide) ?_
      refine r_goto 29 dX1_can_25 (by decide) ?_
      have hq := Option.some.inj h
      subst hq
      exact r_zret (ty := .boolean) rfl rfl dX1_can_29
end
theorem dX6_tellWords_0 : decode cX6_tellWords 0 = .ok (.aload_n 1, 1) := by decide +kernel
theorem dX6_tellWords_1 : decode cX6_tellWords 1 = .ok (.getfield 55, 3) := by decide +kernel
theorem dX6_tellWords_4 : decode cX6_tellWords 4 = .ok (.ifCond .le 10, 3) := by decide +kernel
theorem dX6_tellWords_7 : decode cX6_tellWords 7 = .ok (.aload_n 1, 1) := by decide +kernel
theorem dX6_tellWords_8 : decode cX6_tellWords 8 = .ok (.getfield 55, 3) := by decide +kernel
theorem dX6_tellWords_11 : decode cX6_tellWords 11 = .ok (.goto 4, 3) := by decide +kernel
theorem dX6_tellWords_14 : decode cX6_tellWords 14 = .ok (.iconst 1, 1) := by decide +kernel
theorem dX6_tellWords_15 : decode cX6_tellWords 15 = .ok (.istore 4, 2) := by decide +kernel
theorem dX6_tellWords_17 : decode cX6_tellWords 17 = .ok (.aload_n 0, 1) := by decide +kernel
theorem dX6_tellWords_18 : decode cX6_tellWords 18 = .ok (.getfield 40, 3) := by decide +kernel
theorem dX6_tellWords_21 : decode cX6_tellWords 21 = .ok (.iconst 0, 1) := by decide +kernel
theorem dX6_tellWords_22 : decode cX6_tellWords 22 = .ok (.iload_n 2, 1) := by decide +kernel
theorem dX6_tellWords_23 : decode cX6_tellWords 23 = .ok (.i2l, 1) := by decide +kernel
theorem dX6_tellWords_24 : decode cX6_tellWords 24 = .ok (.lastore, 1) := by decide +kernel
theorem dX6_tellWords_25 : decode cX6_tellWords 25 = .ok (.aload_n 0, 1) := by decide +kernel
theorem dX6_tellWords_26 : decode cX6_tellWords 26 = .ok (.getfield 40, 3) := by decide +kernel
theorem dX6_tellWords_29 : decode cX6_tellWords 29 = .ok (.iconst 1, 1) := by decide +kernel
theorem dX6_tellWords_30 : decode cX6_tellWords 30 = .ok (.iload_n 3, 1) := by decide +kernel
theorem dX6_tellWords_31 : decode cX6_tellWords 31 = .ok (.i2l, 1) := by decide +kernel
theorem dX6_tellWords_32 : decode cX6_tellWords 32 = .ok (.lastore, 1) := by decide +kernel
theorem dX6_tellWords_33 : decode cX6_tellWords 33 = .ok (.aload_n 0, 1) := by decide +kernel
theorem dX6_tellWords_34 : decode cX6_tellWords 34 = .ok (.getfield 40, 3) := by decide +kernel
theorem dX6_tellWords_37 : decode cX6_tellWords 37 = .ok (.iconst 2, 1) := by decide +kernel
theorem dX6_tellWords_38 : decode cX6_tellWords 38 = .ok (.aload_n 1, 1) := by decide +kernel
theorem dX6_tellWords_39 : decode cX6_tellWords 39 = .ok (.getfield 60, 3) := by decide +kernel
theorem dX6_tellWords_42 : decode cX6_tellWords 42 = .ok (.iload_n 2, 1) := by decide +kernel
theorem dX6_tellWords_43 : decode cX6_tellWords 43 = .ok (.iaload, 1) := by decide +kernel
theorem dX6_tellWords_44 : decode cX6_tellWords 44 = .ok (.i2l, 1) := by decide +kernel
theorem dX6_tellWords_45 : decode cX6_tellWords 45 = .ok (.lastore, 1) := by decide +kernel
theorem dX6_tellWords_46 : decode cX6_tellWords 46 = .ok (.aload_n 0, 1) := by decide +kernel
theorem dX6_tellWords_47 : decode cX6_tellWords 47 = .ok (.getfield 40, 3) := by decide +kernel
theorem dX6_tellWords_50 : decode cX6_tellWords 50 = .ok (.iconst 3, 1) := by decide +kernel
theorem dX6_tellWords_51 : decode cX6_tellWords 51 = .ok (.aload_n 1, 1) := by decide +kernel
theorem dX6_tellWords_52 : decode cX6_tellWords 52 = .ok (.getfield 63, 3) := by decide +kernel
theorem dX6_tellWords_55 : decode cX6_tellWords 55 = .ok (.iload_n 3, 1) := by decide +kernel
theorem dX6_tellWords_56 : decode cX6_tellWords 56 = .ok (.iaload, 1) := by decide +kernel
theorem dX6_tellWords_57 : decode cX6_tellWords 57 = .ok (.i2l, 1) := by decide +kernel
theorem dX6_tellWords_58 : decode cX6_tellWords 58 = .ok (.lastore, 1) := by decide +kernel
theorem dX6_tellWords_59 : decode cX6_tellWords 59 = .ok (.aload_n 0, 1) := by decide +kernel
theorem dX6_tellWords_60 : decode cX6_tellWords 60 = .ok (.getfield 40, 3) := by decide +kernel
theorem dX6_tellWords_63 : decode cX6_tellWords 63 = .ok (.iconst 4, 1) := by decide +kernel
theorem dX6_tellWords_64 : decode cX6_tellWords 64 = .ok (.aload_n 1, 1) := by decide +kernel
theorem dX6_tellWords_65 : decode cX6_tellWords 65 = .ok (.getfield 66, 3) := by decide +kernel
theorem dX6_tellWords_68 : decode cX6_tellWords 68 = .ok (.iload_n 3, 1) := by decide +kernel
theorem dX6_tellWords_69 : decode cX6_tellWords 69 = .ok (.iaload, 1) := by decide +kernel
theorem dX6_tellWords_70 : decode cX6_tellWords 70 = .ok (.i2l, 1) := by decide +kernel
theorem dX6_tellWords_71 : decode cX6_tellWords 71 = .ok (.lastore, 1) := by decide +kernel
theorem dX6_tellWords_72 : decode cX6_tellWords 72 = .ok (.aload_n 0, 1) := by decide +kernel
theorem dX6_tellWords_73 : decode cX6_tellWords 73 = .ok (.getfield 40, 3) := by decide +kernel
theorem dX6_tellWords_76 : decode cX6_tellWords 76 = .ok (.iconst 5, 1) := by decide +kernel
theorem dX6_tellWords_77 : decode cX6_tellWords 77 = .ok (.aload_n 1, 1) := by decide +kernel
theorem dX6_tellWords_78 : decode cX6_tellWords 78 = .ok (.getfield 69, 3) := by decide +kernel
theorem dX6_tellWords_81 : decode cX6_tellWords 81 = .ok (.iload_n 2, 1) := by decide +kernel
theorem dX6_tellWords_82 : decode cX6_tellWords 82 = .ok (.iaload, 1) := by decide +kernel
theorem dX6_tellWords_83 : decode cX6_tellWords 83 = .ok (.iload_n 3, 1) := by decide +kernel
theorem dX6_tellWords_84 : decode cX6_tellWords 84 = .ok (.if_icmp .ne 7, 3) := by decide +kernel
theorem dX6_tellWords_87 : decode cX6_tellWords 87 = .ok (.lconst 1, 1) := by decide +kernel
theorem dX6_tellWords_88 : decode cX6_tellWords 88 = .ok (.goto 4, 3) := by decide +kernel
theorem dX6_tellWords_91 : decode cX6_tellWords 91 = .ok (.lconst 0, 1) := by decide +kernel
theorem dX6_tellWords_92 : decode cX6_tellWords 92 = .ok (.lastore, 1) := by decide +kernel
theorem dX6_tellWords_93 : decode cX6_tellWords 93 = .ok (.aload_n 0, 1) := by decide +kernel
theorem dX6_tellWords_94 : decode cX6_tellWords 94 = .ok (.getfield 40, 3) := by decide +kernel
theorem dX6_tellWords_97 : decode cX6_tellWords 97 = .ok (.bipush 6, 2) := by decide +kernel
theorem dX6_tellWords_99 : decode cX6_tellWords 99 = .ok (.aload_n 1, 1) := by decide +kernel
theorem dX6_tellWords_100 : decode cX6_tellWords 100 = .ok (.getfield 72, 3) := by decide +kernel
theorem dX6_tellWords_103 : decode cX6_tellWords 103 = .ok (.iload_n 3, 1) := by decide +kernel
theorem dX6_tellWords_104 : decode cX6_tellWords 104 = .ok (.iaload, 1) := by decide +kernel
theorem dX6_tellWords_105 : decode cX6_tellWords 105 = .ok (.i2l, 1) := by decide +kernel
theorem dX6_tellWords_106 : decode cX6_tellWords 106 = .ok (.lastore, 1) := by decide +kernel
theorem dX6_tellWords_107 : decode cX6_tellWords 107 = .ok (.aload_n 0, 1) := by decide +kernel
theorem dX6_tellWords_108 : decode cX6_tellWords 108 = .ok (.getfield 40, 3) := by decide +kernel
theorem dX6_tellWords_111 : decode cX6_tellWords 111 = .ok (.bipush 7, 2) := by decide +kernel
theorem dX6_tellWords_113 : decode cX6_tellWords 113 = .ok (.aload_n 1, 1) := by decide +kernel
theorem dX6_tellWords_114 : decode cX6_tellWords 114 = .ok (.getfield 75, 3) := by decide +kernel
theorem dX6_tellWords_117 : decode cX6_tellWords 117 = .ok (.iload_n 3, 1) := by decide +kernel
theorem dX6_tellWords_118 : decode cX6_tellWords 118 = .ok (.iaload, 1) := by decide +kernel
theorem dX6_tellWords_119 : decode cX6_tellWords 119 = .ok (.i2l, 1) := by decide +kernel
theorem dX6_tellWords_120 : decode cX6_tellWords 120 = .ok (.lastore, 1) := by decide +kernel
theorem dX6_tellWords_121 : decode cX6_tellWords 121 = .ok (.aload_n 0, 1) := by decide +kernel
theorem dX6_tellWords_122 : decode cX6_tellWords 122 = .ok (.getfield 40, 3) := by decide +kernel
theorem dX6_tellWords_125 : decode cX6_tellWords 125 = .ok (.bipush 8, 2) := by decide +kernel
theorem dX6_tellWords_127 : decode cX6_tellWords 127 = .ok (.aload_n 1, 1) := by decide +kernel
theorem dX6_tellWords_128 : decode cX6_tellWords 128 = .ok (.getfield 78, 3) := by decide +kernel
theorem dX6_tellWords_131 : decode cX6_tellWords 131 = .ok (.iload_n 2, 1) := by decide +kernel
theorem dX6_tellWords_132 : decode cX6_tellWords 132 = .ok (.bipush 6, 2) := by decide +kernel
theorem dX6_tellWords_134 : decode cX6_tellWords 134 = .ok (.imul, 1) := by decide +kernel
theorem dX6_tellWords_135 : decode cX6_tellWords 135 = .ok (.iload_n 3, 1) := by decide +kernel
theorem dX6_tellWords_136 : decode cX6_tellWords 136 = .ok (.iadd, 1) := by decide +kernel
theorem dX6_tellWords_137 : decode cX6_tellWords 137 = .ok (.iaload, 1) := by decide +kernel
theorem dX6_tellWords_138 : decode cX6_tellWords 138 = .ok (.i2l, 1) := by decide +kernel
theorem dX6_tellWords_139 : decode cX6_tellWords 139 = .ok (.lastore, 1) := by decide +kernel
theorem dX6_tellWords_140 : decode cX6_tellWords 140 = .ok (.aload_n 0, 1) := by decide +kernel
theorem dX6_tellWords_141 : decode cX6_tellWords 141 = .ok (.getfield 40, 3) := by decide +kernel
theorem dX6_tellWords_144 : decode cX6_tellWords 144 = .ok (.bipush 9, 2) := by decide +kernel
theorem dX6_tellWords_146 : decode cX6_tellWords 146 = .ok (.aload_n 1, 1) := by decide +kernel
theorem dX6_tellWords_147 : decode cX6_tellWords 147 = .ok (.getfield 81, 3) := by decide +kernel
theorem dX6_tellWords_150 : decode cX6_tellWords 150 = .ok (.iload_n 3, 1) := by decide +kernel
theorem dX6_tellWords_151 : decode cX6_tellWords 151 = .ok (.iaload, 1) := by decide +kernel
theorem dX6_tellWords_152 : decode cX6_tellWords 152 = .ok (.i2l, 1) := by decide +kernel
theorem dX6_tellWords_153 : decode cX6_tellWords 153 = .ok (.lastore, 1) := by decide +kernel
theorem dX6_tellWords_154 : decode cX6_tellWords 154 = .ok (.aload_n 0, 1) := by decide +kernel
theorem dX6_tellWords_155 : decode cX6_tellWords 155 = .ok (.getfield 40, 3) := by decide +kernel
theorem dX6_tellWords_158 : decode cX6_tellWords 158 = .ok (.bipush 10, 2) := by decide +kernel
theorem dX6_tellWords_160 : decode cX6_tellWords 160 = .ok (.aload_n 1, 1) := by decide +kernel
theorem dX6_tellWords_161 : decode cX6_tellWords 161 = .ok (.getfield 84, 3) := by decide +kernel
theorem dX6_tellWords_164 : decode cX6_tellWords 164 = .ok (.iload 4, 2) := by decide +kernel
theorem dX6_tellWords_166 : decode cX6_tellWords 166 = .ok (.irem, 1) := by decide +kernel
theorem dX6_tellWords_167 : decode cX6_tellWords 167 = .ok (.i2l, 1) := by decide +kernel
theorem dX6_tellWords_168 : decode cX6_tellWords 168 = .ok (.lastore, 1) := by decide +kernel
theorem dX6_tellWords_169 : decode cX6_tellWords 169 = .ok (.aload_n 0, 1) := by decide +kernel
theorem dX6_tellWords_170 : decode cX6_tellWords 170 = .ok (.getfield 40, 3) := by decide +kernel
theorem dX6_tellWords_173 : decode cX6_tellWords 173 = .ok (.bipush 11, 2) := by decide +kernel
theorem dX6_tellWords_175 : decode cX6_tellWords 175 = .ok (.aload_n 1, 1) := by decide +kernel
theorem dX6_tellWords_176 : decode cX6_tellWords 176 = .ok (.getfield 84, 3) := by decide +kernel
theorem dX6_tellWords_179 : decode cX6_tellWords 179 = .ok (.iload 4, 2) := by decide +kernel
theorem dX6_tellWords_181 : decode cX6_tellWords 181 = .ok (.idiv, 1) := by decide +kernel
theorem dX6_tellWords_182 : decode cX6_tellWords 182 = .ok (.i2l, 1) := by decide +kernel
theorem dX6_tellWords_183 : decode cX6_tellWords 183 = .ok (.lastore, 1) := by decide +kernel
theorem dX6_tellWords_184 : decode cX6_tellWords 184 = .ok (.return_, 1) := by decide +kernel
abbrev MRule_tellWords : rx_M := (RX6, yX6_tellWords, cX6_tellWords, 5, none, 1)
theorem kRule_tellWords : rKv MRule_tellWords 3 := ⟨tb_in (i := 4) (j := 31) rfl rfl, tb_in (i := 5) (j := 0) rfl rfl, tb_in (i := 5) (j := 1) rfl rfl, tb_in (i := 4) (j := 19) rfl rfl, ⟨by decide, by decide, by decide +kernel⟩, by decide⟩
section
variable {a0 : Nat → Nat} {a1 : Nat → Nat} {z0_steps : Nat → Int32} {z0_size : Int32} {z0_sumFrom : Nat → Int32} {z0_testFrom : Nat → Int32} {z0_testTo : Nat → Int32} {z0_clauses : Int32} {z0_parts : Int32} {z0_readsTime : Int32} {z0_words : Nat → Int64} {z0_stack : Nat → Int64} {z1_lasts : Int32} {z1_keeps : Int32} {z1_stalls : Int32} {z1_buyers : Int32} {z1_minute : Int32} {z1_goods : Nat → Int32} {z1_price : Nat → Int32} {z1_tongue : Nat → Int32} {z1_till : Nat → Int32} {z1_wealth : Nat → Int32} {z1_sold : Nat → Int32} {z1_ring : Nat → Int32} {z1_grudges : Nat → Int32} {z1_purse : Nat → Int32} {z1_came : Nat → Int32} {z1_had : Nat → Int32} {z1_seller : Nat → Int32} {z1_praise : Nat → Int32} {z1_borne : Nat → Int32}
def mRule_tellWords_j92 (x2 : Int32) (x3 : Int32) (x4 : Int32) (z0_words : Nat → Int64) (z1_lasts : Int32) (z1_minute : Int32) (z1_goods : Nat → Int32) (z1_price : Nat → Int32) (z1_sold : Nat → Int32) (z1_purse : Nat → Int32) (z1_came : Nat → Int32) (z1_had : Nat → Int32) (z1_praise : Nat → Int32) (z1_borne : Nat → Int32) (s1 : Int32) (s2 : Int64) : Option ((Nat → Int64)) := rq (inb s1 12) (lt (vp_updL z0_words s1.toNatClampNeg s2) (fun u12 => rq (inb x3 6) (rq (inb (6 : Int32) 12) (lt (vp_updL u12 (6 : Int32).toNatClampNeg ((z1_goods x3.toNatClampNeg).toInt64)) (fun u14 => rq (inb x3 6) (rq (inb (7 : Int32) 12) (lt (vp_updL u14 (7 : Int32).toNatClampNeg ((z1_sold x3.toNatClampNeg).toInt64)) (fun u16 => rq (inb ((x2 * (6 : Int32)) + x3) 36) (rq (inb (8 : Int32) 12) (lt (vp_updL u16 (8 : Int32).toNatClampNeg ((z1_had ((x2 * (6 : Int32)) + x3).toNatClampNeg).toInt64)) (fun u18 => rq (inb x3 6) (rq (inb (9 : Int32) 12) (lt (vp_updL u18 (9 : Int32).toNatClampNeg ((z1_borne x3.toNatClampNeg).toInt64)) (fun u20 => rq (decide (¬ x4 = 0)) (rq (inb (10 : Int32) 12) (lt (vp_updL u20 (10 : Int32).toNatClampNeg ((z1_minute - z1_minute / x4 * x4).toInt64)) (fun u22 => rq (decide (¬ x4 = 0)) (rq (inb (11 : Int32) 12) (lt (vp_updL u22 (11 : Int32).toNatClampNeg ((z1_minute / x4).toInt64)) (fun u24 => some (u24)))))))))))))))))))))
set_option maxHeartbeats 4000000 in
set_option maxRecDepth 20000 in
theorem cRule_tellWords_j92 {q : (Nat → Int64)} {x2 : Int32} {x3 : Int32} {x4 : Int32} {s1 : Int32} {s2 : Int64}  (h : mRule_tellWords_j92 x2 x3 x4 z0_words z1_lasts z1_minute z1_goods z1_price z1_sold z1_purse z1_came z1_had z1_praise z1_borne s1 s2 = some q) : rW l D Z (ty7 K) MRule_tellWords 92 [(0, .ref (a0 0)), (1, .ref (a1 0)), (2, .int x2), (3, .int x3), (4, .int x4)] [.long s2, .int s1, .ref (a0 5)] (List.flatten [bRule K a0 z0_steps z0_size z0_sumFrom z0_testFrom z0_testTo z0_clauses z0_parts z0_readsTime z0_words z0_stack, bFair K a1 z1_lasts z1_keeps z1_stalls z1_buyers z1_minute z1_goods z1_price z1_tongue z1_till z1_wealth z1_sold z1_ring z1_grudges z1_purse z1_came z1_had z1_seller z1_praise z1_borne]) (List.flatten [bRule K a0 z0_steps z0_size z0_sumFrom z0_testFrom z0_testTo z0_clauses z0_parts z0_readsTime q z0_stack, bFair K a1 z1_lasts z1_keeps z1_stalls z1_buyers z1_minute z1_goods z1_price z1_tongue z1_till z1_wealth z1_sold z1_ring z1_grudges z1_purse z1_came z1_had z1_seller z1_praise z1_borne]) none := by
  unfold mRule_tellWords_j92 at h
  obtain ⟨h12, h⟩ := rq_some h
  obtain ⟨u12, e12, h⟩ := lt_some h
  refine sRule_words (bs1 := [bRule K a0 z0_steps z0_size z0_sumFrom z0_testFrom z0_testTo z0_clauses z0_parts z0_readsTime u12 z0_stack, bFair K a1 z1_lasts z1_keeps z1_stalls z1_buyers z1_minute z1_goods z1_price z1_tongue z1_till z1_wealth z1_sold z1_ring z1_grudges z1_purse z1_came z1_had z1_seller z1_praise z1_borne]) 0 e12 rfl (inb_in h12) rfl dX6_tellWords_92 ?_
  refine r_aload_n 0 dX6_tellWords_93 rfl ?_
  refine gRule_words 0 rfl (tb_in (i := 4) (j := 20) rfl rfl) dX6_tellWords_94 ?_
  refine r_bipush (x := (6 : Int32)) dX6_tellWords_97 (by decide) ?_
  refine r_aload_n 1 dX6_tellWords_99 rfl ?_
  refine gFair_goodsN 1 rfl (List.mem_of_getElem? (i := 23) rfl) dX6_tellWords_100 ?_
  refine r_iload_n 3 dX6_tellWords_103 rfl ?_
  obtain ⟨h13, h⟩ := rq_some h
  refine lFair_goods 1 rfl (inb_in h13) dX6_tellWords_104 ?_
  refine r_i2l dX6_tellWords_105 ?_
  obtain ⟨h14, h⟩ := rq_some h
  obtain ⟨u14, e14, h⟩ := lt_some h
  refine sRule_words (bs1 := [bRule K a0 z0_steps z0_size z0_sumFrom z0_testFrom z0_testTo z0_clauses z0_parts z0_readsTime u14 z0_stack, bFair K a1 z1_lasts z1_keeps z1_stalls z1_buyers z1_minute z1_goods z1_price z1_tongue z1_till z1_wealth z1_sold z1_ring z1_grudges z1_purse z1_came z1_had z1_seller z1_praise z1_borne]) 0 e14 rfl (inb_in h14) rfl dX6_tellWords_106 ?_
  refine r_aload_n 0 dX6_tellWords_107 rfl ?_
  refine gRule_words 0 rfl (tb_in (i := 4) (j := 20) rfl rfl) dX6_tellWords_108 ?_
  refine r_bipush (x := (7 : Int32)) dX6_tellWords_111 (by decide) ?_
  refine r_aload_n 1 dX6_tellWords_113 rfl ?_
  refine gFair_soldN 1 rfl (List.mem_of_getElem? (i := 34) rfl) dX6_tellWords_114 ?_
  refine r_iload_n 3 dX6_tellWords_117 rfl ?_
  obtain ⟨h15, h⟩ := rq_some h
  refine lFair_sold 1 rfl (inb_in h15) dX6_tellWords_118 ?_
  refine r_i2l dX6_tellWords_119 ?_
  obtain ⟨h16, h⟩ := rq_some h
  obtain ⟨u16, e16, h⟩ := lt_some h
  refine sRule_words (bs1 := [bRule K a0 z0_steps z0_size z0_sumFrom z0_testFrom z0_testTo z0_clauses z0_parts z0_readsTime u16 z0_stack, bFair K a1 z1_lasts z1_keeps z1_stalls z1_buyers z1_minute z1_goods z1_price z1_tongue z1_till z1_wealth z1_sold z1_ring z1_grudges z1_purse z1_came z1_had z1_seller z1_praise z1_borne]) 0 e16 rfl (inb_in h16) rfl dX6_tellWords_120 ?_
  refine r_aload_n 0 dX6_tellWords_121 rfl ?_
  refine gRule_words 0 rfl (tb_in (i := 4) (j := 20) rfl rfl) dX6_tellWords_122 ?_
  refine r_bipush (x := (8 : Int32)) dX6_tellWords_125 (by decide) ?_
  refine r_aload_n 1 dX6_tellWords_127 rfl ?_
  refine gFair_hadN 1 rfl (List.mem_of_getElem? (i := 41) rfl) dX6_tellWords_128 ?_
  refine r_iload_n 2 dX6_tellWords_131 rfl ?_
  refine r_bipush (x := (6 : Int32)) dX6_tellWords_132 (by decide) ?_
  refine r_imul dX6_tellWords_134 ?_
  refine r_iload_n 3 dX6_tellWords_135 rfl ?_
  refine r_iadd dX6_tellWords_136 ?_
  obtain ⟨h17, h⟩ := rq_some h
  refine lFair_had 1 rfl (inb_in h17) dX6_tellWords_137 ?_
  refine r_i2l dX6_tellWords_138 ?_
  obtain ⟨h18, h⟩ := rq_some h
  obtain ⟨u18, e18, h⟩ := lt_some h
  refine sRule_words (bs1 := [bRule K a0 z0_steps z0_size z0_sumFrom z0_testFrom z0_testTo z0_clauses z0_parts z0_readsTime u18 z0_stack, bFair K a1 z1_lasts z1_keeps z1_stalls z1_buyers z1_minute z1_goods z1_price z1_tongue z1_till z1_wealth z1_sold z1_ring z1_grudges z1_purse z1_came z1_had z1_seller z1_praise z1_borne]) 0 e18 rfl (inb_in h18) rfl dX6_tellWords_139 ?_
  refine r_aload_n 0 dX6_tellWords_140 rfl ?_
  refine gRule_words 0 rfl (tb_in (i := 4) (j := 20) rfl rfl) dX6_tellWords_141 ?_
  refine r_bipush (x := (9 : Int32)) dX6_tellWords_144 (by decide) ?_
  refine r_aload_n 1 dX6_tellWords_146 rfl ?_
  refine gFair_borneN 1 rfl (List.mem_of_getElem? (i := 46) rfl) dX6_tellWords_147 ?_
  refine r_iload_n 3 dX6_tellWords_150 rfl ?_
  obtain ⟨h19, h⟩ := rq_some h
  refine lFair_borne 1 rfl (inb_in h19) dX6_tellWords_151 ?_
  refine r_i2l dX6_tellWords_152 ?_
  obtain ⟨h20, h⟩ := rq_some h
  obtain ⟨u20, e20, h⟩ := lt_some h
  refine sRule_words (bs1 := [bRule K a0 z0_steps z0_size z0_sumFrom z0_testFrom z0_testTo z0_clauses z0_parts z0_readsTime u20 z0_stack, bFair K a1 z1_lasts z1_keeps z1_stalls z1_buyers z1_minute z1_goods z1_price z1_tongue z1_till z1_wealth z1_sold z1_ring z1_grudges z1_purse z1_came z1_had z1_seller z1_praise z1_borne]) 0 e20 rfl (inb_in h20) rfl dX6_tellWords_153 ?_
  refine r_aload_n 0 dX6_tellWords_154 rfl ?_
  refine gRule_words 0 rfl (tb_in (i := 4) (j := 20) rfl rfl) dX6_tellWords_155 ?_
  refine r_bipush (x := (10 : Int32)) dX6_tellWords_158 (by decide) ?_
  refine r_aload_n 1 dX6_tellWords_160 rfl ?_
  refine gFair_minuteN 1 rfl (List.mem_of_getElem? (i := 21) rfl) dX6_tellWords_161 ?_
  refine r_iload 4 dX6_tellWords_164 rfl ?_
  obtain ⟨h21, h⟩ := rq_some h
  refine r_irem dX6_tellWords_166 (of_decide_eq_true h21) ?_
  refine r_i2l dX6_tellWords_167 ?_
  obtain ⟨h22, h⟩ := rq_some h
  obtain ⟨u22, e22, h⟩ := lt_some h
  refine sRule_words (bs1 := [bRule K a0 z0_steps z0_size z0_sumFrom z0_testFrom z0_testTo z0_clauses z0_parts z0_readsTime u22 z0_stack, bFair K a1 z1_lasts z1_keeps z1_stalls z1_buyers z1_minute z1_goods z1_price z1_tongue z1_till z1_wealth z1_sold z1_ring z1_grudges z1_purse z1_came z1_had z1_seller z1_praise z1_borne]) 0 e22 rfl (inb_in h22) rfl dX6_tellWords_168 ?_
  refine r_aload_n 0 dX6_tellWords_169 rfl ?_
  refine gRule_words 0 rfl (tb_in (i := 4) (j := 20) rfl rfl) dX6_tellWords_170 ?_
  refine r_bipush (x := (11 : Int32)) dX6_tellWords_173 (by decide) ?_
  refine r_aload_n 1 dX6_tellWords_175 rfl ?_
  refine gFair_minuteN 1 rfl (List.mem_of_getElem? (i := 21) rfl) dX6_tellWords_176 ?_
  refine r_iload 4 dX6_tellWords_179 rfl ?_
  obtain ⟨h23, h⟩ := rq_some h
  refine r_idiv dX6_tellWords_181 (of_decide_eq_true h23) ?_
  refine r_i2l dX6_tellWords_182 ?_
  obtain ⟨h24, h⟩ := rq_some h
  obtain ⟨u24, e24, h⟩ := lt_some h
  refine sRule_words (bs1 := [bRule K a0 z0_steps z0_size z0_sumFrom z0_testFrom z0_testTo z0_clauses z0_parts z0_readsTime u24 z0_stack, bFair K a1 z1_lasts z1_keeps z1_stalls z1_buyers z1_minute z1_goods z1_price z1_tongue z1_till z1_wealth z1_sold z1_ring z1_grudges z1_purse z1_came z1_had z1_seller z1_praise z1_borne]) 0 e24 rfl (inb_in h24) rfl dX6_tellWords_183 ?_
  have hq := Option.some.inj h
  subst hq
  exact r_vret rfl dX6_tellWords_184
def mRule_tellWords_j15 (x2 : Int32) (x3 : Int32) (z0_words : Nat → Int64) (z1_lasts : Int32) (z1_minute : Int32) (z1_goods : Nat → Int32) (z1_price : Nat → Int32) (z1_sold : Nat → Int32) (z1_purse : Nat → Int32) (z1_came : Nat → Int32) (z1_had : Nat → Int32) (z1_praise : Nat → Int32) (z1_borne : Nat → Int32) (s0 : Int32) : Option ((Nat → Int64)) := rq (inb (0 : Int32) 12) (lt (vp_updL z0_words (0 : Int32).toNatClampNeg (x2.toInt64)) (fun u2 => rq (inb (1 : Int32) 12) (lt (vp_updL u2 (1 : Int32).toNatClampNeg (x3.toInt64)) (fun u3 => rq (inb x2 6) (rq (inb (2 : Int32) 12) (lt (vp_updL u3 (2 : Int32).toNatClampNeg ((z1_purse x2.toNatClampNeg).toInt64)) (fun u5 => rq (inb x3 6) (rq (inb (3 : Int32) 12) (lt (vp_updL u5 (3 : Int32).toNatClampNeg ((z1_price x3.toNatClampNeg).toInt64)) (fun u7 => rq (inb x3 6) (rq (inb (4 : Int32) 12) (lt (vp_updL u7 (4 : Int32).toNatClampNeg ((z1_praise x3.toNatClampNeg).toInt64)) (fun u9 => rq (inb x2 6) ((if (z1_came x2.toNatClampNeg) = x3 then mRule_tellWords_j92 x2 x3 s0 u9 z1_lasts z1_minute z1_goods z1_price z1_sold z1_purse z1_came z1_had z1_praise z1_borne (5 : Int32) (1 : Int64) else mRule_tellWords_j92 x2 x3 s0 u9 z1_lasts z1_minute z1_goods z1_price z1_sold z1_purse z1_came z1_had z1_praise z1_borne (5 : Int32) (0 : Int64))))))))))))))))
set_option maxHeartbeats 4000000 in
set_option maxRecDepth 20000 in
theorem cRule_tellWords_j15 {q : (Nat → Int64)} {x2 : Int32} {x3 : Int32} {s0 : Int32}  (h : mRule_tellWords_j15 x2 x3 z0_words z1_lasts z1_minute z1_goods z1_price z1_sold z1_purse z1_came z1_had z1_praise z1_borne s0 = some q) : rW l D Z (ty7 K) MRule_tellWords 15 [(0, .ref (a0 0)), (1, .ref (a1 0)), (2, .int x2), (3, .int x3)] [.int s0] (List.flatten [bRule K a0 z0_steps z0_size z0_sumFrom z0_testFrom z0_testTo z0_clauses z0_parts z0_readsTime z0_words z0_stack, bFair K a1 z1_lasts z1_keeps z1_stalls z1_buyers z1_minute z1_goods z1_price z1_tongue z1_till z1_wealth z1_sold z1_ring z1_grudges z1_purse z1_came z1_had z1_seller z1_praise z1_borne]) (List.flatten [bRule K a0 z0_steps z0_size z0_sumFrom z0_testFrom z0_testTo z0_clauses z0_parts z0_readsTime q z0_stack, bFair K a1 z1_lasts z1_keeps z1_stalls z1_buyers z1_minute z1_goods z1_price z1_tongue z1_till z1_wealth z1_sold z1_ring z1_grudges z1_purse z1_came z1_had z1_seller z1_praise z1_borne]) none := by
  unfold mRule_tellWords_j15 at h
  refine r_istore (lv' := [(4, .int s0), (0, .ref (a0 0)), (1, .ref (a1 0)), (2, .int x2), (3, .int x3)]) dX6_tellWords_15 (Nat.le_of_ble_eq_true rfl) rfl ?_
  refine r_aload_n 1 dX6_tellWords_17 rfl ?_
  refine gRule_words 0 rfl (tb_in (i := 4) (j := 20) rfl rfl) dX6_tellWords_18 ?_
  refine r_iconst (x := (0 : Int32)) dX6_tellWords_21 (by decide) ?_
  refine r_iload_n 3 dX6_tellWords_22 rfl ?_
  refine r_i2l dX6_tellWords_23 ?_
  obtain ⟨h2, h⟩ := rq_some h
  obtain ⟨u2, e2, h⟩ := lt_some h
  refine sRule_words (bs1 := [bRule K a0 z0_steps z0_size z0_sumFrom z0_testFrom z0_testTo z0_clauses z0_parts z0_readsTime u2 z0_stack, bFair K a1 z1_lasts z1_keeps z1_stalls z1_buyers z1_minute z1_goods z1_price z1_tongue z1_till z1_wealth z1_sold z1_ring z1_grudges z1_purse z1_came z1_had z1_seller z1_praise z1_borne]) 0 e2 rfl (inb_in h2) rfl dX6_tellWords_24 ?_
  refine r_aload_n 1 dX6_tellWords_25 rfl ?_
  refine gRule_words 0 rfl (tb_in (i := 4) (j := 20) rfl rfl) dX6_tellWords_26 ?_
  refine r_iconst (x := (1 : Int32)) dX6_tellWords_29 (by decide) ?_
  refine r_iload_n 4 dX6_tellWords_30 rfl ?_
  refine r_i2l dX6_tellWords_31 ?_
  obtain ⟨h3, h⟩ := rq_some h
  obtain ⟨u3, e3, h⟩ := lt_some h
  refine sRule_words (bs1 := [bRule K a0 z0_steps z0_size z0_sumFrom z0_testFrom z0_testTo z0_clauses z0_parts z0_readsTime u3 z0_stack, bFair K a1 z1_lasts z1_keeps z1_stalls z1_buyers z1_minute z1_goods z1_price z1_tongue z1_till z1_wealth z1_sold z1_ring z1_grudges z1_purse z1_came z1_had z1_seller z1_praise z1_borne]) 0 e3 rfl (inb_in h3) rfl dX6_tellWords_32 ?_
  refine r_aload_n 1 dX6_tellWords_33 rfl ?_
  refine gRule_words 0 rfl (tb_in (i := 4) (j := 20) rfl rfl) dX6_tellWords_34 ?_
  refine r_iconst (x := (2 : Int32)) dX6_tellWords_37 (by decide) ?_
  refine r_aload_n 2 dX6_tellWords_38 rfl ?_
  refine gFair_purseN 1 rfl (List.mem_of_getElem? (i := 37) rfl) dX6_tellWords_39 ?_
  refine r_iload_n 3 dX6_tellWords_42 rfl ?_
  obtain ⟨h4, h⟩ := rq_some h
  refine lFair_purse 1 rfl (inb_in h4) dX6_tellWords_43 ?_
  refine r_i2l dX6_tellWords_44 ?_
  obtain ⟨h5, h⟩ := rq_some h
  obtain ⟨u5, e5, h⟩ := lt_some h
  refine sRule_words (bs1 := [bRule K a0 z0_steps z0_size z0_sumFrom z0_testFrom z0_testTo z0_clauses z0_parts z0_readsTime u5 z0_stack, bFair K a1 z1_lasts z1_keeps z1_stalls z1_buyers z1_minute z1_goods z1_price z1_tongue z1_till z1_wealth z1_sold z1_ring z1_grudges z1_purse z1_came z1_had z1_seller z1_praise z1_borne]) 0 e5 rfl (inb_in h5) rfl dX6_tellWords_45 ?_
  refine r_aload_n 1 dX6_tellWords_46 rfl ?_
  refine gRule_words 0 rfl (tb_in (i := 4) (j := 20) rfl rfl) dX6_tellWords_47 ?_
  refine r_iconst (x := (3 : Int32)) dX6_tellWords_50 (by decide) ?_
  refine r_aload_n 2 dX6_tellWords_51 rfl ?_
  refine gFair_priceN 1 rfl (List.mem_of_getElem? (i := 26) rfl) dX6_tellWords_52 ?_
  refine r_iload_n 4 dX6_tellWords_55 rfl ?_
  obtain ⟨h6, h⟩ := rq_some h
  refine lFair_price 1 rfl (inb_in h6) dX6_tellWords_56 ?_
  refine r_i2l dX6_tellWords_57 ?_
  obtain ⟨h7, h⟩ := rq_some h
  obtain ⟨u7, e7, h⟩ := lt_some h
  refine sRule_words (bs1 := [bRule K a0 z0_steps z0_size z0_sumFrom z0_testFrom z0_testTo z0_clauses z0_parts z0_readsTime u7 z0_stack, bFair K a1 z1_lasts z1_keeps z1_stalls z1_buyers z1_minute z1_goods z1_price z1_tongue z1_till z1_wealth z1_sold z1_ring z1_grudges z1_purse z1_came z1_had z1_seller z1_praise z1_borne]) 0 e7 rfl (inb_in h7) rfl dX6_tellWords_58 ?_
  refine r_aload_n 1 dX6_tellWords_59 rfl ?_
  refine gRule_words 0 rfl (tb_in (i := 4) (j := 20) rfl rfl) dX6_tellWords_60 ?_
  refine r_iconst (x := (4 : Int32)) dX6_tellWords_63 (by decide) ?_
  refine r_aload_n 2 dX6_tellWords_64 rfl ?_
  refine gFair_praiseN 1 rfl (List.mem_of_getElem? (i := 44) rfl) dX6_tellWords_65 ?_
  refine r_iload_n 4 dX6_tellWords_68 rfl ?_
  obtain ⟨h8, h⟩ := rq_some h
  refine lFair_praise 1 rfl (inb_in h8) dX6_tellWords_69 ?_
  refine r_i2l dX6_tellWords_70 ?_
  obtain ⟨h9, h⟩ := rq_some h
  obtain ⟨u9, e9, h⟩ := lt_some h
  refine sRule_words (bs1 := [bRule K a0 z0_steps z0_size z0_sumFrom z0_testFrom z0_testTo z0_clauses z0_parts z0_readsTime u9 z0_stack, bFair K a1 z1_lasts z1_keeps z1_stalls z1_buyers z1_minute z1_goods z1_price z1_tongue z1_till z1_wealth z1_sold z1_ring z1_grudges z1_purse z1_came z1_had z1_seller z1_praise z1_borne]) 0 e9 rfl (inb_in h9) rfl dX6_tellWords_71 ?_
  refine r_aload_n 1 dX6_tellWords_72 rfl ?_
  refine gRule_words 0 rfl (tb_in (i := 4) (j := 20) rfl rfl) dX6_tellWords_73 ?_
  refine r_iconst (x := (5 : Int32)) dX6_tellWords_76 (by decide) ?_
  refine r_aload_n 2 dX6_tellWords_77 rfl ?_
  refine gFair_cameN 1 rfl (List.mem_of_getElem? (i := 39) rfl) dX6_tellWords_78 ?_
  refine r_iload_n 3 dX6_tellWords_81 rfl ?_
  obtain ⟨h10, h⟩ := rq_some h
  refine lFair_came 1 rfl (inb_in h10) dX6_tellWords_82 ?_
  refine r_iload_n 4 dX6_tellWords_83 rfl ?_
  refine r_icmp_ne 91 dX6_tellWords_84 (by decide) (fun c11 => ?_) (fun c11 => ?_)
  · replace h := it_neg c11 h
    refine r_lconst (x := (0 : Int64)) dX6_tellWords_91 (by decide) ?_
    refine r_sub (lv' := [(0, .ref (a0 0)), (1, .ref (a1 0)), (2, .int x2), (3, .int x3), (4, .int s0)]) [1, 2, 3, 4, 0] rfl ?_
    exact cRule_tellWords_j92   h
  · replace h := it_pos c11 h
    refine r_lconst (x := (1 : Int64)) dX6_tellWords_87 (by decide) ?_
    refine r_goto 92 dX6_tellWords_88 (by decide) ?_
    refine r_sub (lv' := [(0, .ref (a0 0)), (1, .ref (a1 0)), (2, .int x2), (3, .int x3), (4, .int s0)]) [1, 2, 3, 4, 0] rfl ?_
    exact cRule_tellWords_j92   h
def mRule_tellWords (x2 : Int32) (x3 : Int32) (z0_words : Nat → Int64) (z1_lasts : Int32) (z1_minute : Int32) (z1_goods : Nat → Int32) (z1_price : Nat → Int32) (z1_sold : Nat → Int32) (z1_purse : Nat → Int32) (z1_came : Nat → Int32) (z1_had : Nat → Int32) (z1_praise : Nat → Int32) (z1_borne : Nat → Int32) : Option ((Nat → Int64)) := (if z1_lasts ≤ 0 then mRule_tellWords_j15 x2 x3 z0_words z1_lasts z1_minute z1_goods z1_price z1_sold z1_purse z1_came z1_had z1_praise z1_borne (1 : Int32) else mRule_tellWords_j15 x2 x3 z0_words z1_lasts z1_minute z1_goods z1_price z1_sold z1_purse z1_came z1_had z1_praise z1_borne z1_lasts)
set_option maxHeartbeats 4000000 in
set_option maxRecDepth 20000 in
theorem cRule_tellWords {q : (Nat → Int64)} {x2 : Int32} {x3 : Int32} (h : mRule_tellWords x2 x3 z0_words z1_lasts z1_minute z1_goods z1_price z1_sold z1_purse z1_came z1_had z1_praise z1_borne = some q) : rMet l D Z (ty7 K) MRule_tellWords [.ref (a0 0), .ref (a1 0), .int x2, .int x3] (List.flatten [bRule K a0 z0_steps z0_size z0_sumFrom z0_testFrom z0_testTo z0_clauses z0_parts z0_readsTime z0_words z0_stack, bFair K a1 z1_lasts z1_keeps z1_stalls z1_buyers z1_minute z1_goods z1_price z1_tongue z1_till z1_wealth z1_sold z1_ring z1_grudges z1_purse z1_came z1_had z1_seller z1_praise z1_borne]) (List.flatten [bRule K a0 z0_steps z0_size z0_sumFrom z0_testFrom z0_testTo z0_clauses z0_parts z0_readsTime q z0_stack, bFair K a1 z1_lasts z1_keeps z1_stalls z1_buyers z1_minute z1_goods z1_price z1_tongue z1_till z1_wealth z1_sold z1_ring z1_grudges z1_purse z1_came z1_had z1_seller z1_praise z1_borne]) none := by
  refine rMet.of (by decide) rfl (Nat.le_of_ble_eq_true rfl) ?_
  refine r_sub (lv' := [(0, .ref (a0 0)), (1, .ref (a1 0)), (2, .int x2), (3, .int x3)]) [0, 1, 2, 3] rfl ?_
  unfold mRule_tellWords at h
  refine r_aload_n 1 dX6_tellWords_0 rfl ?_
  refine gFair_lastsN 1 rfl (List.mem_of_getElem? (i := 9) rfl) dX6_tellWords_1 ?_
  refine r_if_le 14 dX6_tellWords_4 (by decide) (fun c1 => ?_) (fun c1 => ?_)
  · replace h := it_pos c1 h
    refine r_iconst (x := (1 : Int32)) dX6_tellWords_14 (by decide) ?_
    exact cRule_tellWords_j15   h
  · replace h := it_neg c1 h
    refine r_aload_n 1 dX6_tellWords_7 rfl ?_
    refine gFair_lastsN 1 rfl (List.mem_of_getElem? (i := 9) rfl) dX6_tellWords_8 ?_
    refine r_goto 15 dX6_tellWords_11 (by decide) ?_
    exact cRule_tellWords_j15   h
end
end PC0
