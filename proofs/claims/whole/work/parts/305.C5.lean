section PC5
variable {l : Launch} {D : va_G} {Z : (Nat → Nat) × (Nat → Nat)} {K : Nat → ClassId}
theorem dX0_fail_0 : decode cX0_fail 0 = .ok (.aload_n 0, 1) := by decide +kernel
theorem dX0_fail_1 : decode cX0_fail 1 = .ok (.getfield 22, 3) := by decide +kernel
theorem dX0_fail_4 : decode cX0_fail 4 = .ok (.ifCond .ne 15, 3) := by decide +kernel
theorem dX0_fail_7 : decode cX0_fail 7 = .ok (.aload_n 0, 1) := by decide +kernel
theorem dX0_fail_8 : decode cX0_fail 8 = .ok (.iconst 1, 1) := by decide +kernel
theorem dX0_fail_9 : decode cX0_fail 9 = .ok (.bipush 8, 2) := by decide +kernel
theorem dX0_fail_11 : decode cX0_fail 11 = .ok (.iload_n 2, 1) := by decide +kernel
theorem dX0_fail_12 : decode cX0_fail 12 = .ok (.imul, 1) := by decide +kernel
theorem dX0_fail_13 : decode cX0_fail 13 = .ok (.iadd, 1) := by decide +kernel
theorem dX0_fail_14 : decode cX0_fail 14 = .ok (.iload_n 1, 1) := by decide +kernel
theorem dX0_fail_15 : decode cX0_fail 15 = .ok (.iadd, 1) := by decide +kernel
theorem dX0_fail_16 : decode cX0_fail 16 = .ok (.putfield 22, 3) := by decide +kernel
theorem dX0_fail_19 : decode cX0_fail 19 = .ok (.return_, 1) := by decide +kernel
abbrev MCursor_fail : rx_M := (RX0, yX0_fail, cX0_fail, 3, none, 1)
theorem kCursor_fail : rKv MCursor_fail 2 := ⟨tb_in (i := 2) (j := 19) rfl rfl, tb_in (i := 2) (j := 20) rfl rfl, tb_in (i := 1) (j := 31) rfl rfl, tb_in (i := 0) (j := 15) rfl rfl, ⟨by decide, by decide, by decide +kernel⟩, by decide⟩
section
variable {a0 : Nat → Nat} {z0_text : Nat → Int32} {z0_size : Int32} {z0_at : Int32} {z0_fault : Int32}
def mCursor_fail (x1 : Int32) (x2 : Int32) (z0_fault : Int32) : Option (Int32) := (if z0_fault = 0 then lt (((1 : Int32) + ((8 : Int32) * x2)) + x1) (fun y2 => some (y2)) else some (z0_fault))
set_option maxHeartbeats 4000000 in
set_option maxRecDepth 20000 in
theorem cCursor_fail {q : Int32} {x1 : Int32} {x2 : Int32} (h : mCursor_fail x1 x2 z0_fault = some q) : rMet l D Z (ty7 K) MCursor_fail [.ref (a0 0), .int x1, .int x2] (List.flatten [bCursor K a0 z0_text z0_size z0_at z0_fault]) (List.flatten [bCursor K a0 z0_text z0_size z0_at q]) none := by
  refine rMet.of (by decide) rfl (Nat.le_of_ble_eq_true rfl) ?_
  refine r_sub (lv' := [(0, .ref (a0 0)), (1, .int x1), (2, .int x2)]) [0, 1, 2] rfl ?_
  unfold mCursor_fail at h
  refine r_aload_n 0 dX0_fail_0 rfl ?_
  refine gCursor_fault 0 rfl (tb_in (i := 0) (j := 8) rfl rfl) dX0_fail_1 ?_
  refine r_if_ne 19 dX0_fail_4 (by decide) (fun c1 => ?_) (fun c1 => ?_)
  · replace h := it_neg c1 h
    have hq := Option.some.inj h
    subst hq
    exact r_vret rfl dX0_fail_19
  · replace h := it_pos c1 h
    refine r_aload_n 0 dX0_fail_7 rfl ?_
    refine r_iconst (x := (1 : Int32)) dX0_fail_8 (by decide) ?_
    refine r_bipush (x := (8 : Int32)) dX0_fail_9 (by decide) ?_
    refine r_iload_n 2 dX0_fail_11 rfl ?_
    refine r_imul dX0_fail_12 ?_
    refine r_iadd dX0_fail_13 ?_
    refine r_iload_n 1 dX0_fail_14 rfl ?_
    refine r_iadd dX0_fail_15 ?_
    obtain ⟨y2, e2, h⟩ := lt_some h
    refine r_top e2 ?_
    refine pCursor_fault (bs1 := [bCursor K a0 z0_text z0_size z0_at y2]) 0 rfl rfl (tb_in (i := 0) (j := 8) rfl rfl) dX0_fail_16 ?_
    have hq := Option.some.inj h
    subst hq
    exact r_vret rfl dX0_fail_19
end
theorem dX0_peek_0 : decode cX0_peek 0 = .ok (.aload_n 0, 1) := by decide +kernel
theorem dX0_peek_1 : decode cX0_peek 1 = .ok (.getfield 19, 3) := by decide +kernel
theorem dX0_peek_4 : decode cX0_peek 4 = .ok (.aload_n 0, 1) := by decide +kernel
theorem dX0_peek_5 : decode cX0_peek 5 = .ok (.getfield 15, 3) := by decide +kernel
theorem dX0_peek_8 : decode cX0_peek 8 = .ok (.if_icmp .ge 30, 3) := by decide +kernel
theorem dX0_peek_11 : decode cX0_peek 11 = .ok (.aload_n 0, 1) := by decide +kernel
theorem dX0_peek_12 : decode cX0_peek 12 = .ok (.getfield 9, 3) := by decide +kernel
theorem dX0_peek_15 : decode cX0_peek 15 = .ok (.aload_n 0, 1) := by decide +kernel
theorem dX0_peek_16 : decode cX0_peek 16 = .ok (.getfield 19, 3) := by decide +kernel
theorem dX0_peek_19 : decode cX0_peek 19 = .ok (.baload, 1) := by decide +kernel
theorem dX0_peek_20 : decode cX0_peek 20 = .ok (.bipush 32, 2) := by decide +kernel
theorem dX0_peek_22 : decode cX0_peek 22 = .ok (.if_icmp .ne 16, 3) := by decide +kernel
theorem dX0_peek_25 : decode cX0_peek 25 = .ok (.aload_n 0, 1) := by decide +kernel
theorem dX0_peek_26 : decode cX0_peek 26 = .ok (.dup, 1) := by decide +kernel
theorem dX0_peek_27 : decode cX0_peek 27 = .ok (.getfield 19, 3) := by decide +kernel
theorem dX0_peek_30 : decode cX0_peek 30 = .ok (.iconst 1, 1) := by decide +kernel
theorem dX0_peek_31 : decode cX0_peek 31 = .ok (.iadd, 1) := by decide +kernel
theorem dX0_peek_32 : decode cX0_peek 32 = .ok (.putfield 19, 3) := by decide +kernel
theorem dX0_peek_35 : decode cX0_peek 35 = .ok (.goto (-35), 3) := by decide +kernel
theorem dX0_peek_38 : decode cX0_peek 38 = .ok (.aload_n 0, 1) := by decide +kernel
theorem dX0_peek_39 : decode cX0_peek 39 = .ok (.getfield 19, 3) := by decide +kernel
theorem dX0_peek_42 : decode cX0_peek 42 = .ok (.aload_n 0, 1) := by decide +kernel
theorem dX0_peek_43 : decode cX0_peek 43 = .ok (.getfield 15, 3) := by decide +kernel
theorem dX0_peek_46 : decode cX0_peek 46 = .ok (.if_icmp .ge 19, 3) := by decide +kernel
theorem dX0_peek_49 : decode cX0_peek 49 = .ok (.aload_n 0, 1) := by decide +kernel
theorem dX0_peek_50 : decode cX0_peek 50 = .ok (.getfield 9, 3) := by decide +kernel
theorem dX0_peek_53 : decode cX0_peek 53 = .ok (.aload_n 0, 1) := by decide +kernel
theorem dX0_peek_54 : decode cX0_peek 54 = .ok (.getfield 19, 3) := by decide +kernel
theorem dX0_peek_57 : decode cX0_peek 57 = .ok (.baload, 1) := by decide +kernel
theorem dX0_peek_58 : decode cX0_peek 58 = .ok (.sipush 255, 3) := by decide +kernel
theorem dX0_peek_61 : decode cX0_peek 61 = .ok (.iand, 1) := by decide +kernel
theorem dX0_peek_62 : decode cX0_peek 62 = .ok (.goto 4, 3) := by decide +kernel
theorem dX0_peek_65 : decode cX0_peek 65 = .ok (.iconst (-1), 1) := by decide +kernel
theorem dX0_peek_66 : decode cX0_peek 66 = .ok (.ireturn, 1) := by decide +kernel
abbrev MCursor_peek : rx_M := (RX0, yX0_peek, cX0_peek, 1, (some .int), 1)
theorem kCursor_peek : rKv MCursor_peek 0 := ⟨tb_in (i := 1) (j := 29) rfl rfl, tb_in (i := 1) (j := 30) rfl rfl, tb_in (i := 1) (j := 31) rfl rfl, tb_in (i := 0) (j := 16) rfl rfl, ⟨by decide, by decide, by decide +kernel⟩, by decide⟩
section
variable {a0 : Nat → Nat} {z0_text : Nat → Int32} {z0_size : Int32} {z0_at : Int32} {z0_fault : Int32}
def mCursor_peek_l0 (z0_text : Nat → Int32) (z0_size : Int32) : Nat → Int32 → Option (Int32 × Int32)
  | 0, _ => none
  | n + 1, z0_at => (if z0_size ≤ z0_at then (if z0_size ≤ z0_at then some ((-1 : Int32), z0_at) else rq (inb z0_at 400) (some (((z0_text z0_at.toNatClampNeg) &&& (255 : Int32)), z0_at))) else rq (inb z0_at 400) ((if (z0_text z0_at.toNatClampNeg) = (32 : Int32) then lt (z0_at + (1 : Int32)) (fun y8 => mCursor_peek_l0 z0_text z0_size n y8) else (if z0_size ≤ z0_at then some ((-1 : Int32), z0_at) else rq (inb z0_at 400) (some (((z0_text z0_at.toNatClampNeg) &&& (255 : Int32)), z0_at))))))
set_option maxHeartbeats 4000000 in
set_option maxRecDepth 20000 in
theorem cCursor_peek_l0 {q : Int32 × Int32}   : ∀ (n : Nat) (z0_at : Int32), mCursor_peek_l0 z0_text z0_size n z0_at = some q → rW l D Z (ty7 K) MCursor_peek 0 [(0, .ref (a0 0))] [] (List.flatten [bCursor K a0 z0_text z0_size z0_at z0_fault]) (List.flatten [bCursor K a0 z0_text z0_size q.2 z0_fault]) (some (.int q.1)) := by
  intro n
  induction n with
  | zero => intro z0_at h; unfold mCursor_peek_l0 at h; cases h
  | succ n ih =>
    intro z0_at h
    unfold mCursor_peek_l0 at h
    refine r_aload_n 0 dX0_peek_0 rfl ?_
    refine gCursor_at 0 rfl (tb_in (i := 0) (j := 7) rfl rfl) dX0_peek_1 ?_
    refine r_aload_n 0 dX0_peek_4 rfl ?_
    refine gCursor_size 0 rfl (tb_in (i := 0) (j := 6) rfl rfl) dX0_peek_5 ?_
    refine r_icmp_ge 38 dX0_peek_8 (by decide) (fun c1 => ?_) (fun c1 => ?_)
    · replace h := it_pos c1 h
      refine r_aload_n 0 dX0_peek_38 rfl ?_
      refine gCursor_at 0 rfl (tb_in (i := 0) (j := 7) rfl rfl) dX0_peek_39 ?_
      refine r_aload_n 0 dX0_peek_42 rfl ?_
      refine gCursor_size 0 rfl (tb_in (i := 0) (j := 6) rfl rfl) dX0_peek_43 ?_
      refine r_icmp_ge 65 dX0_peek_46 (by decide) (fun c2 => ?_) (fun c2 => ?_)
      · replace h := it_pos c2 h
        refine r_iconst (x := (-1 : Int32)) dX0_peek_65 (by decide) ?_
        have hq := Option.some.inj h
        subst hq
        exact r_iret rfl dX0_peek_66
      · replace h := it_neg c2 h
        refine r_aload_n 0 dX0_peek_49 rfl ?_
        refine gCursor_text 0 rfl (tb_in (i := 0) (j := 5) rfl rfl) dX0_peek_50 ?_
        refine r_aload_n 0 dX0_peek_53 rfl ?_
        refine gCursor_at 0 rfl (tb_in (i := 0) (j := 7) rfl rfl) dX0_peek_54 ?_
        obtain ⟨h3, h⟩ := rq_some h
        refine lCursor_text 0 rfl (inb_in h3) dX0_peek_57 ?_
        refine r_sipush (x := (255 : Int32)) dX0_peek_58 (by decide) ?_
        refine r_iand dX0_peek_61 ?_
        refine r_goto 66 dX0_peek_62 (by decide) ?_
        have hq := Option.some.inj h
        subst hq
        exact r_iret rfl dX0_peek_66
    · replace h := it_neg c1 h
      refine r_aload_n 0 dX0_peek_11 rfl ?_
      refine gCursor_text 0 rfl (tb_in (i := 0) (j := 5) rfl rfl) dX0_peek_12 ?_
      refine r_aload_n 0 dX0_peek_15 rfl ?_
      refine gCursor_at 0 rfl (tb_in (i := 0) (j := 7) rfl rfl) dX0_peek_16 ?_
      obtain ⟨h4, h⟩ := rq_some h
      refine lCursor_text 0 rfl (inb_in h4) dX0_peek_19 ?_
      refine r_bipush (x := (32 : Int32)) dX0_peek_20 (by decide) ?_
      refine r_icmp_ne 38 dX0_peek_22 (by decide) (fun c5 => ?_) (fun c5 => ?_)
      · replace h := it_neg c5 h
        refine r_aload_n 0 dX0_peek_38 rfl ?_
        refine gCursor_at 0 rfl (tb_in (i := 0) (j := 7) rfl rfl) dX0_peek_39 ?_
        refine r_aload_n 0 dX0_peek_42 rfl ?_
        refine gCursor_size 0 rfl (tb_in (i := 0) (j := 6) rfl rfl) dX0_peek_43 ?_
        refine r_icmp_ge 65 dX0_peek_46 (by decide) (fun c6 => ?_) (fun c6 => ?_)
        · replace h := it_pos c6 h
          refine r_iconst (x := (-1 : Int32)) dX0_peek_65 (by decide) ?_
          have hq := Option.some.inj h
          subst hq
          exact r_iret rfl dX0_peek_66
        · replace h := it_neg c6 h
          refine r_aload_n 0 dX0_peek_49 rfl ?_
          refine gCursor_text 0 rfl (tb_in (i := 0) (j := 5) rfl rfl) dX0_peek_50 ?_
          refine r_aload_n 0 dX0_peek_53 rfl ?_
          refine gCursor_at 0 rfl (tb_in (i := 0) (j := 7) rfl rfl) dX0_peek_54 ?_
          obtain ⟨h7, h⟩ := rq_some h
          refine lCursor_text 0 rfl (inb_in h7) dX0_peek_57 ?_
          refine r_sipush (x := (255 : Int32)) dX0_peek_58 (by decide) ?_
          refine r_iand dX0_peek_61 ?_
          refine r_goto 66 dX0_peek_62 (by decide) ?_
          have hq := Option.some.inj h
          subst hq
          exact r_iret rfl dX0_peek_66
      · replace h := it_pos c5 h
        refine r_aload_n 0 dX0_peek_25 rfl ?_
        refine r_dup dX0_peek_26 rfl ?_
        refine gCursor_at 0 rfl (tb_in (i := 0) (j := 7) rfl rfl) dX0_peek_27 ?_
        refine r_iconst (x := (1 : Int32)) dX0_peek_30 (by decide) ?_
        refine r_iadd dX0_peek_31 ?_
        obtain ⟨y8, e8, h⟩ := lt_some h
        refine r_top e8 ?_
        refine pCursor_at (bs1 := [bCursor K a0 z0_text z0_size y8 z0_fault]) 0 rfl rfl (tb_in (i := 0) (j := 7) rfl rfl) dX0_peek_32 ?_
        refine r_goto 0 dX0_peek_35 (by decide) ?_
        exact ih y8 h
def mCursor_peek (z0_text : Nat → Int32) (z0_size : Int32) (z0_at : Int32) : Option (Int32 × Int32) := mCursor_peek_l0 z0_text z0_size FU z0_at
set_option maxHeartbeats 4000000 in
set_option maxRecDepth 20000 in
theorem cCursor_peek {q : Int32 × Int32}  (h : mCursor_peek z0_text z0_size z0_at = some q) : rMet l D Z (ty7 K) MCursor_peek [.ref (a0 0)] (List.flatten [bCursor K a0 z0_text z0_size z0_at z0_fault]) (List.flatten [bCursor K a0 z0_text z0_size q.2 z0_fault]) (some (.int q.1)) := by
  refine rMet.of (by decide) rfl (Nat.le_of_ble_eq_true rfl) ?_
  refine r_sub (lv' := [(0, .ref (a0 0))]) [0] rfl ?_
  unfold mCursor_peek at h
  exact cCursor_peek_l0   FU z0_at h
end
theorem dX0_takeSign_0 : decode cX0_takeSign 0 = .ok (.aload_n 0, 1) := by decide +kernel
theorem dX0_takeSign_1 : decode cX0_takeSign 1 = .ok (.invokevirtual 37, 3) := by decide +kernel
theorem dX0_takeSign_4 : decode cX0_takeSign 4 = .ok (.istore_n 2, 1) := by decide +kernel
theorem dX0_takeSign_5 : decode cX0_takeSign 5 = .ok (.iconst 0, 1) := by decide +kernel
theorem dX0_takeSign_6 : decode cX0_takeSign 6 = .ok (.istore_n 3, 1) := by decide +kernel
theorem dX0_takeSign_7 : decode cX0_takeSign 7 = .ok (.iload_n 3, 1) := by decide +kernel
theorem dX0_takeSign_8 : decode cX0_takeSign 8 = .ok (.aload_n 1, 1) := by decide +kernel
theorem dX0_takeSign_9 : decode cX0_takeSign 9 = .ok (.invokevirtual 41, 3) := by decide +kernel
theorem dX0_takeSign_12 : decode cX0_takeSign 12 = .ok (.if_icmp .ge 30, 3) := by decide +kernel
theorem dX0_takeSign_15 : decode cX0_takeSign 15 = .ok (.iload_n 2, 1) := by decide +kernel
theorem dX0_takeSign_16 : decode cX0_takeSign 16 = .ok (.aload_n 1, 1) := by decide +kernel
theorem dX0_takeSign_17 : decode cX0_takeSign 17 = .ok (.iload_n 3, 1) := by decide +kernel
theorem dX0_takeSign_18 : decode cX0_takeSign 18 = .ok (.invokevirtual 46, 3) := by decide +kernel
theorem dX0_takeSign_21 : decode cX0_takeSign 21 = .ok (.if_icmp .ne 15, 3) := by decide +kernel
theorem dX0_takeSign_24 : decode cX0_takeSign 24 = .ok (.aload_n 0, 1) := by decide +kernel
theorem dX0_takeSign_25 : decode cX0_takeSign 25 = .ok (.dup, 1) := by decide +kernel
theorem dX0_takeSign_26 : decode cX0_takeSign 26 = .ok (.getfield 19, 3) := by decide +kernel
theorem dX0_takeSign_29 : decode cX0_takeSign 29 = .ok (.iconst 1, 1) := by decide +kernel
theorem dX0_takeSign_30 : decode cX0_takeSign 30 = .ok (.iadd, 1) := by decide +kernel
theorem dX0_takeSign_31 : decode cX0_takeSign 31 = .ok (.putfield 19, 3) := by decide +kernel
theorem dX0_takeSign_34 : decode cX0_takeSign 34 = .ok (.iload_n 3, 1) := by decide +kernel
theorem dX0_takeSign_35 : decode cX0_takeSign 35 = .ok (.ireturn, 1) := by decide +kernel
theorem dX0_takeSign_36 : decode cX0_takeSign 36 = .ok (.iinc 3 1, 3) := by decide +kernel
theorem dX0_takeSign_39 : decode cX0_takeSign 39 = .ok (.goto (-32), 3) := by decide +kernel
theorem dX0_takeSign_42 : decode cX0_takeSign 42 = .ok (.iconst (-1), 1) := by decide +kernel
theorem dX0_takeSign_43 : decode cX0_takeSign 43 = .ok (.ireturn, 1) := by decide +kernel
abbrev MCursor_takeSign : rx_M := (RX0, yX0_takeSign, cX0_takeSign, 4, (some .int), 7)
theorem kCursor_takeSign : rKv MCursor_takeSign 1 := ⟨tb_in (i := 2) (j := 24) rfl rfl, tb_in (i := 2) (j := 25) rfl rfl, tb_in (i := 1) (j := 31) rfl rfl, tb_in (i := 2) (j := 6) rfl rfl, ⟨by decide, by decide, by decide +kernel⟩, by decide⟩
section
variable {a0 : Nat → Nat} {z0_text : Nat → Int32} {z0_size : Int32} {z0_at : Int32} {z0_fault : Int32}
def mCursor_takeSign_l7 (z0_text : Nat → Int32) (z0_size : Int32) (z0_at : Int32) (x1 : Nat) (x2 : Int32) : Nat → Int32 → Option (Int32 × Int32)
  | 0, _ => none
  | n + 1, x3 => rq (decide (x1 < nJS)) ((if (nI (lenJS.getD x1 0)) ≤ x3 then some ((-1 : Int32), z0_at) else rq (decide (x1 < nJS)) (rq (inb x3 (lenJS.getD x1 0)) ((if x2 = (chJS x1 x3) then lt (z0_at + (1 : Int32)) (fun y7 => some (x3, y7)) else mCursor_takeSign_l7 z0_text z0_size z0_at x1 x2 n (x3 + (1 : Int32)))))))
set_option maxHeartbeats 4000000 in
set_option maxRecDepth 20000 in
theorem cCursor_takeSign_l7 {q : Int32 × Int32} {x1 : Nat} {x2 : Int32}  : ∀ (n : Nat) (x3 : Int32), mCursor_takeSign_l7 z0_text z0_size z0_at x1 x2 n x3 = some q → rW l D Z (ty7 K) MCursor_takeSign 7 [(0, .ref (a0 0)), (1, .ref (Z.1 x1)), (2, .int x2), (3, .int x3)] [] (List.flatten [bCursor K a0 z0_text z0_size z0_at z0_fault]) (List.flatten [bCursor K a0 z0_text z0_size q.2 z0_fault]) (some (.int q.1)) := by
  intro n
  induction n with
  | zero => intro x3 h; unfold mCursor_takeSign_l7 at h; cases h
  | succ n ih =>
    intro x3 h
    unfold mCursor_takeSign_l7 at h
    refine r_iload_n 3 dX0_takeSign_7 rfl ?_
    refine r_aload_n 1 dX0_takeSign_8 rfl ?_
    obtain ⟨h2, h⟩ := rq_some h
    refine r_slen (of_decide_eq_true h2) (tb_in (i := 2) (j := 0) rfl rfl) (by decide) (Nat.le_of_ble_eq_true rfl) dX0_takeSign_9 ?_
    refine r_icmp_ge 42 dX0_takeSign_12 (by decide) (fun c3 => ?_) (fun c3 => ?_)
    · replace h := it_pos c3 h
      refine r_iconst (x := (-1 : Int32)) dX0_takeSign_42 (by decide) ?_
      have hq := Option.some.inj h
      subst hq
      exact r_iret rfl dX0_takeSign_43
    · replace h := it_neg c3 h
      refine r_iload_n 2 dX0_takeSign_15 rfl ?_
      refine r_aload_n 1 dX0_takeSign_16 rfl ?_
      refine r_iload_n 3 dX0_takeSign_17 rfl ?_
      obtain ⟨h4, h⟩ := rq_some h
      obtain ⟨h5, h⟩ := rq_some h
      refine r_schar (of_decide_eq_true h4) (inb_in h5) (tb_in (i := 2) (j := 3) rfl rfl) (by decide) (Nat.le_of_ble_eq_true rfl) dX0_takeSign_18 ?_
      refine r_icmp_ne 36 dX0_takeSign_21 (by decide) (fun c6 => ?_) (fun c6 => ?_)
      · replace h := it_neg c6 h
        refine r_iinc (y := (x3 + (1 : Int32))) (lv' := [(3, .int (x3 + (1 : Int32))), (0, .ref (a0 0)), (1, .ref (Z.1 x1)), (2, .int x2)]) 3 dX0_takeSign_36 rfl rfl (Nat.le_of_ble_eq_true rfl) rfl ?_
        refine r_goto 7 dX0_takeSign_39 (by decide) ?_
        refine r_sub (lv' := [(0, .ref (a0 0)), (1, .ref (Z.1 x1)), (2, .int x2), (3, .int (x3 + (1 : Int32)))]) [1, 2, 3, 0] rfl ?_
        exact ih (x3 + (1 : Int32)) h
      · replace h := it_pos c6 h
        refine r_aload_n 0 dX0_takeSign_24 rfl ?_
        refine r_dup dX0_takeSign_25 rfl ?_
        refine gCursor_at 0 rfl (tb_in (i := 0) (j := 7) rfl rfl) dX0_takeSign_26 ?_
        refine r_iconst (x := (1 : Int32)) dX0_takeSign_29 (by decide) ?_
        refine r_iadd dX0_takeSign_30 ?_
        obtain ⟨y7, e7, h⟩ := lt_some h
        refine r_top e7 ?_
        refine pCursor_at (bs1 := [bCursor K a0 z0_text z0_size y7 z0_fault]) 0 rfl rfl (tb_in (i := 0) (j := 7) rfl rfl) dX0_takeSign_31 ?_
        refine r_iload_n 3 dX0_takeSign_34 rfl ?_
        have hq := Option.some.inj h
        subst hq
        exact r_iret rfl dX0_takeSign_35
def mCursor_takeSign (x1 : Nat) (z0_text : Nat → Int32) (z0_size : Int32) (z0_at : Int32) : Option (Int32 × Int32) := (mCursor_peek z0_text z0_size z0_at).bind (fun q1 => mCursor_takeSign_l7 z0_text z0_size q1.2 x1 q1.1 FU (0 : Int32))
set_option maxHeartbeats 4000000 in
set_option maxRecDepth 20000 in
theorem cCursor_takeSign {q : Int32 × Int32} {x1 : Nat} (h : mCursor_takeSign x1 z0_text z0_size z0_at = some q) : rMet l D Z (ty7 K) MCursor_takeSign [.ref (a0 0), .ref (Z.1 x1)] (List.flatten [bCursor K a0 z0_text z0_size z0_at z0_fault]) (List.flatten [bCursor K a0 z0_text z0_size q.2 z0_fault]) (some (.int q.1)) := by
  refine rMet.of (by decide) rfl (Nat.le_of_ble_eq_true rfl) ?_
  refine r_sub (lv' := [(0, .ref (a0 0)), (1, .ref (Z.1 x1))]) [0, 1] rfl ?_
  unfold mCursor_takeSign at h
  refine r_aload_n 0 dX0_takeSign_0 rfl ?_
  obtain ⟨q1, h1, h⟩ := bd_some h
  refine b_callV (isC := [0]) (ci := 0)  (st := []) (bs1 := [bCursor K a0 z0_text z0_size q1.2 z0_fault]) (cCursor_peek (a0 := a0) (z0_text := z0_text) (z0_size := z0_size) (z0_at := z0_at) (z0_fault := z0_fault) h1) rfl rfl (Nat.le_of_ble_eq_true rfl) kCursor_peek (tb_in (i := 1) (j := 28) rfl rfl) (by decide) (by decide) rfl rfl rfl rfl rfl rfl rfl dX0_takeSign_1 ?_
  refine r_istore_n (lv' := [(2, .int q1.1), (0, .ref (a0 0)), (1, .ref (Z.1 x1))]) dX0_takeSign_4 (Nat.le_of_ble_eq_true rfl) rfl ?_
  refine r_iconst (x := (0 : Int32)) dX0_takeSign_5 (by decide) ?_
  refine r_istore_n (lv' := [(3, .int (0 : Int32)), (2, .int q1.1), (0, .ref (a0 0)), (1, .ref (Z.1 x1))]) dX0_takeSign_6 (Nat.le_of_ble_eq_true rfl) rfl ?_
  refine r_sub (lv' := [(0, .ref (a0 0)), (1, .ref (Z.1 x1)), (2, .int q1.1), (3, .int (0 : Int32))]) [2, 3, 1, 0] rfl ?_
  exact cCursor_takeSign_l7   FU (0 : Int32) h
end
theorem dX0_isLetter_0 : decode cX0_isLetter 0 = .ok (.iload_n 1, 1) := by decide +kernel
theorem dX0_isLetter_1 : decode cX0_isLetter 1 = .ok (.aload_n 0, 1) := by decide +kernel
theorem dX0_isLetter_2 : decode cX0_isLetter 2 = .ok (.getfield 15, 3) := by decide +kernel
theorem dX0_isLetter_5 : decode cX0_isLetter 5 = .ok (.if_icmp .ge 29, 3) := by decide +kernel
theorem dX0_isLetter_8 : decode cX0_isLetter 8 = .ok (.aload_n 0, 1) := by decide +kernel
theorem dX0_isLetter_9 : decode cX0_isLetter 9 = .ok (.getfield 9, 3) := by decide +kernel
theorem dX0_isLetter_12 : decode cX0_isLetter 12 = .ok (.iload_n 1, 1) := by decide +kernel
theorem dX0_isLetter_13 : decode cX0_isLetter 13 = .ok (.baload, 1) := by decide +kernel
theorem dX0_isLetter_14 : decode cX0_isLetter 14 = .ok (.bipush 97, 2) := by decide +kernel
theorem dX0_isLetter_16 : decode cX0_isLetter 16 = .ok (.if_icmp .lt 18, 3) := by decide +kernel
theorem dX0_isLetter_19 : decode cX0_isLetter 19 = .ok (.aload_n 0, 1) := by decide +kernel
theorem dX0_isLetter_20 : decode cX0_isLetter 20 = .ok (.getfield 9, 3) := by decide +kernel
theorem dX0_isLetter_23 : decode cX0_isLetter 23 = .ok (.iload_n 1, 1) := by decide +kernel
theorem dX0_isLetter_24 : decode cX0_isLetter 24 = .ok (.baload, 1) := by decide +kernel
theorem dX0_isLetter_25 : decode cX0_isLetter 25 = .ok (.bipush 122, 2) := by decide +kernel
theorem dX0_isLetter_27 : decode cX0_isLetter 27 = .ok (.if_icmp .gt 7, 3) := by decide +kernel
theorem dX0_isLetter_30 : decode cX0_isLetter 30 = .ok (.iconst 1, 1) := by decide +kernel
theorem dX0_isLetter_31 : decode cX0_isLetter 31 = .ok (.goto 4, 3) := by decide +kernel
theorem dX0_isLetter_34 : decode cX0_isLetter 34 = .ok (.iconst 0, 1) := by decide +kernel
theorem dX0_isLetter_35 : decode cX0_isLetter 35 = .ok (.ireturn, 1) := by decide +kernel
abbrev MCursor_isLetter : rx_M := (RX0, yX0_isLetter, cX0_isLetter, 2, (some .boolean), 1)
theorem kCursor_isLetter : rKv MCursor_isLetter 1 := ⟨tb_in (i := 2) (j := 9) rfl rfl, tb_in (i := 2) (j := 10) rfl rfl, tb_in (i := 1) (j := 31) rfl rfl, tb_in (i := 2) (j := 7) rfl rfl, ⟨by decide, by decide, by decide +kernel⟩, by decide⟩
section
variable {a0 : Nat → Nat} {z0_text : Nat → Int32} {z0_size : Int32} {z0_at : Int32} {z0_fault : Int32}
def mCursor_isLetter (x1 : Int32) (z0_text : Nat → Int32) (z0_size : Int32) : Option (Int32) := (if z0_size ≤ x1 then some ((0 : Int32)) else rq (inb x1 400) ((if (z0_text x1.toNatClampNeg) < (97 : Int32) then some ((0 : Int32)) else rq (inb x1 400) ((if (122 : Int32) < (z0_text x1.toNatClampNeg) then some ((0 : Int32)) else some ((1 : Int32)))))))
set_option maxHeartbeats 4000000 in
set_option maxRecDepth 20000 in
theorem cCursor_isLetter {q : Int32} {x1 : Int32} (h : mCursor_isLetter x1 z0_text z0_size = some q) : rMet l D Z (ty7 K) MCursor_isLetter [.ref (a0 0), .int x1] (List.flatten [bCursor K a0 z0_text z0_size z0_at z0_fault]) (List.flatten [bCursor K a0 z0_text z0_size z0_at z0_fault]) (some (.int q)) := by
  refine rMet.of (by decide) rfl (Nat.le_of_ble_eq_true rfl) ?_
  refine r_sub (lv' := [(0, .ref (a0 0)), (1, .int x1)]) [0, 1] rfl ?_
  unfold mCursor_isLetter at h
  refine r_iload_n 1 dX0_isLetter_0 rfl ?_
  refine r_aload_n 0 dX0_isLetter_1 rfl ?_
  refine gCursor_size 0 rfl (tb_in (i := 0) (j := 6) rfl rfl) dX0_isLetter_2 ?_
  refine r_icmp_ge 34 dX0_isLetter_5 (by decide) (fun c1 => ?_) (fun c1 => ?_)
  · replace h := it_pos c1 h
    refine r_iconst (x := (0 : Int32)) dX0_isLetter_34 (by decide) ?_
    have hq := Option.some.inj h
    subst hq
    exact r_zret (ty := .boolean) rfl rfl dX0_isLetter_35
  · replace h := it_neg c1 h
    refine r_aload_n 0 dX0_isLetter_8 rfl ?_
    refine gCursor_text 0 rfl (tb_in (i := 0) (j := 5) rfl rfl) dX0_isLetter_9 ?_
    refine r_iload_n 1 dX0_isLetter_12 rfl ?_
    obtain ⟨h2, h⟩ := rq_some h
    refine lCursor_text 0 rfl (inb_in h2) dX0_isLetter_13 ?_
    refine r_bipush (x := (97 : Int32)) dX0_isLetter_14 (by decide) ?_
    refine r_icmp_lt 34 dX0_isLetter_16 (by decide) (fun c3 => ?_) (fun c3 => ?_)
    · replace h := it_pos c3 h
      refine r_iconst (x := (0 : Int32)) dX0_isLetter_34 (by decide) ?_
      have hq := Option.some.inj h
      subst hq
      exact r_zret (ty := .boolean) rfl rfl dX0_isLetter_35
    · replace h := it_neg c3 h
      refine r_aload_n 0 dX0_isLetter_19 rfl ?_
      refine gCursor_text 0 rfl (tb_in (i := 0) (j := 5) rfl rfl) dX0_isLetter_20 ?_
      refine r_iload_n 1 dX0_isLetter_23 rfl ?_
      obtain ⟨h4, h⟩ := rq_some h
      refine lCursor_text 0 rfl (inb_in h4) dX0_isLetter_24 ?_
      refine r_bipush (x := (122 : Int32)) dX0_isLetter_25 (by decide) ?_
      refine r_icmp_gt 34 dX0_isLetter_27 (by decide) (fun c5 => ?_) (fun c5 => ?_)
      · replace h := it_pos c5 h
        refine r_iconst (x := (0 : Int32)) dX0_isLetter_34 (by decide) ?_
        have hq := Option.some.inj h
        subst hq
        exact r_zret (ty := .boolean) rfl rfl dX0_isLetter_35
      · replace h := it_neg c5 h
        refine r_iconst (x := (1 : Int32)) dX0_isLetter_30 (by decide) ?_
        refine r_goto 35 dX0_isLetter_31 (by decide) ?_
        have hq := Option.some.inj h
        subst hq
        exact r_zret (ty := .boolean) rfl rfl dX0_isLetter_35
end
theorem dX0_takeWord_0 : decode cX0_takeWord 0 = .ok (.aload_n 0, 1) := by decide +kernel
theorem dX0_takeWord_1 : decode cX0_takeWord 1 = .ok (.invokevirtual 37, 3) := by decide +kernel
theorem dX0_takeWord_4 : decode cX0_takeWord 4 = .ok (.pop, 1) := by decide +kernel
theorem dX0_takeWord_5 : decode cX0_takeWord 5 = .ok (.iconst 0, 1) := by decide +kernel
theorem dX0_takeWord_6 : decode cX0_takeWord 6 = .ok (.istore_n 2, 1) := by decide +kernel
theorem dX0_takeWord_7 : decode cX0_takeWord 7 = .ok (.iconst 0, 1) := by decide +kernel
theorem dX0_takeWord_8 : decode cX0_takeWord 8 = .ok (.istore_n 3, 1) := by decide +kernel
theorem dX0_takeWord_9 : decode cX0_takeWord 9 = .ok (.iconst 0, 1) := by decide +kernel
theorem dX0_takeWord_10 : decode cX0_takeWord 10 = .ok (.istore 4, 2) := by decide +kernel
theorem dX0_takeWord_12 : decode cX0_takeWord 12 = .ok (.iconst 0, 1) := by decide +kernel
theorem dX0_takeWord_13 : decode cX0_takeWord 13 = .ok (.istore 5, 2) := by decide +kernel
theorem dX0_takeWord_15 : decode cX0_takeWord 15 = .ok (.iload 5, 2) := by decide +kernel
theorem dX0_takeWord_17 : decode cX0_takeWord 17 = .ok (.aload_n 1, 1) := by decide +kernel
theorem dX0_takeWord_18 : decode cX0_takeWord 18 = .ok (.invokevirtual 41, 3) := by decide +kernel
theorem dX0_takeWord_21 : decode cX0_takeWord 21 = .ok (.if_icmp .ge 130, 3) := by decide +kernel
theorem dX0_takeWord_24 : decode cX0_takeWord 24 = .ok (.aload_n 1, 1) := by decide +kernel
theorem dX0_takeWord_25 : decode cX0_takeWord 25 = .ok (.iload 5, 2) := by decide +kernel
theorem dX0_takeWord_27 : decode cX0_takeWord 27 = .ok (.invokevirtual 46, 3) := by decide +kernel
theorem dX0_takeWord_30 : decode cX0_takeWord 30 = .ok (.bipush 32, 2) := by decide +kernel
theorem dX0_takeWord_32 : decode cX0_takeWord 32 = .ok (.if_icmp .ne 7, 3) := by decide +kernel
theorem dX0_takeWord_35 : decode cX0_takeWord 35 = .ok (.iconst 1, 1) := by decide +kernel
theorem dX0_takeWord_36 : decode cX0_takeWord 36 = .ok (.goto 4, 3) := by decide +kernel
theorem dX0_takeWord_39 : decode cX0_takeWord 39 = .ok (.iconst 0, 1) := by decide +kernel
theorem dX0_takeWord_40 : decode cX0_takeWord 40 = .ok (.istore 6, 2) := by decide +kernel
theorem dX0_takeWord_42 : decode cX0_takeWord 42 = .ok (.iload 6, 2) := by decide +kernel
theorem dX0_takeWord_44 : decode cX0_takeWord 44 = .ok (.ifCond .eq 37, 3) := by decide +kernel
theorem dX0_takeWord_47 : decode cX0_takeWord 47 = .ok (.iload_n 3, 1) := by decide +kernel
theorem dX0_takeWord_48 : decode cX0_takeWord 48 = .ok (.iload 5, 2) := by decide +kernel
theorem dX0_takeWord_50 : decode cX0_takeWord 50 = .ok (.iload 4, 2) := by decide +kernel
theorem dX0_takeWord_52 : decode cX0_takeWord 52 = .ok (.isub, 1) := by decide +kernel
theorem dX0_takeWord_53 : decode cX0_takeWord 53 = .ok (.if_icmp .ne 28, 3) := by decide +kernel
theorem dX0_takeWord_56 : decode cX0_takeWord 56 = .ok (.aload_n 0, 1) := by decide +kernel
theorem dX0_takeWord_57 : decode cX0_takeWord 57 = .ok (.aload_n 0, 1) := by decide +kernel
theorem dX0_takeWord_58 : decode cX0_takeWord 58 = .ok (.getfield 19, 3) := by decide +kernel
theorem dX0_takeWord_61 : decode cX0_takeWord 61 = .ok (.iload_n 3, 1) := by decide +kernel
theorem dX0_takeWord_62 : decode cX0_takeWord 62 = .ok (.iadd, 1) := by decide +kernel
theorem dX0_takeWord_63 : decode cX0_takeWord 63 = .ok (.invokevirtual 50, 3) := by decide +kernel
theorem dX0_takeWord_66 : decode cX0_takeWord 66 = .ok (.ifCond .ne 15, 3) := by decide +kernel
theorem dX0_takeWord_69 : decode cX0_takeWord 69 = .ok (.aload_n 0, 1) := by decide +kernel
theorem dX0_takeWord_70 : decode cX0_takeWord 70 = .ok (.dup, 1) := by decide +kernel
theorem dX0_takeWord_71 : decode cX0_takeWord 71 = .ok (.getfield 19, 3) := by decide +kernel
theorem dX0_takeWord_74 : decode cX0_takeWord 74 = .ok (.iload_n 3, 1) := by decide +kernel
theorem dX0_takeWord_75 : decode cX0_takeWord 75 = .ok (.iadd, 1) := by decide +kernel
theorem dX0_takeWord_76 : decode cX0_takeWord 76 = .ok (.putfield 19, 3) := by decide +kernel
theorem dX0_takeWord_79 : decode cX0_takeWord 79 = .ok (.iload_n 2, 1) := by decide +kernel
theorem dX0_takeWord_80 : decode cX0_takeWord 80 = .ok (.ireturn, 1) := by decide +kernel
theorem dX0_takeWord_81 : decode cX0_takeWord 81 = .ok (.iload 6, 2) := by decide +kernel
theorem dX0_takeWord_83 : decode cX0_takeWord 83 = .ok (.ifCond .eq 17, 3) := by decide +kernel
theorem dX0_takeWord_86 : decode cX0_takeWord 86 = .ok (.iinc 2 1, 3) := by decide +kernel
theorem dX0_takeWord_89 : decode cX0_takeWord 89 = .ok (.iload 5, 2) := by decide +kernel
theorem dX0_takeWord_91 : decode cX0_takeWord 91 = .ok (.iconst 1, 1) := by decide +kernel
theorem dX0_takeWord_92 : decode cX0_takeWord 92 = .ok (.iadd, 1) := by decide +kernel
theorem dX0_takeWord_93 : decode cX0_takeWord 93 = .ok (.istore 4, 2) := by decide +kernel
theorem dX0_takeWord_95 : decode cX0_takeWord 95 = .ok (.iconst 0, 1) := by decide +kernel
theorem dX0_takeWord_96 : decode cX0_takeWord 96 = .ok (.istore_n 3, 1) := by decide +kernel
theorem dX0_takeWord_97 : decode cX0_takeWord 97 = .ok (.goto 48, 3) := by decide +kernel
theorem dX0_takeWord_100 : decode cX0_takeWord 100 = .ok (.iload_n 3, 1) := by decide +kernel
theorem dX0_takeWord_101 : decode cX0_takeWord 101 = .ok (.iload 5, 2) := by decide +kernel
theorem dX0_takeWord_103 : decode cX0_takeWord 103 = .ok (.iload 4, 2) := by decide +kernel
theorem dX0_takeWord_105 : decode cX0_takeWord 105 = .ok (.isub, 1) := by decide +kernel
theorem dX0_takeWord_106 : decode cX0_takeWord 106 = .ok (.if_icmp .ne 39, 3) := by decide +kernel
theorem dX0_takeWord_109 : decode cX0_takeWord 109 = .ok (.aload_n 0, 1) := by decide +kernel
theorem dX0_takeWord_110 : decode cX0_takeWord 110 = .ok (.getfield 19, 3) := by decide +kernel
theorem dX0_takeWord_113 : decode cX0_takeWord 113 = .ok (.iload_n 3, 1) := by decide +kernel
theorem dX0_takeWord_114 : decode cX0_takeWord 114 = .ok (.iadd, 1) := by decide +kernel
theorem dX0_takeWord_115 : decode cX0_takeWord 115 = .ok (.aload_n 0, 1) := by decide +kernel
theorem dX0_takeWord_116 : decode cX0_takeWord 116 = .ok (.getfield 15, 3) := by decide +kernel
theorem dX0_takeWord_119 : decode cX0_takeWord 119 = .ok (.if_icmp .ge 26, 3) := by decide +kernel
theorem dX0_takeWord_122 : decode cX0_takeWord 122 = .ok (.aload_n 0, 1) := by decide +kernel
theorem dX0_takeWord_123 : decode cX0_takeWord 123 = .ok (.getfield 9, 3) := by decide +kernel
theorem dX0_takeWord_126 : decode cX0_takeWord 126 = .ok (.aload_n 0, 1) := by decide +kernel
theorem dX0_takeWord_127 : decode cX0_takeWord 127 = .ok (.getfield 19, 3) := by decide +kernel
theorem dX0_takeWord_130 : decode cX0_takeWord 130 = .ok (.iload_n 3, 1) := by decide +kernel
theorem dX0_takeWord_131 : decode cX0_takeWord 131 = .ok (.iadd, 1) := by decide +kernel
theorem dX0_takeWord_132 : decode cX0_takeWord 132 = .ok (.baload, 1) := by decide +kernel
theorem dX0_takeWord_133 : decode cX0_takeWord 133 = .ok (.aload_n 1, 1) := by decide +kernel
theorem dX0_takeWord_134 : decode cX0_takeWord 134 = .ok (.iload 5, 2) := by decide +kernel
theorem dX0_takeWord_136 : decode cX0_takeWord 136 = .ok (.invokevirtual 46, 3) := by decide +kernel
theorem dX0_takeWord_139 : decode cX0_takeWord 139 = .ok (.if_icmp .ne 6, 3) := by decide +kernel
theorem dX0_takeWord_142 : decode cX0_takeWord 142 = .ok (.iinc 3 1, 3) := by decide +kernel
theorem dX0_takeWord_145 : decode cX0_takeWord 145 = .ok (.iinc 5 1, 3) := by decide +kernel
theorem dX0_takeWord_148 : decode cX0_takeWord 148 = .ok (.goto (-133), 3) := by decide +kernel
theorem dX0_takeWord_151 : decode cX0_takeWord 151 = .ok (.iconst (-1), 1) := by decide +kernel
theorem dX0_takeWord_152 : decode cX0_takeWord 152 = .ok (.ireturn, 1) := by decide +kernel
abbrev MCursor_takeWord : rx_M := (RX0, yX0_takeWord, cX0_takeWord, 7, (some .int), 7)
theorem kCursor_takeWord : rKv MCursor_takeWord 1 := ⟨tb_in (i := 6) (j := 17) rfl rfl, tb_in (i := 6) (j := 18) rfl rfl, tb_in (i := 1) (j := 31) rfl rfl, tb_in (i := 2) (j := 11) rfl rfl, ⟨by decide, by decide, by decide +kernel⟩, by decide⟩
section
variable {a0 : Nat → Nat} {z0_text : Nat → Int32} {z0_size : Int32} {z0_at : Int32} {z0_fault : Int32}
def mCursor_takeWord_j81 (k15 : Int32 → Int32 → Int32 → Int32 → Option (Int32 × Int32)) (x1 : Nat) (x2 : Int32) (x3 : Int32) (x4 : Int32) (x5 : Int32) (x6 : Int32) (z0_text : Nat → Int32) (z0_size : Int32) (z0_at : Int32) : Option (Int32 × Int32) := (if x6 = 0 then (if x3 = (x5 - x4) then (if z0_size ≤ (z0_at + x3) then k15 x2 x3 x4 (x5 + (1 : Int32)) else rq (inb (z0_at + x3) 400) (rq (decide (x1 < nJS)) (rq (inb x5 (lenJS.getD x1 0)) ((if (z0_text (z0_at + x3).toNatClampNeg) = (chJS x1 x5) then k15 x2 (x3 + (1 : Int32)) x4 (x5 + (1 : Int32)) else k15 x2 x3 x4 (x5 + (1 : Int32))))))) else k15 x2 x3 x4 (x5 + (1 : Int32))) else lt (x5 + (1 : Int32)) (fun y15 => k15 (x2 + (1 : Int32)) (0 : Int32) y15 (x5 + (1 : Int32))))
set_option maxHeartbeats 4000000 in
set_option maxRecDepth 20000 in
theorem cCursor_takeWord_j81 {q : Int32 × Int32} {x1 : Nat} {x2 : Int32} {x3 : Int32} {x4 : Int32} {x5 : Int32} {x6 : Int32} {k15 : Int32 → Int32 → Int32 → Int32 → Option (Int32 × Int32)} (hk15 : ∀ (x2 : Int32) (x3 : Int32) (x4 : Int32) (x5 : Int32), k15 x2 x3 x4 x5 = some q → rW l D Z (ty7 K) MCursor_takeWord 15 [(0, .ref (a0 0)), (1, .ref (Z.1 x1)), (2, .int x2), (3, .int x3), (4, .int x4), (5, .int x5)] [] (List.flatten [bCursor K a0 z0_text z0_size z0_at z0_fault]) (List.flatten [bCursor K a0 z0_text z0_size q.2 z0_fault]) (some (.int q.1))) (h : mCursor_takeWord_j81 k15 x1 x2 x3 x4 x5 x6 z0_text z0_size z0_at = some q) : rW l D Z (ty7 K) MCursor_takeWord 81 [(0, .ref (a0 0)), (1, .ref (Z.1 x1)), (2, .int x2), (3, .int x3), (4, .int x4), (5, .int x5), (6, .int x6)] [] (List.flatten [bCursor K a0 z0_text z0_size z0_at z0_fault]) (List.flatten [bCursor K a0 z0_text z0_size q.2 z0_fault]) (some (.int q.1)) := by
  unfold mCursor_takeWord_j81 at h
  refine r_iload 6 dX0_takeWord_81 rfl ?_
  refine r_if_eq 100 dX0_takeWord_83 (by decide) (fun c8 => ?_) (fun c8 => ?_)
  · replace h := it_pos c8 h
    refine r_iload_n 3 dX0_takeWord_100 rfl ?_
    refine r_iload 5 dX0_takeWord_101 rfl ?_
    refine r_iload 4 dX0_takeWord_103 rfl ?_
    refine r_isub dX0_takeWord_105 ?_
    refine r_icmp_ne 145 dX0_takeWord_106 (by decide) (fun c9 => ?_) (fun c9 => ?_)
    · replace h := it_neg c9 h
      refine r_iinc (y := (x5 + (1 : Int32))) (lv' := [(5, .int (x5 + (1 : Int32))), (0, .ref (a0 0)), (1, .ref (Z.1 x1)), (2, .int x2), (3, .int x3), (4, .int x4), (6, .int x6)]) 5 dX0_takeWord_145 rfl rfl (Nat.le_of_ble_eq_true rfl) rfl ?_
      refine r_goto 15 dX0_takeWord_148 (by decide) ?_
      refine r_sub (lv' := [(0, .ref (a0 0)), (1, .ref (Z.1 x1)), (2, .int x2), (3, .int x3), (4, .int x4), (5, .int (x5 + (1 : Int32)))]) [1, 2, 3, 4, 5, 0] rfl ?_
      exact hk15 x2 x3 x4 (x5 + (1 : Int32)) h
    · replace h := it_pos c9 h
      refine r_aload_n 0 dX0_takeWord_109 rfl ?_
      refine gCursor_at 0 rfl (tb_in (i := 0) (j := 7) rfl rfl) dX0_takeWord_110 ?_
      refine r_iload_n 3 dX0_takeWord_113 rfl ?_
      refine r_iadd dX0_takeWord_114 ?_
      refine r_aload_n 0 dX0_takeWord_115 rfl ?_
      refine gCursor_size 0 rfl (tb_in (i := 0) (j := 6) rfl rfl) dX0_takeWord_116 ?_
      refine r_icmp_ge 145 dX0_takeWord_119 (by decide) (fun c10 => ?_) (fun c10 => ?_)
      · replace h := it_pos c10 h
        refine r_iinc (y := (x5 + (1 : Int32))) (lv' := [(5, .int (x5 + (1 : Int32))), (0, .ref (a0 0)), (1, .ref (Z.1 x1)), (2, .int x2), (3, .int x3), (4, .int x4), (6, .int x6)]) 5 dX0_takeWord_145 rfl rfl (Nat.le_of_ble_eq_true rfl) rfl ?_
        refine r_goto 15 dX0_takeWord_148 (by decide) ?_
        refine r_sub (lv' := [(0, .ref (a0 0)), (1, .ref (Z.1 x1)), (2, .int x2), (3, .int x3), (4, .int x4), (5, .int (x5 + (1 : Int32)))]) [1, 2, 3, 4, 5, 0] rfl ?_
        exact hk15 x2 x3 x4 (x5 + (1 : Int32)) h
      · replace h := it_neg c10 h
        refine r_aload_n 0 dX0_takeWord_122 rfl ?_
        refine gCursor_text 0 rfl (tb_in (i := 0) (j := 5) rfl rfl) dX0_takeWord_123 ?_
        refine r_aload_n 0 dX0_takeWord_126 rfl ?_
        refine gCursor_at 0 rfl (tb_in (i := 0) (j := 7) rfl rfl) dX0_takeWord_127 ?_
        refine r_iload_n 3 dX0_takeWord_130 rfl ?_
        refine r_iadd dX0_takeWord_131 ?_
        obtain ⟨h11, h⟩ := rq_some h
        refine lCursor_text 0 rfl (inb_in h11) dX0_takeWord_132 ?_
        refine r_aload_n 1 dX0_takeWord_133 rfl ?_
        refine r_iload 5 dX0_takeWord_134 rfl ?_
        obtain ⟨h12, h⟩ := rq_some h
        obtain ⟨h13, h⟩ := rq_some h
        refine r_schar (of_decide_eq_true h12) (inb_in h13) (tb_in (i := 2) (j := 3) rfl rfl) (by decide) (Nat.le_of_ble_eq_true rfl) dX0_takeWord_136 ?_
        refine r_icmp_ne 145 dX0_takeWord_139 (by decide) (fun c14 => ?_) (fun c14 => ?_)
        · replace h := it_neg c14 h
          refine r_iinc (y := (x5 + (1 : Int32))) (lv' := [(5, .int (x5 + (1 : Int32))), (0, .ref (a0 0)), (1, .ref (Z.1 x1)), (2, .int x2), (3, .int x3), (4, .int x4), (6, .int x6)]) 5 dX0_takeWord_145 rfl rfl (Nat.le_of_ble_eq_true rfl) rfl ?_
          refine r_goto 15 dX0_takeWord_148 (by decide) ?_
          refine r_sub (lv' := [(0, .ref (a0 0)), (1, .ref (Z.1 x1)), (2, .int x2), (3, .int x3), (4, .int x4), (5, .int (x5 + (1 : Int32)))]) [1, 2, 3, 4, 5, 0] rfl ?_
          exact hk15 x2 x3 x4 (x5 + (1 : Int32)) h
        · replace h := it_pos c14 h
          refine r_iinc (y := (x3 + (1 : Int32))) (lv' := [(3, .int (x3 + (1 : Int32))), (0, .ref (a0 0)), (1, .ref (Z.1 x1)), (2, .int x2), (4, .int x4), (5, .int x5), (6, .int x6)]) 3 dX0_takeWord_142 rfl rfl (Nat.le_of_ble_eq_true rfl) rfl ?_
          refine r_iinc (y := (x5 + (1 : Int32))) (lv' := [(5, .int (x5 + (1 : Int32))), (3, .int (x3 + (1 : Int32))), (0, .ref (a0 0)), (1, .ref (Z.1 x1)), (2, .int x2), (4, .int x4), (6, .int x6)]) 5 dX0_takeWord_145 rfl rfl (Nat.le_of_ble_eq_true rfl) rfl ?_
          refine r_goto 15 dX0_takeWord_148 (by decide) ?_
          refine r_sub (lv' := [(0, .ref (a0 0)), (1, .ref (Z.1 x1)), (2, .int x2), (3, .int (x3 + (1 : Int32))), (4, .int x4), (5, .int (x5 + (1 : Int32)))]) [2, 3, 4, 1, 5, 0] rfl ?_
          exact hk15 x2 (x3 + (1 : Int32)) x4 (x5 + (1 : Int32)) h
  · replace h := it_neg c8 h
    refine r_iinc (y := (x2 + (1 : Int32))) (lv' := [(2, .int (x2 + (1 : Int32))), (0, .ref (a0 0)), (1, .ref (Z.1 x1)), (3, .int x3), (4, .int x4), (5, .int x5), (6, .int x6)]) 2 dX0_takeWord_86 rfl rfl (Nat.le_of_ble_eq_true rfl) rfl ?_
    refine r_iload 5 dX0_takeWord_89 rfl ?_
    refine r_iconst (x := (1 : Int32)) dX0_takeWord_91 (by decide) ?_
    refine r_iadd dX0_takeWord_92 ?_
    obtain ⟨y15, e15, h⟩ := lt_some h
    refine r_top e15 ?_
    refine r_istore (lv' := [(4, .int y15), (2, .int (x2 + (1 : Int32))), (0, .ref (a0 0)), (1, .ref (Z.1 x1)), (3, .int x3), (5, .int x5), (6, .int x6)]) dX0_takeWord_93 (Nat.le_of_ble_eq_true rfl) rfl ?_
    refine r_iconst (x := (0 : Int32)) dX0_takeWord_95 (by decide) ?_
    refine r_istore_n (lv' := [(3, .int (0 : Int32)), (4, .int y15), (2, .int (x2 + (1 : Int32))), (0, .ref (a0 0)), (1, .ref (Z.1 x1)), (5, .int x5), (6, .int x6)]) dX0_takeWord_96 (Nat.le_of_ble_eq_true rfl) rfl ?_
    refine r_goto 145 dX0_takeWord_97 (by decide) ?_
    refine r_iinc (y := (x5 + (1 : Int32))) (lv' := [(5, .int (x5 + (1 : Int32))), (3, .int (0 : Int32)), (4, .int y15), (2, .int (x2 + (1 : Int32))), (0, .ref (a0 0)), (1, .ref (Z.1 x1)), (6, .int x6)]) 5 dX0_takeWord_145 rfl rfl (Nat.le_of_ble_eq_true rfl) rfl ?_
    refine r_goto 15 dX0_takeWord_148 (by decide) ?_
    refine r_sub (lv' := [(0, .ref (a0 0)), (1, .ref (Z.1 x1)), (2, .int (x2 + (1 : Int32))), (3, .int (0 : Int32)), (4, .int y15), (5, .int (x5 + (1 : Int32)))]) [4, 5, 3, 1, 2, 0] rfl ?_
    exact hk15 (x2 + (1 : Int32)) (0 : Int32) y15 (x5 + (1 : Int32)) h
def mCursor_takeWord_j40 (k15 : Int32 → Int32 → Int32 → Int32 → Option (Int32 × Int32)) (x1 : Nat) (x2 : Int32) (x3 : Int32) (x4 : Int32) (x5 : Int32) (z0_text : Nat → Int32) (z0_size : Int32) (z0_at : Int32) (s0 : Int32) : Option (Int32 × Int32) := (if s0 = 0 then mCursor_takeWord_j81 k15 x1 x2 x3 x4 x5 s0 z0_text z0_size z0_at else (if x3 = (x5 - x4) then (mCursor_isLetter (z0_at + x3) z0_text z0_size).bind (fun q17 => (if q17 = 0 then lt (z0_at + x3) (fun y19 => some (x2, y19)) else mCursor_takeWord_j81 k15 x1 x2 x3 x4 x5 s0 z0_text z0_size z0_at)) else mCursor_takeWord_j81 k15 x1 x2 x3 x4 x5 s0 z0_text z0_size z0_at))
set_option maxHeartbeats 4000000 in
set_option maxRecDepth 20000 in
theorem cCursor_takeWord_j40 {q : Int32 × Int32} {x1 : Nat} {x2 : Int32} {x3 : Int32} {x4 : Int32} {x5 : Int32} {s0 : Int32} {k15 : Int32 → Int32 → Int32 → Int32 → Option (Int32 × Int32)} (hk15 : ∀ (x2 : Int32) (x3 : Int32) (x4 : Int32) (x5 : Int32), k15 x2 x3 x4 x5 = some q → rW l D Z (ty7 K) MCursor_takeWord 15 [(0, .ref (a0 0)), (1, .ref (Z.1 x1)), (2, .int x2), (3, .int x3), (4, .int x4), (5, .int x5)] [] (List.flatten [bCursor K a0 z0_text z0_size z0_at z0_fault]) (List.flatten [bCursor K a0 z0_text z0_size q.2 z0_fault]) (some (.int q.1))) (h : mCursor_takeWord_j40 k15 x1 x2 x3 x4 x5 z0_text z0_size z0_at s0 = some q) : rW l D Z (ty7 K) MCursor_takeWord 40 [(0, .ref (a0 0)), (1, .ref (Z.1 x1)), (2, .int x2), (3, .int x3), (4, .int x4), (5, .int x5)] [.int s0] (List.flatten [bCursor K a0 z0_text z0_size z0_at z0_fault]) (List.flatten [bCursor K a0 z0_text z0_size q.2 z0_fault]) (some (.int q.1)) := by
  unfold mCursor_takeWord_j40 at h
  refine r_istore (lv' := [(6, .int s0), (0, .ref (a0 0)), (1, .ref (Z.1 x1)), (2, .int x2), (3, .int x3), (4, .int x4), (5, .int x5)]) dX0_takeWord_40 (Nat.le_of_ble_eq_true rfl) rfl ?_
  refine r_iload 0 dX0_takeWord_42 rfl ?_
  refine r_if_eq 81 dX0_takeWord_44 (by decide) (fun c7 => ?_) (fun c7 => ?_)
  · replace h := it_pos c7 h
    refine r_sub (lv' := [(0, .ref (a0 0)), (1, .ref (Z.1 x1)), (2, .int x2), (3, .int x3), (4, .int x4), (5, .int x5), (6, .int s0)]) [1, 2, 3, 4, 5, 6, 0] rfl ?_
    exact cCursor_takeWord_j81  (hk15) h
  · replace h := it_neg c7 h
    refine r_iload_n 4 dX0_takeWord_47 rfl ?_
    refine r_iload 6 dX0_takeWord_48 rfl ?_
    refine r_iload 5 dX0_takeWord_50 rfl ?_
    refine r_isub dX0_takeWord_52 ?_
    refine r_icmp_ne 81 dX0_takeWord_53 (by decide) (fun c16 => ?_) (fun c16 => ?_)
    · replace h := it_neg c16 h
      refine r_sub (lv' := [(0, .ref (a0 0)), (1, .ref (Z.1 x1)), (2, .int x2), (3, .int x3), (4, .int x4), (5, .int x5), (6, .int s0)]) [1, 2, 3, 4, 5, 6, 0] rfl ?_
      exact cCursor_takeWord_j81  (hk15) h
    · replace h := it_pos c16 h
      refine r_aload_n 1 dX0_takeWord_56 rfl ?_
      refine r_aload_n 1 dX0_takeWord_57 rfl ?_
      refine gCursor_at 0 rfl (tb_in (i := 0) (j := 7) rfl rfl) dX0_takeWord_58 ?_
      refine r_iload_n 4 dX0_takeWord_61 rfl ?_
      refine r_iadd dX0_takeWord_62 ?_
      obtain ⟨q17, h17, h⟩ := bd_some h
      refine b_callV (isC := [0]) (ci := 0)  (st := []) (bs1 := [bCursor K a0 z0_text z0_size z0_at z0_fault]) (cCursor_isLetter (a0 := a0) (z0_text := z0_text) (z0_size := z0_size) (z0_at := z0_at) (z0_fault := z0_fault) h17) rfl rfl (Nat.le_of_ble_eq_true rfl) kCursor_isLetter (tb_in (i := 2) (j := 8) rfl rfl) (by decide) (by decide) rfl rfl rfl rfl rfl rfl rfl dX0_takeWord_63 ?_
      refine r_if_ne 81 dX0_takeWord_66 (by decide) (fun c18 => ?_) (fun c18 => ?_)
      · replace h := it_neg c18 h
        refine r_sub (lv' := [(0, .ref (a0 0)), (1, .ref (Z.1 x1)), (2, .int x2), (3, .int x3), (4, .int x4), (5, .int x5), (6, .int s0)]) [1, 2, 3, 4, 5, 6, 0] rfl ?_
        exact cCursor_takeWord_j81  (hk15) h
      · replace h := it_pos c18 h
        refine r_aload_n 1 dX0_takeWord_69 rfl ?_
        refine r_dup dX0_takeWord_70 rfl ?_
        refine gCursor_at 0 rfl (tb_in (i := 0) (j := 7) rfl rfl) dX0_takeWord_71 ?_
        refine r_iload_n 4 dX0_takeWord_74 rfl ?_
        refine r_iadd dX0_takeWord_75 ?_
        obtain ⟨y19, e19, h⟩ := lt_some h
        refine r_top e19 ?_
        refine pCursor_at (bs1 := [bCursor K a0 z0_text z0_size y19 z0_fault]) 0 rfl rfl (tb_in (i := 0) (j := 7) rfl rfl) dX0_takeWord_76 ?_
        refine r_iload_n 3 dX0_takeWord_79 rfl ?_
        have hq := Option.some.inj h
        subst hq
        exact r_iret rfl dX0_takeWord_80
def mCursor_takeWord_l15 (z0_text : Nat → Int32) (z0_size : Int32) (z0_at : Int32) (x1 : Nat) : Nat → Int32 → Int32 → Int32 → Int32 → Option (Int32 × Int32)
  | 0, _, _, _, _ => none
  | n + 1, x2, x3, x4, x5 => rq (decide (x1 < nJS)) ((if (nI (lenJS.getD x1 0)) ≤ x5 then some ((-1 : Int32), z0_at) else rq (decide (x1 < nJS)) (rq (inb x5 (lenJS.getD x1 0)) ((if (chJS x1 x5) = (32 : Int32) then mCursor_takeWord_j40 (mCursor_takeWord_l15 z0_text z0_size z0_at x1 n) x1 x2 x3 x4 x5 z0_text z0_size z0_at (1 : Int32) else mCursor_takeWord_j40 (mCursor_takeWord_l15 z0_text z0_size z0_at x1 n) x1 x2 x3 x4 x5 z0_text z0_size z0_at (0 : Int32))))))
set_option maxHeartbeats 4000000 in
set_option maxRecDepth 20000 in
theorem cCursor_takeWord_l15 {q : Int32 × Int32} {x1 : Nat}  : ∀ (n : Nat) (x2 : Int32) (x3 : Int32) (x4 : Int32) (x5 : Int32), mCursor_takeWord_l15 z0_text z0_size z0_at x1 n x2 x3 x4 x5 = some q → rW l D Z (ty7 K) MCursor_takeWord 15 [(0, .ref (a0 0)), (1, .ref (Z.1 x1)), (2, .int x2), (3, .int x3), (4, .int x4), (5, .int x5)] [] (List.flatten [bCursor K a0 z0_text z0_size z0_at z0_fault]) (List.flatten [bCursor K a0 z0_text z0_size q.2 z0_fault]) (some (.int q.1)) := by
  intro n
  induction n with
  | zero => intro x2 x3 x4 x5 h; unfold mCursor_takeWord_l15 at h; cases h
  | succ n ih =>
    intro x2 x3 x4 x5 h
    unfold mCursor_takeWord_l15 at h
    refine r_iload 5 dX0_takeWord_15 rfl ?_
    refine r_aload_n 1 dX0_takeWord_17 rfl ?_
    obtain ⟨h2, h⟩ := rq_some h
    refine r_slen (of_decide_eq_true h2) (tb_in (i := 2) (j := 0) rfl rfl) (by decide) (Nat.le_of_ble_eq_true rfl) dX0_takeWord_18 ?_
    refine r_icmp_ge 151 dX0_takeWord_21 (by decide) (fun c3 => ?_) (fun c3 => ?_)
    · replace h := it_pos c3 h
      refine r_iconst (x := (-1 : Int32)) dX0_takeWord_151 (by decide) ?_
      have hq := Option.some.inj h
      subst hq
      exact r_iret rfl dX0_takeWord_152
    · replace h := it_neg c3 h
      refine r_aload_n 1 dX0_takeWord_24 rfl ?_
      refine r_iload 5 dX0_takeWord_25 rfl ?_
      obtain ⟨h4, h⟩ := rq_some h
      obtain ⟨h5, h⟩ := rq_some h
      refine r_schar (of_decide_eq_true h4) (inb_in h5) (tb_in (i := 2) (j := 3) rfl rfl) (by decide) (Nat.le_of_ble_eq_true rfl) dX0_takeWord_27 ?_
      refine r_bipush (x := (32 : Int32)) dX0_takeWord_30 (by decide) ?_
      refine r_icmp_ne 39 dX0_takeWord_32 (by decide) (fun c6 => ?_) (fun c6 => ?_)
      · replace h := it_neg c6 h
        refine r_iconst (x := (0 : Int32)) dX0_takeWord_39 (by decide) ?_
        exact cCursor_takeWord_j40  (ih) h
      · replace h := it_pos c6 h
        refine r_iconst (x := (1 : Int32)) dX0_takeWord_35 (by decide) ?_
        refine r_goto 40 dX0_takeWord_36 (by decide) ?_
        exact cCursor_takeWord_j40  (ih) h
def mCursor_takeWord (x1 : Nat) (z0_text : Nat → Int32) (z0_size : Int32) (z0_at : Int32) : Option (Int32 × Int32) := (mCursor_peek z0_text z0_size z0_at).bind (fun q1 => mCursor_takeWord_l15 z0_text z0_size q1.2 x1 FU (0 : Int32) (0 : Int32) (0 : Int32) (0 : Int32))
set_option maxHeartbeats 4000000 in
set_option maxRecDepth 20000 in
theorem cCursor_takeWord {q : Int32 × Int32} {x1 : Nat} (h : mCursor_takeWord x1 z0_text z0_size z0_at = some q) : rMet l D Z (ty7 K) MCursor_takeWord [.ref (a0 0), .ref (Z.1 x1)] (List.flatten [bCursor K a0 z0_text z0_size z0_at z0_fault]) (List.flatten [bCursor K a0 z0_text z0_size q.2 z0_fault]) (some (.int q.1)) := by
  refine rMet.of (by decide) rfl (Nat.le_of_ble_eq_true rfl) ?_
  refine r_sub (lv' := [(0, .ref (a0 0)), (1, .ref (Z.1 x1))]) [0, 1] rfl ?_
  unfold mCursor_takeWord at h
  refine r_aload_n 0 dX0_takeWord_0 rfl ?_
  obtain ⟨q1, h1, h⟩ := bd_some h
  refine b_callV (isC := [0]) (ci := 0)  (st := []) (bs1 := [bCursor K a0 z0_text z0_size q1.2 z0_fault]) (cCursor_peek (a0 := a0) (z0_text := z0_text) (z0_size := z0_size) (z0_at := z0_at) (z0_fault := z0_fault) h1) rfl rfl (Nat.le_of_ble_eq_true rfl) kCursor_peek (tb_in (i := 1) (j := 28) rfl rfl) (by decide) (by decide) rfl rfl rfl rfl rfl rfl rfl dX0_takeWord_1 ?_
  refine r_pop dX0_takeWord_4 rfl ?_
  refine r_iconst (x := (0 : Int32)) dX0_takeWord_5 (by decide) ?_
  refine r_istore_n (lv' := [(2, .int (0 : Int32)), (0, .ref (a0 0)), (1, .ref (Z.1 x1))]) dX0_takeWord_6 (Nat.le_of_ble_eq_true rfl) rfl ?_
  refine r_iconst (x := (0 : Int32)) dX0_takeWord_7 (by decide) ?_
  refine r_istore_n (lv' := [(3, .int (0 : Int32)), (2, .int (0 : Int32)), (0, .ref (a0 0)), (1, .ref (Z.1 x1))]) dX0_takeWord_8 (Nat.le_of_ble_eq_true rfl) rfl ?_
  refine r_iconst (x := (0 : Int32)) dX0_takeWord_9 (by decide) ?_
  refine r_istore (lv' := [(4, .int (0 : Int32)), (3, .int (0 : Int32)), (2, .int (0 : Int32)), (0, .ref (a0 0)), (1, .ref (Z.1 x1))]) dX0_takeWord_10 (Nat.le_of_ble_eq_true rfl) rfl ?_
  refine r_iconst (x := (0 : Int32)) dX0_takeWord_12 (by decide) ?_
  refine r_istore (lv' := [(5, .int (0 : Int32)), (4, .int (0 : Int32)), (3, .int (0 : Int32)), (2, .int (0 : Int32)), (0, .ref (a0 0)), (1, .ref (Z.1 x1))]) dX0_takeWord_13 (Nat.le_of_ble_eq_true rfl) rfl ?_
  refine r_sub (lv' := [(0, .ref (a0 0)), (1, .ref (Z.1 x1)), (2, .int (0 : Int32)), (3, .int (0 : Int32)), (4, .int (0 : Int32)), (5, .int (0 : Int32))]) [4, 5, 3, 2, 1, 0] rfl ?_
  exact cCursor_takeWord_l15   FU (0 : Int32) (0 : Int32) (0 : Int32) (0 : Int32) h
end
theorem dX0_isDigit_0 : decode cX0_isDigit 0 = .ok (.iload_n 1, 1) := by decide +kernel
theorem dX0_isDigit_1 : decode cX0_isDigit 1 = .ok (.aload_n 0, 1) := by decide +kernel
theorem dX0_isDigit_2 : decode cX0_isDigit 2 = .ok (.getfield 15, 3) := by decide +kernel
theorem dX0_isDigit_5 : decode cX0_isDigit 5 = .ok (.if_icmp .ge 29, 3) := by decide +kernel
theorem dX0_isDigit_8 : decode cX0_isDigit 8 = .ok (.aload_n 0, 1) := by decide +kernel
theorem dX0_isDigit_9 : decode cX0_isDigit 9 = .ok (.getfield 9, 3) := by decide +kernel
theorem dX0_isDigit_12 : decode cX0_isDigit 12 = .ok (.iload_n 1, 1) := by decide +kernel
theorem dX0_isDigit_13 : decode cX0_isDigit 13 = .ok (.baload, 1) := by decide +kernel
theorem dX0_isDigit_14 : decode cX0_isDigit 14 = .ok (.bipush 48, 2) := by decide +kernel
theorem dX0_isDigit_16 : decode cX0_isDigit 16 = .ok (.if_icmp .lt 18, 3) := by decide +kernel
theorem dX0_isDigit_19 : decode cX0_isDigit 19 = .ok (.aload_n 0, 1) := by decide +kernel
theorem dX0_isDigit_20 : decode cX0_isDigit 20 = .ok (.getfield 9, 3) := by decide +kernel
theorem dX0_isDigit_23 : decode cX0_isDigit 23 = .ok (.iload_n 1, 1) := by decide +kernel
theorem dX0_isDigit_24 : decode cX0_isDigit 24 = .ok (.baload, 1) := by decide +kernel
theorem dX0_isDigit_25 : decode cX0_isDigit 25 = .ok (.bipush 57, 2) := by decide +kernel
theorem dX0_isDigit_27 : decode cX0_isDigit 27 = .ok (.if_icmp .gt 7, 3) := by decide +kernel
theorem dX0_isDigit_30 : decode cX0_isDigit 30 = .ok (.iconst 1, 1) := by decide +kernel
theorem dX0_isDigit_31 : decode cX0_isDigit 31 = .ok (.goto 4, 3) := by decide +kernel
theorem dX0_isDigit_34 : decode cX0_isDigit 34 = .ok (.iconst 0, 1) := by decide +kernel
theorem dX0_isDigit_35 : decode cX0_isDigit 35 = .ok (.ireturn, 1) := by decide +kernel
abbrev MCursor_isDigit : rx_M := (RX0, yX0_isDigit, cX0_isDigit, 2, (some .boolean), 1)
theorem kCursor_isDigit : rKv MCursor_isDigit 1 := ⟨tb_in (i := 2) (j := 16) rfl rfl, tb_in (i := 2) (j := 17) rfl rfl, tb_in (i := 1) (j := 31) rfl rfl, tb_in (i := 2) (j := 12) rfl rfl, ⟨by decide, by decide, by decide +kernel⟩, by decide⟩
section
variable {a0 : Nat → Nat} {z0_text : Nat → Int32} {z0_size : Int32} {z0_at : Int32} {z0_fault : Int32}
def mCursor_isDigit (x1 : Int32) (z0_text : Nat → Int32) (z0_size : Int32) : Option (Int32) := (if z0_size ≤ x1 then some ((0 : Int32)) else rq (inb x1 400) ((if (z0_text x1.toNatClampNeg) < (48 : Int32) then some ((0 : Int32)) else rq (inb x1 400) ((if (57 : Int32) < (z0_text x1.toNatClampNeg) then some ((0 : Int32)) else some ((1 : Int32)))))))
set_option maxHeartbeats 4000000 in
set_option maxRecDepth 20000 in
theorem cCursor_isDigit {q : Int32} {x1 : Int32} (h : mCursor_isDigit x1 z0_text z0_size = some q) : rMet l D Z (ty7 K) MCursor_isDigit [.ref (a0 0), .int x1] (List.flatten [bCursor K a0 z0_text z0_size z0_at z0_fault]) (List.flatten [bCursor K a0 z0_text z0_size z0_at z0_fault]) (some (.int q)) := by
  refine rMet.of (by decide) rfl (Nat.le_of_ble_eq_true rfl) ?_
  refine r_sub (lv' := [(0, .ref (a0 0)), (1, .int x1)]) [0, 1] rfl ?_
  unfold mCursor_isDigit at h
  refine r_iload_n 1 dX0_isDigit_0 rfl ?_
  refine r_aload_n 0 dX0_isDigit_1 rfl ?_
  refine gCursor_size 0 rfl (tb_in (i := 0) (j := 6) rfl rfl) dX0_isDigit_2 ?_
  refine r_icmp_ge 34 dX0_isDigit_5 (by decide) (fun c1 => ?_) (fun c1 => ?_)
  · replace h := it_pos c1 h
    refine r_iconst (x := (0 : Int32)) dX0_isDigit_34 (by decide) ?_
    have hq := Option.some.inj h
    subst hq
    exact r_zret (ty := .boolean) rfl rfl dX0_isDigit_35
  · replace h := it_neg c1 h
    refine r_aload_n 0 dX0_isDigit_8 rfl ?_
    refine gCursor_text 0 rfl (tb_in (i := 0) (j := 5) rfl rfl) dX0_isDigit_9 ?_
    refine r_iload_n 1 dX0_isDigit_12 rfl ?_
    obtain ⟨h2, h⟩ := rq_some h
    refine lCursor_text 0 rfl (inb_in h2) dX0_isDigit_13 ?_
    refine r_bipush (x := (48 : Int32)) dX0_isDigit_14 (by decide) ?_
    refine r_icmp_lt 34 dX0_isDigit_16 (by decide) (fun c3 => ?_) (fun c3 => ?_)
    · replace h := it_pos c3 h
      refine r_iconst (x := (0 : Int32)) dX0_isDigit_34 (by decide) ?_
      have hq := Option.some.inj h
      subst hq
      exact r_zret (ty := .boolean) rfl rfl dX0_isDigit_35
    · replace h := it_neg c3 h
      refine r_aload_n 0 dX0_isDigit_19 rfl ?_
      refine gCursor_text 0 rfl (tb_in (i := 0) (j := 5) rfl rfl) dX0_isDigit_20 ?_
      refine r_iload_n 1 dX0_isDigit_23 rfl ?_
      obtain ⟨h4, h⟩ := rq_some h
      refine lCursor_text 0 rfl (inb_in h4) dX0_isDigit_24 ?_
      refine r_bipush (x := (57 : Int32)) dX0_isDigit_25 (by decide) ?_
      refine r_icmp_gt 34 dX0_isDigit_27 (by decide) (fun c5 => ?_) (fun c5 => ?_)
      · replace h := it_pos c5 h
        refine r_iconst (x := (0 : Int32)) dX0_isDigit_34 (by decide) ?_
        have hq := Option.some.inj h
        subst hq
        exact r_zret (ty := .boolean) rfl rfl dX0_isDigit_35
      · replace h := it_neg c5 h
        refine r_iconst (x := (1 : Int32)) dX0_isDigit_30 (by decide) ?_
        refine r_goto 35 dX0_isDigit_31 (by decide) ?_
        have hq := Option.some.inj h
        subst hq
        exact r_zret (ty := .boolean) rfl rfl dX0_isDigit_35
end
theorem dX0_takeNumber_0 : decode cX0_takeNumber 0 = .ok (.aload_n 0, 1) := by decide +kernel
theorem dX0_takeNumber_1 : decode cX0_takeNumber 1 = .ok (.invokevirtual 37, 3) := by decide +kernel
theorem dX0_takeNumber_4 : decode cX0_takeNumber 4 = .ok (.pop, 1) := by decide +kernel
theorem dX0_takeNumber_5 : decode cX0_takeNumber 5 = .ok (.aload_n 0, 1) := by decide +kernel
theorem dX0_takeNumber_6 : decode cX0_takeNumber 6 = .ok (.getfield 19, 3) := by decide +kernel
theorem dX0_takeNumber_9 : decode cX0_takeNumber 9 = .ok (.istore_n 3, 1) := by decide +kernel
theorem dX0_takeNumber_10 : decode cX0_takeNumber 10 = .ok (.iconst 0, 1) := by decide +kernel
theorem dX0_takeNumber_11 : decode cX0_takeNumber 11 = .ok (.istore 4, 2) := by decide +kernel
theorem dX0_takeNumber_13 : decode cX0_takeNumber 13 = .ok (.aload_n 0, 1) := by decide +kernel
theorem dX0_takeNumber_14 : decode cX0_takeNumber 14 = .ok (.getfield 19, 3) := by decide +kernel
theorem dX0_takeNumber_17 : decode cX0_takeNumber 17 = .ok (.aload_n 0, 1) := by decide +kernel
theorem dX0_takeNumber_18 : decode cX0_takeNumber 18 = .ok (.getfield 15, 3) := by decide +kernel
theorem dX0_takeNumber_21 : decode cX0_takeNumber 21 = .ok (.if_icmp .ge 57, 3) := by decide +kernel
theorem dX0_takeNumber_24 : decode cX0_takeNumber 24 = .ok (.aload_n 0, 1) := by decide +kernel
theorem dX0_takeNumber_25 : decode cX0_takeNumber 25 = .ok (.aload_n 0, 1) := by decide +kernel
theorem dX0_takeNumber_26 : decode cX0_takeNumber 26 = .ok (.getfield 19, 3) := by decide +kernel
theorem dX0_takeNumber_29 : decode cX0_takeNumber 29 = .ok (.invokevirtual 54, 3) := by decide +kernel
theorem dX0_takeNumber_32 : decode cX0_takeNumber 32 = .ok (.ifCond .eq 46, 3) := by decide +kernel
theorem dX0_takeNumber_35 : decode cX0_takeNumber 35 = .ok (.aload_n 0, 1) := by decide +kernel
theorem dX0_takeNumber_36 : decode cX0_takeNumber 36 = .ok (.getfield 19, 3) := by decide +kernel
theorem dX0_takeNumber_39 : decode cX0_takeNumber 39 = .ok (.iload_n 3, 1) := by decide +kernel
theorem dX0_takeNumber_40 : decode cX0_takeNumber 40 = .ok (.isub, 1) := by decide +kernel
theorem dX0_takeNumber_41 : decode cX0_takeNumber 41 = .ok (.iconst 5, 1) := by decide +kernel
theorem dX0_takeNumber_42 : decode cX0_takeNumber 42 = .ok (.if_icmp .ge 23, 3) := by decide +kernel
theorem dX0_takeNumber_45 : decode cX0_takeNumber 45 = .ok (.iload 4, 2) := by decide +kernel
theorem dX0_takeNumber_47 : decode cX0_takeNumber 47 = .ok (.bipush 10, 2) := by decide +kernel
theorem dX0_takeNumber_49 : decode cX0_takeNumber 49 = .ok (.imul, 1) := by decide +kernel
theorem dX0_takeNumber_50 : decode cX0_takeNumber 50 = .ok (.aload_n 0, 1) := by decide +kernel
theorem dX0_takeNumber_51 : decode cX0_takeNumber 51 = .ok (.getfield 9, 3) := by decide +kernel
theorem dX0_takeNumber_54 : decode cX0_takeNumber 54 = .ok (.aload_n 0, 1) := by decide +kernel
theorem dX0_takeNumber_55 : decode cX0_takeNumber 55 = .ok (.getfield 19, 3) := by decide +kernel
theorem dX0_takeNumber_58 : decode cX0_takeNumber 58 = .ok (.baload, 1) := by decide +kernel
theorem dX0_takeNumber_59 : decode cX0_takeNumber 59 = .ok (.iadd, 1) := by decide +kernel
theorem dX0_takeNumber_60 : decode cX0_takeNumber 60 = .ok (.bipush 48, 2) := by decide +kernel
theorem dX0_takeNumber_62 : decode cX0_takeNumber 62 = .ok (.isub, 1) := by decide +kernel
theorem dX0_takeNumber_63 : decode cX0_takeNumber 63 = .ok (.istore 4, 2) := by decide +kernel
theorem dX0_takeNumber_65 : decode cX0_takeNumber 65 = .ok (.aload_n 0, 1) := by decide +kernel
theorem dX0_takeNumber_66 : decode cX0_takeNumber 66 = .ok (.dup, 1) := by decide +kernel
theorem dX0_takeNumber_67 : decode cX0_takeNumber 67 = .ok (.getfield 19, 3) := by decide +kernel
theorem dX0_takeNumber_70 : decode cX0_takeNumber 70 = .ok (.iconst 1, 1) := by decide +kernel
theorem dX0_takeNumber_71 : decode cX0_takeNumber 71 = .ok (.iadd, 1) := by decide +kernel
theorem dX0_takeNumber_72 : decode cX0_takeNumber 72 = .ok (.putfield 19, 3) := by decide +kernel
theorem dX0_takeNumber_75 : decode cX0_takeNumber 75 = .ok (.goto (-62), 3) := by decide +kernel
theorem dX0_takeNumber_78 : decode cX0_takeNumber 78 = .ok (.aload_n 0, 1) := by decide +kernel
theorem dX0_takeNumber_79 : decode cX0_takeNumber 79 = .ok (.getfield 19, 3) := by decide +kernel
theorem dX0_takeNumber_82 : decode cX0_takeNumber 82 = .ok (.iload_n 3, 1) := by decide +kernel
theorem dX0_takeNumber_83 : decode cX0_takeNumber 83 = .ok (.if_icmp .ne 12, 3) := by decide +kernel
theorem dX0_takeNumber_86 : decode cX0_takeNumber 86 = .ok (.aload_n 0, 1) := by decide +kernel
theorem dX0_takeNumber_87 : decode cX0_takeNumber 87 = .ok (.iconst 0, 1) := by decide +kernel
theorem dX0_takeNumber_88 : decode cX0_takeNumber 88 = .ok (.iload_n 3, 1) := by decide +kernel
theorem dX0_takeNumber_89 : decode cX0_takeNumber 89 = .ok (.invokevirtual 57, 3) := by decide +kernel
theorem dX0_takeNumber_92 : decode cX0_takeNumber 92 = .ok (.goto 29, 3) := by decide +kernel
theorem dX0_takeNumber_95 : decode cX0_takeNumber 95 = .ok (.aload_n 0, 1) := by decide +kernel
theorem dX0_takeNumber_96 : decode cX0_takeNumber 96 = .ok (.getfield 19, 3) := by decide +kernel
theorem dX0_takeNumber_99 : decode cX0_takeNumber 99 = .ok (.iload_n 3, 1) := by decide +kernel
theorem dX0_takeNumber_100 : decode cX0_takeNumber 100 = .ok (.isub, 1) := by decide +kernel
theorem dX0_takeNumber_101 : decode cX0_takeNumber 101 = .ok (.iconst 5, 1) := by decide +kernel
theorem dX0_takeNumber_102 : decode cX0_takeNumber 102 = .ok (.if_icmp .gt 13, 3) := by decide +kernel
theorem dX0_takeNumber_105 : decode cX0_takeNumber 105 = .ok (.iload 4, 2) := by decide +kernel
theorem dX0_takeNumber_107 : decode cX0_takeNumber 107 = .ok (.iload_n 1, 1) := by decide +kernel
theorem dX0_takeNumber_108 : decode cX0_takeNumber 108 = .ok (.iload_n 2, 1) := by decide +kernel
theorem dX0_takeNumber_109 : decode cX0_takeNumber 109 = .ok (.invokestatic 61, 3) := by decide +kernel
theorem dX0_takeNumber_112 : decode cX0_takeNumber 112 = .ok (.ifCond .ne 9, 3) := by decide +kernel
theorem dX0_takeNumber_115 : decode cX0_takeNumber 115 = .ok (.aload_n 0, 1) := by decide +kernel
theorem dX0_takeNumber_116 : decode cX0_takeNumber 116 = .ok (.iconst 1, 1) := by decide +kernel
theorem dX0_takeNumber_117 : decode cX0_takeNumber 117 = .ok (.iload_n 3, 1) := by decide +kernel
theorem dX0_takeNumber_118 : decode cX0_takeNumber 118 = .ok (.invokevirtual 57, 3) := by decide +kernel
theorem dX0_takeNumber_121 : decode cX0_takeNumber 121 = .ok (.iload 4, 2) := by decide +kernel
theorem dX0_takeNumber_123 : decode cX0_takeNumber 123 = .ok (.ireturn, 1) := by decide +kernel
abbrev MCursor_takeNumber : rx_M := (RX0, yX0_takeNumber, cX0_takeNumber, 5, (some .int), 2)
theorem kCursor_takeNumber : rKv MCursor_takeNumber 2 := ⟨tb_in (i := 6) (j := 4) rfl rfl, tb_in (i := 6) (j := 5) rfl rfl, tb_in (i := 1) (j := 31) rfl rfl, tb_in (i := 2) (j := 14) rfl rfl, ⟨by decide, by decide, by decide +kernel⟩, by decide⟩
section
variable {a0 : Nat → Nat} {z0_text : Nat → Int32} {z0_size : Int32} {z0_at : Int32} {z0_fault : Int32}
def mCursor_takeNumber_j78 (x1 : Int32) (x2 : Int32) (x3 : Int32) (x4 : Int32) (z0_text : Nat → Int32) (z0_size : Int32) (z0_at : Int32) (z0_fault : Int32) : Option (Int32 × Int32 × Int32) := (if z0_at = x3 then (mCursor_fail (0 : Int32) x3 z0_fault).bind (fun q9 => some (x4, z0_at, q9)) else (if (5 : Int32) < (z0_at - x3) then (mCursor_fail (1 : Int32) x3 z0_fault).bind (fun q5 => some (x4, z0_at, q5)) else (mNextStall_within x4 x1 x2).bind (fun q6 => (if q6 = 0 then (mCursor_fail (1 : Int32) x3 z0_fault).bind (fun q8 => some (x4, z0_at, q8)) else some (x4, z0_at, z0_fault)))))
set_option maxHeartbeats 4000000 in
set_option maxRecDepth 20000 in
theorem cCursor_takeNumber_j78 {q : Int32 × Int32 × Int32} {x1 : Int32} {x2 : Int32} {x3 : Int32} {x4 : Int32}  (h : mCursor_takeNumber_j78 x1 x2 x3 x4 z0_text z0_size z0_at z0_fault = some q) : rW l D Z (ty7 K) MCursor_takeNumber 78 [(0, .ref (a0 0)), (1, .int x1), (2, .int x2), (3, .int x3), (4, .int x4)] [] (List.flatten [bCursor K a0 z0_text z0_size z0_at z0_fault]) (List.flatten [bCursor K a0 z0_text z0_size q.2.1 q.2.2]) (some (.int q.1)) := by
  unfold mCursor_takeNumber_j78 at h
  refine r_aload_n 0 dX0_takeNumber_78 rfl ?_
  refine gCursor_at 0 rfl (tb_in (i := 0) (j := 7) rfl rfl) dX0_takeNumber_79 ?_
  refine r_iload_n 3 dX0_takeNumber_82 rfl ?_
  refine r_icmp_ne 95 dX0_takeNumber_83 (by decide) (fun c3 => ?_) (fun c3 => ?_)
  · replace h := it_neg c3 h
    refine r_aload_n 0 dX0_takeNumber_95 rfl ?_
    refine gCursor_at 0 rfl (tb_in (i := 0) (j := 7) rfl rfl) dX0_takeNumber_96 ?_
    refine r_iload_n 3 dX0_takeNumber_99 rfl ?_
    refine r_isub dX0_takeNumber_100 ?_
    refine r_iconst (x := (5 : Int32)) dX0_takeNumber_101 (by decide) ?_
    refine r_icmp_gt 115 dX0_takeNumber_102 (by decide) (fun c4 => ?_) (fun c4 => ?_)
    · replace h := it_pos c4 h
      refine r_aload_n 0 dX0_takeNumber_115 rfl ?_
      refine r_iconst (x := (1 : Int32)) dX0_takeNumber_116 (by decide) ?_
      refine r_iload_n 3 dX0_takeNumber_117 rfl ?_
      obtain ⟨q5, h5, h⟩ := bd_some h
      refine b_callV (isC := [0]) (ci := 0)  (st := []) (bs1 := [bCursor K a0 z0_text z0_size z0_at q5]) (cCursor_fail (a0 := a0) (z0_text := z0_text) (z0_size := z0_size) (z0_at := z0_at) (z0_fault := z0_fault) h5) rfl rfl (Nat.le_of_ble_eq_true rfl) kCursor_fail (tb_in (i := 2) (j := 18) rfl rfl) (by decide) (by decide) rfl rfl rfl rfl rfl rfl rfl dX0_takeNumber_118 ?_
      refine r_iload 4 dX0_takeNumber_121 rfl ?_
      have hq := Option.some.inj h
      subst hq
      exact r_iret rfl dX0_takeNumber_123
    · replace h := it_neg c4 h
      refine r_iload 4 dX0_takeNumber_105 rfl ?_
      refine r_iload_n 1 dX0_takeNumber_107 rfl ?_
      refine r_iload_n 2 dX0_takeNumber_108 rfl ?_
      obtain ⟨q6, h6, h⟩ := bd_some h
      refine b_callSN (isC := []) (st := []) (bs1 := [bCursor K a0 z0_text z0_size z0_at z0_fault]) (cNextStall_within   h6) rfl rfl (Nat.le_of_ble_eq_true rfl) kNextStall_within (List.mem_of_getElem? (i := 19) rfl) (by decide) (by decide) rfl rfl rfl dX0_takeNumber_109 ?_
      refine r_if_ne 121 dX0_takeNumber_112 (by decide) (fun c7 => ?_) (fun c7 => ?_)
      · replace h := it_neg c7 h
        refine r_iload 4 dX0_takeNumber_121 rfl ?_
        have hq := Option.some.inj h
        subst hq
        exact r_iret rfl dX0_takeNumber_123
      · replace h := it_pos c7 h
        refine r_aload_n 0 dX0_takeNumber_115 rfl ?_
        refine r_iconst (x := (1 : Int32)) dX0_takeNumber_116 (by decide) ?_
        refine r_iload_n 3 dX0_takeNumber_117 rfl ?_
        obtain ⟨q8, h8, h⟩ := bd_some h
        refine b_callV (isC := [0]) (ci := 0)  (st := []) (bs1 := [bCursor K a0 z0_text z0_size z0_at q8]) (cCursor_fail (a0 := a0) (z0_text := z0_text) (z0_size := z0_size) (z0_at := z0_at) (z0_fault := z0_fault) h8) rfl rfl (Nat.le_of_ble_eq_true rfl) kCursor_fail (tb_in (i := 2) (j := 18) rfl rfl) (by decide) (by decide) rfl rfl rfl rfl rfl rfl rfl dX0_takeNumber_118 ?_
        refine r_iload 4 dX0_takeNumber_121 rfl ?_
        have hq := Option.some.inj h
        subst hq
        exact r_iret rfl dX0_takeNumber_123
  · replace h := it_pos c3 h
    refine r_aload_n 0 dX0_takeNumber_86 rfl ?_
    refine r_iconst (x := (0 : Int32)) dX0_takeNumber_87 (by decide) ?_
    refine r_iload_n 3 dX0_takeNumber_88 rfl ?_
    obtain ⟨q9, h9, h⟩ := bd_some h
    refine b_callV (isC := [0]) (ci := 0)  (st := []) (bs1 := [bCursor K a0 z0_text z0_size z0_at q9]) (cCursor_fail (a0 := a0) (z0_text := z0_text) (z0_size := z0_size) (z0_at := z0_at) (z0_fault := z0_fault) h9) rfl rfl (Nat.le_of_ble_eq_true rfl) kCursor_fail (tb_in (i := 2) (j := 18) rfl rfl) (by decide) (by decide) rfl rfl rfl rfl rfl rfl rfl dX0_takeNumber_89 ?_
    refine r_goto 121 dX0_takeNumber_92 (by decide) ?_
    refine r_iload 4 dX0_takeNumber_121 rfl ?_
    have hq := Option.some.inj h
    subst hq
    exact r_iret rfl dX0_takeNumber_123
def mCursor_takeNumber_l13 (z0_text : Nat → Int32) (z0_size : Int32) (z0_fault : Int32) (x1 : Int32) (x2 : Int32) (x3 : Int32) : Nat → Int32 → Int32 → Option (Int32 × Int32 × Int32)
  | 0, _, _ => none
  | n + 1, x4, z0_at => (if z0_size ≤ z0_at then mCursor_takeNumber_j78 x1 x2 x3 x4 z0_text z0_size z0_at z0_fault else (mCursor_isDigit z0_at z0_text z0_size).bind (fun q10 => (if q10 = 0 then mCursor_takeNumber_j78 x1 x2 x3 x4 z0_text z0_size z0_at z0_fault else (if (5 : Int32) ≤ (z0_at - x3) then lt (z0_at + (1 : Int32)) (fun y13 => mCursor_takeNumber_l13 z0_text z0_size z0_fault x1 x2 x3 n x4 y13) else rq (inb z0_at 400) (lt (((x4 * (10 : Int32)) + (z0_text z0_at.toNatClampNeg)) - (48 : Int32)) (fun y15 => lt (z0_at + (1 : Int32)) (fun y16 => mCursor_takeNumber_l13 z0_text z0_size z0_fault x1 x2 x3 n y15 y16)))))))
set_option maxHeartbeats 4000000 in
set_option maxRecDepth 20000 in
theorem cCursor_takeNumber_l13 {q : Int32 × Int32 × Int32} {x1 : Int32} {x2 : Int32} {x3 : Int32}  : ∀ (n : Nat) (x4 : Int32) (z0_at : Int32), mCursor_takeNumber_l13 z0_text z0_size z0_fault x1 x2 x3 n x4 z0_at = some q → rW l D Z (ty7 K) MCursor_takeNumber 13 [(0, .ref (a0 0)), (1, .int x1), (2, .int x2), (3, .int x3), (4, .int x4)] [] (List.flatten [bCursor K a0 z0_text z0_size z0_at z0_fault]) (List.flatten [bCursor K a0 z0_text z0_size q.2.1 q.2.2]) (some (.int q.1)) := by
  intro n
  induction n with
  | zero => intro x4 z0_at h; unfold mCursor_takeNumber_l13 at h; cases h
  | succ n ih =>
    intro x4 z0_at h
    unfold mCursor_takeNumber_l13 at h
    refine r_aload_n 0 dX0_takeNumber_13 rfl ?_
    refine gCursor_at 0 rfl (tb_in (i := 0) (j := 7) rfl rfl) dX0_takeNumber_14 ?_
    refine r_aload_n 0 dX0_takeNumber_17 rfl ?_
    refine gCursor_size 0 rfl (tb_in (i := 0) (j := 6) rfl rfl) dX0_takeNumber_18 ?_
    refine r_icmp_ge 78 dX0_takeNumber_21 (by decide) (fun c2 => ?_) (fun c2 => ?_)
    · replace h := it_pos c2 h
      exact cCursor_takeNumber_j78   h
    · replace h := it_neg c2 h
      refine r_aload_n 0 dX0_takeNumber_24 rfl ?_
      refine r_aload_n 0 dX0_takeNumber_25 rfl ?_
      refine gCursor_at 0 rfl (tb_in (i := 0) (j := 7) rfl rfl) dX0_takeNumber_26 ?_
      obtain ⟨q10, h10, h⟩ := bd_some h
      refine b_callV (isC := [0]) (ci := 0)  (st := []) (bs1 := [bCursor K a0 z0_text z0_size z0_at z0_fault]) (cCursor_isDigit (a0 := a0) (z0_text := z0_text) (z0_size := z0_size) (z0_at := z0_at) (z0_fault := z0_fault) h10) rfl rfl (Nat.le_of_ble_eq_true rfl) kCursor_isDigit (tb_in (i := 2) (j := 15) rfl rfl) (by decide) (by decide) rfl rfl rfl rfl rfl rfl rfl dX0_takeNumber_29 ?_
      refine r_if_eq 78 dX0_takeNumber_32 (by decide) (fun c11 => ?_) (fun c11 => ?_)
      · replace h := it_pos c11 h
        exact cCursor_takeNumber_j78   h
      · replace h := it_neg c11 h
        refine r_aload_n 0 dX0_takeNumber_35 rfl ?_
        refine gCursor_at 0 rfl (tb_in (i := 0) (j := 7) rfl rfl) dX0_takeNumber_36 ?_
        refine r_iload_n 3 dX0_takeNumber_39 rfl ?_
        refine r_isub dX0_takeNumber_40 ?_
        refine r_iconst (x := (5 : Int32)) dX0_takeNumber_41 (by decide) ?_
        refine r_icmp_ge 65 dX0_takeNumber_42 (by decide) (fun c12 => ?_) (fun c12 => ?_)
        · replace h := it_pos c12 h
          refine r_aload_n 0 dX0_takeNumber_65 rfl ?_
          refine r_dup dX0_takeNumber_66 rfl ?_
          refine gCursor_at 0 rfl (tb_in (i := 0) (j := 7) rfl rfl) dX0_takeNumber_67 ?_
          refine r_iconst (x := (1 : Int32)) dX0_takeNumber_70 (by decide) ?_
          refine r_iadd dX0_takeNumber_71 ?_
          obtain ⟨y13, e13, h⟩ := lt_some h
          refine r_top e13 ?_
          refine pCursor_at (bs1 := [bCursor K a0 z0_text z0_size y13 z0_fault]) 0 rfl rfl (tb_in (i := 0) (j := 7) rfl rfl) dX0_takeNumber_72 ?_
          refine r_goto 13 dX0_takeNumber_75 (by decide) ?_
          exact ih x4 y13 h
        · replace h := it_neg c12 h
          refine r_iload 4 dX0_takeNumber_45 rfl ?_
          refine r_bipush (x := (10 : Int32)) dX0_takeNumber_47 (by decide) ?_
          refine r_imul dX0_takeNumber_49 ?_
          refine r_aload_n 0 dX0_takeNumber_50 rfl ?_
          refine gCursor_text 0 rfl (tb_in (i := 0) (j := 5) rfl rfl) dX0_takeNumber_51 ?_
          refine r_aload_n 0 dX0_takeNumber_54 rfl ?_
          refine gCursor_at 0 rfl (tb_in (i := 0) (j := 7) rfl rfl) dX0_takeNumber_55 ?_
          obtain ⟨h14, h⟩ := rq_some h
          refine lCursor_text 0 rfl (inb_in h14) dX0_takeNumber_58 ?_
          refine r_iadd dX0_takeNumber_59 ?_
          refine r_bipush (x := (48 : Int32)) dX0_takeNumber_60 (by decide) ?_
          refine r_isub dX0_takeNumber_62 ?_
          obtain ⟨y15, e15, h⟩ := lt_some h
          refine r_top e15 ?_
          refine r_istore (lv' := [(4, .int y15), (0, .ref (a0 0)), (1, .int x1), (2, .int x2), (3, .int x3)]) dX0_takeNumber_63 (Nat.le_of_ble_eq_true rfl) rfl ?_
          refine r_aload_n 1 dX0_takeNumber_65 rfl ?_
          refine r_dup dX0_takeNumber_66 rfl ?_
          refine gCursor_at 0 rfl (tb_in (i := 0) (j := 7) rfl rfl) dX0_takeNumber_67 ?_
          refine r_iconst (x := (1 : Int32)) dX0_takeNumber_70 (by decide) ?_
          refine r_iadd dX0_takeNumber_71 ?_
          obtain ⟨y16, e16, h⟩ := lt_some h
          refine r_top e16 ?_
          refine pCursor_at (bs1 := [bCursor K a0 z0_text z0_size y16 z0_fault]) 0 rfl rfl (tb_in (i := 0) (j := 7) rfl rfl) dX0_takeNumber_72 ?_
          refine r_goto 13 dX0_takeNumber_75 (by decide) ?_
          refine r_sub (lv' := [(0, .ref (a0 0)), (1, .int x1), (2, .int x2), (3, .int x3), (4, .int y15)]) [1, 2, 3, 4, 0] rfl ?_
          exact ih y15 y16 h
def mCursor_takeNumber (x1 : Int32) (x2 : Int32) (z0_text : Nat → Int32) (z0_size : Int32) (z0_at : Int32) (z0_fault : Int32) : Option (Int32 × Int32 × Int32) := (mCursor_peek z0_text z0_size z0_at).bind (fun q1 => mCursor_takeNumber_l13 z0_text z0_size z0_fault x1 x2 q1.2 FU (0 : Int32) q1.2)
set_option maxHeartbeats 4000000 in
set_option maxRecDepth 20000 in
theorem cCursor_takeNumber {q : Int32 × Int32 × Int32} {x1 : Int32} {x2 : Int32} (h : mCursor_takeNumber x1 x2 z0_text z0_size z0_at z0_fault = some q) : rMet l D Z (ty7 K) MCursor_takeNumber [.ref (a0 0), .int x1, .int x2] (List.flatten [bCursor K a0 z0_text z0_size z0_at z0_fault]) (List.flatten [bCursor K a0 z0_text z0_size q.2.1 q.2.2]) (some (.int q.1)) := by
  refine rMet.of (by decide) rfl (Nat.le_of_ble_eq_true rfl) ?_
  refine r_sub (lv' := [(0, .ref (a0 0)), (1, .int x1), (2, .int x2)]) [0, 1, 2] rfl ?_
  unfold mCursor_takeNumber at h
  refine r_aload_n 0 dX0_takeNumber_0 rfl ?_
  obtain ⟨q1, h1, h⟩ := bd_some h
  refine b_callV (isC := [0]) (ci := 0)  (st := []) (bs1 := [bCursor K a0 z0_text z0_size q1.2 z0_fault]) (cCursor_peek (a0 := a0) (z0_text := z0_text) (z0_size := z0_size) (z0_at := z0_at) (z0_fault := z0_fault) h1) rfl rfl (Nat.le_of_ble_eq_true rfl) kCursor_peek (tb_in (i := 1) (j := 28) rfl rfl) (by decide) (by decide) rfl rfl rfl rfl rfl rfl rfl dX0_takeNumber_1 ?_
  refine r_pop dX0_takeNumber_4 rfl ?_
  refine r_aload_n 0 dX0_takeNumber_5 rfl ?_
  refine gCursor_at 0 rfl (tb_in (i := 0) (j := 7) rfl rfl) dX0_takeNumber_6 ?_
  refine r_istore_n (lv' := [(3, .int q1.2), (0, .ref (a0 0)), (1, .int x1), (2, .int x2)]) dX0_takeNumber_9 (Nat.le_of_ble_eq_true rfl) rfl ?_
  refine r_iconst (x := (0 : Int32)) dX0_takeNumber_10 (by decide) ?_
  refine r_istore (lv' := [(4, .int (0 : Int32)), (3, .int q1.2), (0, .ref (a0 0)), (1, .int x1), (2, .int x2)]) dX0_takeNumber_11 (Nat.le_of_ble_eq_true rfl) rfl ?_
  refine r_sub (lv' := [(0, .ref (a0 0)), (1, .int x1), (2, .int x2), (3, .int q1.2), (4, .int (0 : Int32))]) [2, 3, 4, 1, 0] rfl ?_
  exact cCursor_takeNumber_l13   FU (0 : Int32) q1.2 h
end
theorem dX0_takeNextClause_0 : decode cX0_takeNextClause 0 = .ok (.aload_n 0, 1) := by decide +kernel
theorem dX0_takeNextClause_1 : decode cX0_takeNextClause 1 = .ok (.ldc 65, 2) := by decide +kernel
theorem dX0_takeNextClause_3 : decode cX0_takeNextClause 3 = .ok (.invokevirtual 67, 3) := by decide +kernel
theorem dX0_takeNextClause_6 : decode cX0_takeNextClause 6 = .ok (.iconst (-1), 1) := by decide +kernel
theorem dX0_takeNextClause_7 : decode cX0_takeNextClause 7 = .ok (.if_icmp .eq 5, 3) := by decide +kernel
theorem dX0_takeNextClause_10 : decode cX0_takeNextClause 10 = .ok (.iconst 1, 1) := by decide +kernel
theorem dX0_takeNextClause_11 : decode cX0_takeNextClause 11 = .ok (.ireturn, 1) := by decide +kernel
theorem dX0_takeNextClause_12 : decode cX0_takeNextClause 12 = .ok (.aload_n 0, 1) := by decide +kernel
theorem dX0_takeNextClause_13 : decode cX0_takeNextClause 13 = .ok (.invokevirtual 37, 3) := by decide +kernel
theorem dX0_takeNextClause_16 : decode cX0_takeNextClause 16 = .ok (.iconst (-1), 1) := by decide +kernel
theorem dX0_takeNextClause_17 : decode cX0_takeNextClause 17 = .ok (.if_icmp .eq 12, 3) := by decide +kernel
theorem dX0_takeNextClause_20 : decode cX0_takeNextClause 20 = .ok (.aload_n 0, 1) := by decide +kernel
theorem dX0_takeNextClause_21 : decode cX0_takeNextClause 21 = .ok (.iconst 0, 1) := by decide +kernel
theorem dX0_takeNextClause_22 : decode cX0_takeNextClause 22 = .ok (.aload_n 0, 1) := by decide +kernel
theorem dX0_takeNextClause_23 : decode cX0_takeNextClause 23 = .ok (.getfield 19, 3) := by decide +kernel
theorem dX0_takeNextClause_26 : decode cX0_takeNextClause 26 = .ok (.invokevirtual 57, 3) := by decide +kernel
theorem dX0_takeNextClause_29 : decode cX0_takeNextClause 29 = .ok (.iconst 0, 1) := by decide +kernel
theorem dX0_takeNextClause_30 : decode cX0_takeNextClause 30 = .ok (.ireturn, 1) := by decide +kernel
abbrev MCursor_takeNextClause : rx_M := (RX0, yX0_takeNextClause, cX0_takeNextClause, 1, (some .boolean), 8)
theorem kCursor_takeNextClause : rKv MCursor_takeNextClause 0 := ⟨tb_in (i := 7) (j := 1) rfl rfl, tb_in (i := 7) (j := 2) rfl rfl, tb_in (i := 1) (j := 31) rfl rfl, tb_in (i := 2) (j := 26) rfl rfl, ⟨by decide, by decide, by decide +kernel⟩, by decide⟩
section
variable {a0 : Nat → Nat} {z0_text : Nat → Int32} {z0_size : Int32} {z0_at : Int32} {z0_fault : Int32}
def mCursor_takeNextClause (z0_text : Nat → Int32) (z0_size : Int32) (z0_at : Int32) (z0_fault : Int32) : Option (Int32 × Int32 × Int32) := (mCursor_takeSign 1 z0_text z0_size z0_at).bind (fun q1 => (if q1.1 = (-1 : Int32) then (mCursor_peek z0_text z0_size q1.2).bind (fun q3 => (if q3.1 = (-1 : Int32) then some ((0 : Int32), q3.2, z0_fault) else (mCursor_fail (0 : Int32) q3.2 z0_fault).bind (fun q5 => some ((0 : Int32), q3.2, q5)))) else some ((1 : Int32), q1.2, z0_fault)))
set_option maxHeartbeats 4000000 in
set_option maxRecDepth 20000 in
theorem cCursor_takeNextClause {q : Int32 × Int32 × Int32}  (h : mCursor_takeNextClause z0_text z0_size z0_at z0_fault = some q) : rMet l D Z (ty7 K) MCursor_takeNextClause [.ref (a0 0)] (List.flatten [bCursor K a0 z0_text z0_size z0_at z0_fault]) (List.flatten [bCursor K a0 z0_text z0_size q.2.1 q.2.2]) (some (.int q.1)) := by
  refine rMet.of (by decide) rfl (Nat.le_of_ble_eq_true rfl) ?_
  refine r_sub (lv' := [(0, .ref (a0 0))]) [0] rfl ?_
  unfold mCursor_takeNextClause at h
  refine r_aload_n 0 dX0_takeNextClause_0 rfl ?_
  refine r_ldcS (tx := ";") (i := 1) (List.mem_of_getElem? (i := 1) rfl) dX0_takeNextClause_1 ?_
  obtain ⟨q1, h1, h⟩ := bd_some h
  refine b_callV (isC := [0]) (ci := 0)  (st := []) (bs1 := [bCursor K a0 z0_text z0_size q1.2 z0_fault]) (cCursor_takeSign (a0 := a0) (z0_text := z0_text) (z0_size := z0_size) (z0_at := z0_at) (z0_fault := z0_fault) h1) rfl rfl (Nat.le_of_ble_eq_true rfl) kCursor_takeSign (tb_in (i := 2) (j := 23) rfl rfl) (by decide) (by decide) rfl rfl rfl rfl rfl rfl rfl dX0_takeNextClause_3 ?_
  refine r_iconst (x := (-1 : Int32)) dX0_takeNextClause_6 (by decide) ?_
  refine r_icmp_eq 12 dX0_takeNextClause_7 (by decide) (fun c2 => ?_) (fun c2 => ?_)
  · replace h := it_pos c2 h
    refine r_aload_n 0 dX0_takeNextClause_12 rfl ?_
    obtain ⟨q3, h3, h⟩ := bd_some h
    refine b_callV (isC := [0]) (ci := 0)  (st := []) (bs1 := [bCursor K a0 z0_text z0_size q3.2 z0_fault]) (cCursor_peek (a0 := a0) (z0_text := z0_text) (z0_size := z0_size) (z0_at := q1.2) (z0_fault := z0_fault) h3) rfl rfl (Nat.le_of_ble_eq_true rfl) kCursor_peek (tb_in (i := 1) (j := 28) rfl rfl) (by decide) (by decide) rfl rfl rfl rfl rfl rfl rfl dX0_takeNextClause_13 ?_
    refine r_iconst (x := (-1 : Int32)) dX0_takeNextClause_16 (by decide) ?_
    refine r_icmp_eq 29 dX0_takeNextClause_17 (by decide) (fun c4 => ?_) (fun c4 => ?_)
    · replace h := it_pos c4 h
      refine r_iconst (x := (0 : Int32)) dX0_takeNextClause_29 (by decide) ?_
      have hq := Option.some.inj h
      subst hq
      exact r_zret (ty := .boolean) rfl rfl dX0_takeNextClause_30
    · replace h := it_neg c4 h
      refine r_aload_n 0 dX0_takeNextClause_20 rfl ?_
      refine r_iconst (x := (0 : Int32)) dX0_takeNextClause_21 (by decide) ?_
      refine r_aload_n 0 dX0_takeNextClause_22 rfl ?_
      refine gCursor_at 0 rfl (tb_in (i := 0) (j := 7) rfl rfl) dX0_takeNextClause_23 ?_
      obtain ⟨q5, h5, h⟩ := bd_some h
      refine b_callV (isC := [0]) (ci := 0)  (st := []) (bs1 := [bCursor K a0 z0_text z0_size q3.2 q5]) (cCursor_fail (a0 := a0) (z0_text := z0_text) (z0_size := z0_size) (z0_at := q3.2) (z0_fault := z0_fault) h5) rfl rfl (Nat.le_of_ble_eq_true rfl) kCursor_fail (tb_in (i := 2) (j := 18) rfl rfl) (by decide) (by decide) rfl rfl rfl rfl rfl rfl rfl dX0_takeNextClause_26 ?_
      refine r_iconst (x := (0 : Int32)) dX0_takeNextClause_29 (by decide) ?_
      have hq := Option.some.inj h
      subst hq
      exact r_zret (ty := .boolean) rfl rfl dX0_takeNextClause_30
  · replace h := it_neg c2 h
    refine r_iconst (x := (1 : Int32)) dX0_takeNextClause_10 (by decide) ?_
    have hq := Option.some.inj h
    subst hq
    exact r_zret (ty := .boolean) rfl rfl dX0_takeNextClause_11
end
theorem dX2_mayStand_0 : decode cX2_mayStand 0 = .ok (.iload_n 2, 1) := by decide +kernel
theorem dX2_mayStand_1 : decode cX2_mayStand 1 = .ok (.bipush 40, 2) := by decide +kernel
theorem dX2_mayStand_3 : decode cX2_mayStand 3 = .ok (.if_icmp .ge 24, 3) := by decide +kernel
theorem dX2_mayStand_6 : decode cX2_mayStand 6 = .ok (.iload_n 2, 1) := by decide +kernel
theorem dX2_mayStand_7 : decode cX2_mayStand 7 = .ok (.ifCond .ne 7, 3) := by decide +kernel
theorem dX2_mayStand_10 : decode cX2_mayStand 10 = .ok (.iconst 1, 1) := by decide +kernel
theorem dX2_mayStand_11 : decode cX2_mayStand 11 = .ok (.goto 4, 3) := by decide +kernel
theorem dX2_mayStand_14 : decode cX2_mayStand 14 = .ok (.iconst 0, 1) := by decide +kernel
theorem dX2_mayStand_15 : decode cX2_mayStand 15 = .ok (.iload_n 1, 1) := by decide +kernel
theorem dX2_mayStand_16 : decode cX2_mayStand 16 = .ok (.ifCond .ne 7, 3) := by decide +kernel
theorem dX2_mayStand_19 : decode cX2_mayStand 19 = .ok (.iconst 1, 1) := by decide +kernel
theorem dX2_mayStand_20 : decode cX2_mayStand 20 = .ok (.goto 4, 3) := by decide +kernel
theorem dX2_mayStand_23 : decode cX2_mayStand 23 = .ok (.iconst 0, 1) := by decide +kernel
theorem dX2_mayStand_24 : decode cX2_mayStand 24 = .ok (.if_icmp .eq 5, 3) := by decide +kernel
theorem dX2_mayStand_27 : decode cX2_mayStand 27 = .ok (.iconst 0, 1) := by decide +kernel
theorem dX2_mayStand_28 : decode cX2_mayStand 28 = .ok (.ireturn, 1) := by decide +kernel
theorem dX2_mayStand_29 : decode cX2_mayStand 29 = .ok (.iload_n 1, 1) := by decide +kernel
theorem dX2_mayStand_30 : decode cX2_mayStand 30 = .ok (.iconst 1, 1) := by decide +kernel
theorem dX2_mayStand_31 : decode cX2_mayStand 31 = .ok (.if_icmp .ne 18, 3) := by decide +kernel
theorem dX2_mayStand_34 : decode cX2_mayStand 34 = .ok (.aload_n 0, 1) := by decide +kernel
theorem dX2_mayStand_35 : decode cX2_mayStand 35 = .ok (.getfield 74, 3) := by decide +kernel
theorem dX2_mayStand_38 : decode cX2_mayStand 38 = .ok (.bipush 6, 2) := by decide +kernel
theorem dX2_mayStand_40 : decode cX2_mayStand 40 = .ok (.if_icmp .ge 7, 3) := by decide +kernel
theorem dX2_mayStand_43 : decode cX2_mayStand 43 = .ok (.iconst 1, 1) := by decide +kernel
theorem dX2_mayStand_44 : decode cX2_mayStand 44 = .ok (.goto 4, 3) := by decide +kernel
theorem dX2_mayStand_47 : decode cX2_mayStand 47 = .ok (.iconst 0, 1) := by decide +kernel
theorem dX2_mayStand_48 : decode cX2_mayStand 48 = .ok (.ireturn, 1) := by decide +kernel
theorem dX2_mayStand_49 : decode cX2_mayStand 49 = .ok (.iload_n 1, 1) := by decide +kernel
theorem dX2_mayStand_50 : decode cX2_mayStand 50 = .ok (.ifCond .eq 17, 3) := by decide +kernel
theorem dX2_mayStand_53 : decode cX2_mayStand 53 = .ok (.iload_n 1, 1) := by decide +kernel
theorem dX2_mayStand_54 : decode cX2_mayStand 54 = .ok (.iconst 2, 1) := by decide +kernel
theorem dX2_mayStand_55 : decode cX2_mayStand 55 = .ok (.if_icmp .eq 12, 3) := by decide +kernel
theorem dX2_mayStand_58 : decode cX2_mayStand 58 = .ok (.aload_n 0, 1) := by decide +kernel
theorem dX2_mayStand_59 : decode cX2_mayStand 59 = .ok (.getfield 77, 3) := by decide +kernel
theorem dX2_mayStand_62 : decode cX2_mayStand 62 = .ok (.bipush 6, 2) := by decide +kernel
theorem dX2_mayStand_64 : decode cX2_mayStand 64 = .ok (.if_icmp .ge 7, 3) := by decide +kernel
theorem dX2_mayStand_67 : decode cX2_mayStand 67 = .ok (.iconst 1, 1) := by decide +kernel
theorem dX2_mayStand_68 : decode cX2_mayStand 68 = .ok (.goto 4, 3) := by decide +kernel
theorem dX2_mayStand_71 : decode cX2_mayStand 71 = .ok (.iconst 0, 1) := by decide +kernel
theorem dX2_mayStand_72 : decode cX2_mayStand 72 = .ok (.ireturn, 1) := by decide +kernel
abbrev MFairReader_mayStand : rx_M := (RX2, yX2_mayStand, cX2_mayStand, 3, (some .boolean), 1)
theorem kFairReader_mayStand : rKs MFairReader_mayStand 3 := ⟨tb_in (i := 6) (j := 20) rfl rfl, tb_in (i := 6) (j := 21) rfl rfl, tb_in (i := 6) (j := 3) rfl rfl, ⟨by decide, by decide, by decide +kernel⟩, by decide⟩
section
variable {a0 : Nat → Nat} {z0_lasts : Int32} {z0_keeps : Int32} {z0_stalls : Int32} {z0_buyers : Int32} {z0_minute : Int32} {z0_goods : Nat → Int32} {z0_price : Nat → Int32} {z0_tongue : Nat → Int32} {z0_till : Nat → Int32} {z0_wealth : Nat → Int32} {z0_sold : Nat → Int32} {z0_ring : Nat → Int32} {z0_grudges : Nat → Int32} {z0_purse : Nat → Int32} {z0_came : Nat → Int32} {z0_had : Nat → Int32} {z0_seller : Nat → Int32} {z0_praise : Nat → Int32} {z0_borne : Nat → Int32}
def mFairReader_mayStand_j24 (x1 : Int32) (z0_stalls : Int32) (z0_buyers : Int32) (s0 : Int32) (s1 : Int32) : Option (Int32) := (if s0 = s1 then (if x1 = (1 : Int32) then (if (6 : Int32) ≤ z0_stalls then some ((0 : Int32)) else some ((1 : Int32))) else (if x1 = 0 then some ((1 : Int32)) else (if x1 = (2 : Int32) then some ((1 : Int32)) else (if (6 : Int32) ≤ z0_buyers then some ((0 : Int32)) else some ((1 : Int32)))))) else some ((0 : Int32)))
set_option maxHeartbeats 4000000 in
set_option maxRecDepth 20000 in
theorem cFairReader_mayStand_j24 {q : Int32} {x1 : Int32} {s0 : Int32} {s1 : Int32}  (h : mFairReader_mayStand_j24 x1 z0_stalls z0_buyers s0 s1 = some q) : rW l D Z (ty7 K) MFairReader_mayStand 24 [(0, .ref (a0 0)), (1, .int x1)] [.int s1, .int s0] (List.flatten [bFair K a0 z0_lasts z0_keeps z0_stalls z0_buyers z0_minute z0_goods z0_price z0_tongue z0_till z0_wealth z0_sold z0_ring z0_grudges z0_purse z0_came z0_had z0_seller z0_praise z0_borne]) (List.flatten [bFair K a0 z0_lasts z0_keeps z0_stalls z0_buyers z0_minute z0_goods z0_price z0_tongue z0_till z0_wealth z0_sold z0_ring z0_grudges z0_purse z0_came z0_had z0_seller z0_praise z0_borne]) (some (.int q)) := by
  unfold mFairReader_mayStand_j24 at h
  refine r_icmp_eq 29 dX2_mayStand_24 (by decide) (fun c4 => ?_) (fun c4 => ?_)
  · replace h := it_pos c4 h
    refine r_iload_n 1 dX2_mayStand_29 rfl ?_
    refine r_iconst (x := (1 : Int32)) dX2_mayStand_30 (by decide) ?_
    refine r_icmp_ne 49 dX2_mayStand_31 (by decide) (fun c5 => ?_) (fun c5 => ?_)
    · replace h := it_neg c5 h
      refine r_iload_n 1 dX2_mayStand_49 rfl ?_
      refine r_if_eq 67 dX2_mayStand_50 (by decide) (fun c6 => ?_) (fun c6 => ?_)
      · replace h := it_pos c6 h
        refine r_iconst (x := (1 : Int32)) dX2_mayStand_67 (by decide) ?_
        refine r_goto 72 dX2_mayStand_68 (by decide) ?_
        have hq := Option.some.inj h
        subst hq
        exact r_zret (ty := .boolean) rfl rfl dX2_mayStand_72
      · replace h := it_neg c6 h
        refine r_iload_n 1 dX2_mayStand_53 rfl ?_
        refine r_iconst (x := (2 : Int32)) dX2_mayStand_54 (by decide) ?_
        refine r_icmp_eq 67 dX2_mayStand_55 (by decide) (fun c7 => ?_) (fun c7 => ?_)
        · replace h := it_pos c7 h
          refine r_iconst (x := (1 : Int32)) dX2_mayStand_67 (by decide) ?_
          refine r_goto 72 dX2_mayStand_68 (by decide) ?_
          have hq := Option.some.inj h
          subst hq
          exact r_zret (ty := .boolean) rfl rfl dX2_mayStand_72
        · replace h := it_neg c7 h
          refine r_aload_n 0 dX2_mayStand_58 rfl ?_
          refine gFair_buyersN 0 rfl (List.mem_of_getElem? (i := 17) rfl) dX2_mayStand_59 ?_
          refine r_bipush (x := (6 : Int32)) dX2_mayStand_62 (by decide) ?_
          refine r_icmp_ge 71 dX2_mayStand_64 (by decide) (fun c8 => ?_) (fun c8 => ?_)
          · replace h := it_pos c8 h
            refine r_iconst (x := (0 : Int32)) dX2_mayStand_71 (by decide) ?_
            have hq := Option.some.inj h
            subst hq
            exact r_zret (ty := .boolean) rfl rfl dX2_mayStand_72
          · replace h := it_neg c8 h
            refine r_iconst (x := (1 : Int32)) dX2_mayStand_67 (by decide) ?_
            refine r_goto 72 dX2_mayStand_68 (by decide) ?_
            have hq := Option.some.inj h
            subst hq
            exact r_zret (ty := .boolean) rfl rfl dX2_mayStand_72
    · replace h := it_pos c5 h
      refine r_aload_n 0 dX2_mayStand_34 rfl ?_
      refine gFair_stallsN 0 rfl (List.mem_of_getElem? (i := 14) rfl) dX2_mayStand_35 ?_
      refine r_bipush (x := (6 : Int32)) dX2_mayStand_38 (by decide) ?_
      refine r_icmp_ge 47 dX2_mayStand_40 (by decide) (fun c9 => ?_) (fun c9 => ?_)
      · replace h := it_pos c9 h
        refine r_iconst (x := (0 : Int32)) dX2_mayStand_47 (by decide) ?_
        have hq := Option.some.inj h
        subst hq
        exact r_zret (ty := .boolean) rfl rfl dX2_mayStand_48
      · replace h := it_neg c9 h
        refine r_iconst (x := (1 : Int32)) dX2_mayStand_43 (by decide) ?_
        refine r_goto 48 dX2_mayStand_44 (by decide) ?_
        have hq := Option.some.inj h
        subst hq
        exact r_zret (ty := .boolean) rfl rfl dX2_mayStand_48
  · replace h := it_neg c4 h
    refine r_iconst (x := (0 : Int32)) dX2_mayStand_27 (by decide) ?_
    have hq := Option.some.inj h
    subst hq
    exact r_zret (ty := .boolean) rfl rfl dX2_mayStand_28
def mFairReader_mayStand_j15 (x1 : Int32) (z0_stalls : Int32) (z0_buyers : Int32) (s0 : Int32) : Option (Int32) := (if x1 = 0 then mFairReader_mayStand_j24 x1 z0_stalls z0_buyers s0 (1 : Int32) else mFairReader_mayStand_j24 x1 z0_stalls z0_buyers s0 (0 : Int32))
set_option maxHeartbeats 4000000 in
set_option maxRecDepth 20000 in
theorem cFairReader_mayStand_j15 {q : Int32} {x1 : Int32} {s0 : Int32}  (h : mFairReader_mayStand_j15 x1 z0_stalls z0_buyers s0 = some q) : rW l D Z (ty7 K) MFairReader_mayStand 15 [(0, .ref (a0 0)), (1, .int x1)] [.int s0] (List.flatten [bFair K a0 z0_lasts z0_keeps z0_stalls z0_buyers z0_minute z0_goods z0_price z0_tongue z0_till z0_wealth z0_sold z0_ring z0_grudges z0_purse z0_came z0_had z0_seller z0_praise z0_borne]) (List.flatten [bFair K a0 z0_lasts z0_keeps z0_stalls z0_buyers z0_minute z0_goods z0_price z0_tongue z0_till z0_wealth z0_sold z0_ring z0_grudges z0_purse z0_came z0_had z0_seller z0_praise z0_borne]) (some (.int q)) := by
  unfold mFairReader_mayStand_j15 at h
  refine r_iload_n 1 dX2_mayStand_15 rfl ?_
  refine r_if_ne 23 dX2_mayStand_16 (by decide) (fun c3 => ?_) (fun c3 => ?_)
  · replace h := it_neg c3 h
    refine r_iconst (x := (0 : Int32)) dX2_mayStand_23 (by decide) ?_
    exact cFairReader_mayStand_j24   h
  · replace h := it_pos c3 h
    refine r_iconst (x := (1 : Int32)) dX2_mayStand_19 (by decide) ?_
    refine r_goto 24 dX2_mayStand_20 (by decide) ?_
    exact cFairReader_mayStand_j24   h
def mFairReader_mayStand (x1 : Int32) (x2 : Int32) (z0_stalls : Int32) (z0_buyers : Int32) : Option (Int32) := (if (40 : Int32) ≤ x2 then some ((0 : Int32)) else (if x2 = 0 then mFairReader_mayStand_j15 x1 z0_stalls z0_buyers (1 : Int32) else mFairReader_mayStand_j15 x1 z0_stalls z0_buyers (0 : Int32)))
set_option maxHeartbeats 4000000 in
set_option maxRecDepth 20000 in
theorem cFairReader_mayStand {q : Int32} {x1 : Int32} {x2 : Int32} (h : mFairReader_mayStand x1 x2 z0_stalls z0_buyers = some q) : rMet l D Z (ty7 K) MFairReader_mayStand [.ref (a0 0), .int x1, .int x2] (List.flatten [bFair K a0 z0_lasts z0_keeps z0_stalls z0_buyers z0_minute z0_goods z0_price z0_tongue z0_till z0_wealth z0_sold z0_ring z0_grudges z0_purse z0_came z0_had z0_seller z0_praise z0_borne]) (List.flatten [bFair K a0 z0_lasts z0_keeps z0_stalls z0_buyers z0_minute z0_goods z0_price z0_tongue z0_till z0_wealth z0_sold z0_ring z0_grudges z0_purse z0_came z0_had z0_seller z0_praise z0_borne]) (some (.int q)) := by
  refine rMet.of (by decide) rfl (Nat.le_of_ble_eq_true rfl) ?_
  refine r_sub (lv' := [(0, .ref (a0 0)), (1, .int x1), (2, .int x2)]) [0, 1, 2] rfl ?_
  unfold mFairReader_mayStand at h
  refine r_iload_n 2 dX2_mayStand_0 rfl ?_
  refine r_bipush (x := (40 : Int32)) dX2_mayStand_1 (by decide) ?_
  refine r_icmp_ge 27 dX2_mayStand_3 (by decide) (fun c1 => ?_) (fun c1 => ?_)
  · replace h := it_pos c1 h
    refine r_iconst (x := (0 : Int32)) dX2_mayStand_27 (by decide) ?_
    have hq := Option.some.inj h
    subst hq
    exact r_zret (ty := .boolean) rfl rfl dX2_mayStand_28
  · replace h := it_neg c1 h
    refine r_iload_n 2 dX2_mayStand_6 rfl ?_
    refine r_if_ne 14 dX2_mayStand_7 (by decide) (fun c2 => ?_) (fun c2 => ?_)
    · replace h := it_neg c2 h
      refine r_iconst (x := (0 : Int32)) dX2_mayStand_14 (by decide) ?_
      refine r_sub (lv' := [(0, .ref (a0 0)), (1, .int x1)]) [0, 1] rfl ?_
      exact cFairReader_mayStand_j15   h
    · replace h := it_pos c2 h
      refine r_iconst (x := (1 : Int32)) dX2_mayStand_10 (by decide) ?_
      refine r_goto 15 dX2_mayStand_11 (by decide) ?_
      refine r_sub (lv' := [(0, .ref (a0 0)), (1, .int x1)]) [0, 1] rfl ?_
      exact cFairReader_mayStand_j15   h
end
theorem dX2_readBuyer_0 : decode cX2_readBuyer 0 = .ok (.aload_n 0, 1) := by decide +kernel
theorem dX2_readBuyer_1 : decode cX2_readBuyer 1 = .ok (.iconst 0, 1) := by decide +kernel
theorem dX2_readBuyer_2 : decode cX2_readBuyer 2 = .ok (.bipush 99, 2) := by decide +kernel
theorem dX2_readBuyer_4 : decode cX2_readBuyer 4 = .ok (.invokevirtual 54, 3) := by decide +kernel
theorem dX2_readBuyer_7 : decode cX2_readBuyer 7 = .ok (.istore_n 2, 1) := by decide +kernel
theorem dX2_readBuyer_8 : decode cX2_readBuyer 8 = .ok (.aload_n 0, 1) := by decide +kernel
theorem dX2_readBuyer_9 : decode cX2_readBuyer 9 = .ok (.iconst 0, 1) := by decide +kernel
theorem dX2_readBuyer_10 : decode cX2_readBuyer 10 = .ok (.aload_n 1, 1) := by decide +kernel
theorem dX2_readBuyer_11 : decode cX2_readBuyer 11 = .ok (.getfield 74, 3) := by decide +kernel
theorem dX2_readBuyer_14 : decode cX2_readBuyer 14 = .ok (.iconst 1, 1) := by decide +kernel
theorem dX2_readBuyer_15 : decode cX2_readBuyer 15 = .ok (.isub, 1) := by decide +kernel
theorem dX2_readBuyer_16 : decode cX2_readBuyer 16 = .ok (.invokevirtual 54, 3) := by decide +kernel
theorem dX2_readBuyer_19 : decode cX2_readBuyer 19 = .ok (.istore_n 3, 1) := by decide +kernel
theorem dX2_readBuyer_20 : decode cX2_readBuyer 20 = .ok (.aload_n 0, 1) := by decide +kernel
theorem dX2_readBuyer_21 : decode cX2_readBuyer 21 = .ok (.invokevirtual 20, 3) := by decide +kernel
theorem dX2_readBuyer_24 : decode cX2_readBuyer 24 = .ok (.ifCond .eq 9, 3) := by decide +kernel
theorem dX2_readBuyer_27 : decode cX2_readBuyer 27 = .ok (.aload_n 1, 1) := by decide +kernel
theorem dX2_readBuyer_28 : decode cX2_readBuyer 28 = .ok (.iload_n 2, 1) := by decide +kernel
theorem dX2_readBuyer_29 : decode cX2_readBuyer 29 = .ok (.iload_n 3, 1) := by decide +kernel
theorem dX2_readBuyer_30 : decode cX2_readBuyer 30 = .ok (.invokevirtual 91, 3) := by decide +kernel
theorem dX2_readBuyer_33 : decode cX2_readBuyer 33 = .ok (.return_, 1) := by decide +kernel
abbrev MFairReader_readBuyer : rx_M := (RX2, yX2_readBuyer, cX2_readBuyer, 4, none, 3)
theorem kFairReader_readBuyer : rKs MFairReader_readBuyer 2 := ⟨tb_in (i := 6) (j := 27) rfl rfl, tb_in (i := 6) (j := 21) rfl rfl, tb_in (i := 6) (j := 16) rfl rfl, ⟨by decide, by decide, by decide +kernel⟩, by decide⟩
section
variable {a0 : Nat → Nat} {a1 : Nat → Nat} {z0_text : Nat → Int32} {z0_size : Int32} {z0_at : Int32} {z0_fault : Int32} {z1_lasts : Int32} {z1_keeps : Int32} {z1_stalls : Int32} {z1_buyers : Int32} {z1_minute : Int32} {z1_goods : Nat → Int32} {z1_price : Nat → Int32} {z1_tongue : Nat → Int32} {z1_till : Nat → Int32} {z1_wealth : Nat → Int32} {z1_sold : Nat → Int32} {z1_ring : Nat → Int32} {z1_grudges : Nat → Int32} {z1_purse : Nat → Int32} {z1_came : Nat → Int32} {z1_had : Nat → Int32} {z1_seller : Nat → Int32} {z1_praise : Nat → Int32} {z1_borne : Nat → Int32}
def mFairReader_readBuyer (z0_text : Nat → Int32) (z0_size : Int32) (z0_at : Int32) (z0_fault : Int32) (z1_stalls : Int32) (z1_buyers : Int32) (z1_purse : Nat → Int32) (z1_came : Nat → Int32) (z1_had : Nat → Int32) : Option (Int32 × Int32 × Int32 × (Nat → Int32) × (Nat → Int32) × (Nat → Int32)) := (mCursor_takeNumber (0 : Int32) (99 : Int32) z0_text z0_size z0_at z0_fault).bind (fun q1 => (mCursor_takeNumber (0 : Int32) (z1_stalls - (1 : Int32)) z0_text z0_size q1.2.1 q1.2.2).bind (fun q2 => (mCursor_isFine q2.2.2).bind (fun q3 => (if q3 = 0 then some (q2.2.1, q2.2.2, z1_buyers, z1_purse, z1_came, z1_had) else (mFair_addBuyer q1.1 q2.1 z1_buyers z1_purse z1_came z1_had).bind (fun q5 => some (q2.2.1, q2.2.2, q5.1, q5.2.1, q5.2.2.1, q5.2.2.2))))))
set_option maxHeartbeats 4000000 in
set_option maxRecDepth 20000 in
theorem cFairReader_readBuyer {q : Int32 × Int32 × Int32 × (Nat → Int32) × (Nat → Int32) × (Nat → Int32)}  (h : mFairReader_readBuyer z0_text z0_size z0_at z0_fault z1_stalls z1_buyers z1_purse z1_came z1_had = some q) : rMet l D Z (ty7 K) MFairReader_readBuyer [.ref (a0 0), .ref (a1 0)] (List.flatten [bCursor K a0 z0_text z0_size z0_at z0_fault, bFair K a1 z1_lasts z1_keeps z1_stalls z1_buyers z1_minute z1_goods z1_price z1_tongue z1_till z1_wealth z1_sold z1_ring z1_grudges z1_purse z1_came z1_had z1_seller z1_praise z1_borne]) (List.flatten [bCursor K a0 z0_text z0_size q.1 q.2.1, bFair K a1 z1_lasts z1_keeps z1_stalls q.2.2.1 z1_minute z1_goods z1_price z1_tongue z1_till z1_wealth z1_sold z1_ring z1_grudges q.2.2.2.1 q.2.2.2.2.1 q.2.2.2.2.2 z1_seller z1_praise z1_borne]) none := by
  refine rMet.of (by decide) rfl (Nat.le_of_ble_eq_true rfl) ?_
  refine r_sub (lv' := [(0, .ref (a0 0)), (1, .ref (a1 0))]) [0, 1] rfl ?_
  unfold mFairReader_readBuyer at h
  refine r_aload_n 0 dX2_readBuyer_0 rfl ?_
  refine r_iconst (x := (0 : Int32)) dX2_readBuyer_1 (by decide) ?_
  refine r_bipush (x := (99 : Int32)) dX2_readBuyer_2 (by decide) ?_
  obtain ⟨q1, h1, h⟩ := bd_some h
  refine b_callVN (isC := [0]) (ci := 0)  (st := []) (bs1 := [bCursor K a0 z0_text z0_size q1.2.1 q1.2.2, bFair K a1 z1_lasts z1_keeps z1_stalls z1_buyers z1_minute z1_goods z1_price z1_tongue z1_till z1_wealth z1_sold z1_ring z1_grudges z1_purse z1_came z1_had z1_seller z1_praise z1_borne]) (cCursor_takeNumber (a0 := a0) (z0_text := z0_text) (z0_size := z0_size) (z0_at := z0_at) (z0_fault := z0_fault) h1) rfl rfl (Nat.le_of_ble_eq_true rfl) kCursor_takeNumber (List.mem_of_getElem? (i := 18) rfl) (by decide) (by decide) rfl rfl rfl rfl rfl rfl rfl dX2_readBuyer_4 ?_
  refine r_istore_n (lv' := [(2, .int q1.1), (0, .ref (a0 0)), (1, .ref (a1 0))]) dX2_readBuyer_7 (Nat.le_of_ble_eq_true rfl) rfl ?_
  refine r_aload_n 1 dX2_readBuyer_8 rfl ?_
  refine r_iconst (x := (0 : Int32)) dX2_readBuyer_9 (by decide) ?_
  refine r_aload_n 2 dX2_readBuyer_10 rfl ?_
  refine gFair_stallsN 1 rfl (List.mem_of_getElem? (i := 14) rfl) dX2_readBuyer_11 ?_
  refine r_iconst (x := (1 : Int32)) dX2_readBuyer_14 (by decide) ?_
  refine r_isub dX2_readBuyer_15 ?_
  obtain ⟨q2, h2, h⟩ := bd_some h
  refine b_callVN (isC := [0]) (ci := 0)  (st := []) (bs1 := [bCursor K a0 z0_text z0_size q2.2.1 q2.2.2, bFair K a1 z1_lasts z1_keeps z1_stalls z1_buyers z1_minute z1_goods z1_price z1_tongue z1_till z1_wealth z1_sold z1_ring z1_grudges z1_purse z1_came z1_had z1_seller z1_praise z1_borne]) (cCursor_takeNumber (a0 := a0) (z0_text := z0_text) (z0_size := z0_size) (z0_at := q1.2.1) (z0_fault := q1.2.2) h2) rfl rfl (Nat.le_of_ble_eq_true rfl) kCursor_takeNumber (List.mem_of_getElem? (i := 18) rfl) (by decide) (by decide) rfl rfl rfl rfl rfl rfl rfl dX2_readBuyer_16 ?_
  refine r_istore_n (lv' := [(3, .int q2.1), (2, .int q1.1), (0, .ref (a0 0)), (1, .ref (a1 0))]) dX2_readBuyer_19 (Nat.le_of_ble_eq_true rfl) rfl ?_
  refine r_aload_n 2 dX2_readBuyer_20 rfl ?_
  obtain ⟨q3, h3, h⟩ := bd_some h
  refine b_callVN (isC := [0]) (ci := 0)  (st := []) (bs1 := [bCursor K a0 z0_text z0_size q2.2.1 q2.2.2, bFair K a1 z1_lasts z1_keeps z1_stalls z1_buyers z1_minute z1_goods z1_price z1_tongue z1_till z1_wealth z1_sold z1_ring z1_grudges z1_purse z1_came z1_had z1_seller z1_praise z1_borne]) (cCursor_isFine (a0 := a0) (z0_text := z0_text) (z0_size := z0_size) (z0_at := q2.2.1) (z0_fault := q2.2.2) h3) rfl rfl (Nat.le_of_ble_eq_true rfl) kCursor_isFine (List.mem_of_getElem? (i := 20) rfl) (by decide) (by decide) rfl rfl rfl rfl rfl rfl rfl dX2_readBuyer_21 ?_
  refine r_if_eq 33 dX2_readBuyer_24 (by decide) (fun c4 => ?_) (fun c4 => ?_)
  · replace h := it_pos c4 h
    have hq := Option.some.inj h
    subst hq
    exact r_vret rfl dX2_readBuyer_33
  · replace h := it_neg c4 h
    refine r_aload_n 3 dX2_readBuyer_27 rfl ?_
    refine r_iload_n 1 dX2_readBuyer_28 rfl ?_
    refine r_iload_n 0 dX2_readBuyer_29 rfl ?_
    obtain ⟨q5, h5, h⟩ := bd_some h
    refine b_callVN (isC := [1]) (ci := 1)  (st := []) (bs1 := [bCursor K a0 z0_text z0_size q2.2.1 q2.2.2, bFair K a1 z1_lasts z1_keeps z1_stalls q5.1 z1_minute z1_goods z1_price z1_tongue z1_till z1_wealth z1_sold z1_ring z1_grudges q5.2.1 q5.2.2.1 q5.2.2.2 z1_seller z1_praise z1_borne]) (cFair_addBuyer (a0 := a1) (z0_lasts := z1_lasts) (z0_keeps := z1_keeps) (z0_stalls := z1_stalls) (z0_buyers := z1_buyers) (z0_minute := z1_minute) (z0_goods := z1_goods) (z0_price := z1_price) (z0_tongue := z1_tongue) (z0_till := z1_till) (z0_wealth := z1_wealth) (z0_sold := z1_sold) (z0_ring := z1_ring) (z0_grudges := z1_grudges) (z0_purse := z1_purse) (z0_came := z1_came) (z0_had := z1_had) (z0_seller := z1_seller) (z0_praise := z1_praise) (z0_borne := z1_borne) h5) rfl rfl (Nat.le_of_ble_eq_true rfl) kFair_addBuyer (List.mem_of_getElem? (i := 24) rfl) (by decide) (by decide) rfl rfl rfl rfl rfl rfl rfl dX2_readBuyer_30 ?_
    have hq := Option.some.inj h
    subst hq
    exact r_vret rfl dX2_readBuyer_33
end
theorem dX2_readGrudge_0 : decode cX2_readGrudge 0 = .ok (.aload_n 0, 1) := by decide +kernel
theorem dX2_readGrudge_1 : decode cX2_readGrudge 1 = .ok (.iconst 0, 1) := by decide +kernel
theorem dX2_readGrudge_2 : decode cX2_readGrudge 2 = .ok (.aload_n 1, 1) := by decide +kernel
theorem dX2_readGrudge_3 : decode cX2_readGrudge 3 = .ok (.getfield 74, 3) := by decide +kernel
theorem dX2_readGrudge_6 : decode cX2_readGrudge 6 = .ok (.iconst 1, 1) := by decide +kernel
theorem dX2_readGrudge_7 : decode cX2_readGrudge 7 = .ok (.isub, 1) := by decide +kernel
theorem dX2_readGrudge_8 : decode cX2_readGrudge 8 = .ok (.invokevirtual 54, 3) := by decide +kernel
theorem dX2_readGrudge_11 : decode cX2_readGrudge 11 = .ok (.istore_n 2, 1) := by decide +kernel
theorem dX2_readGrudge_12 : decode cX2_readGrudge 12 = .ok (.aload_n 0, 1) := by decide +kernel
theorem dX2_readGrudge_13 : decode cX2_readGrudge 13 = .ok (.invokevirtual 32, 3) := by decide +kernel
theorem dX2_readGrudge_16 : decode cX2_readGrudge 16 = .ok (.pop, 1) := by decide +kernel
theorem dX2_readGrudge_17 : decode cX2_readGrudge 17 = .ok (.aload_n 0, 1) := by decide +kernel
theorem dX2_readGrudge_18 : decode cX2_readGrudge 18 = .ok (.getfield 36, 3) := by decide +kernel
theorem dX2_readGrudge_21 : decode cX2_readGrudge 21 = .ok (.istore_n 3, 1) := by decide +kernel
theorem dX2_readGrudge_22 : decode cX2_readGrudge 22 = .ok (.aload_n 0, 1) := by decide +kernel
theorem dX2_readGrudge_23 : decode cX2_readGrudge 23 = .ok (.iconst 0, 1) := by decide +kernel
theorem dX2_readGrudge_24 : decode cX2_readGrudge 24 = .ok (.aload_n 1, 1) := by decide +kernel
theorem dX2_readGrudge_25 : decode cX2_readGrudge 25 = .ok (.getfield 74, 3) := by decide +kernel
theorem dX2_readGrudge_28 : decode cX2_readGrudge 28 = .ok (.iconst 1, 1) := by decide +kernel
theorem dX2_readGrudge_29 : decode cX2_readGrudge 29 = .ok (.isub, 1) := by decide +kernel
theorem dX2_readGrudge_30 : decode cX2_readGrudge 30 = .ok (.invokevirtual 54, 3) := by decide +kernel
theorem dX2_readGrudge_33 : decode cX2_readGrudge 33 = .ok (.istore 4, 2) := by decide +kernel
theorem dX2_readGrudge_35 : decode cX2_readGrudge 35 = .ok (.iload 4, 2) := by decide +kernel
theorem dX2_readGrudge_37 : decode cX2_readGrudge 37 = .ok (.iload_n 2, 1) := by decide +kernel
theorem dX2_readGrudge_38 : decode cX2_readGrudge 38 = .ok (.if_icmp .ne 9, 3) := by decide +kernel
theorem dX2_readGrudge_41 : decode cX2_readGrudge 41 = .ok (.aload_n 0, 1) := by decide +kernel
theorem dX2_readGrudge_42 : decode cX2_readGrudge 42 = .ok (.iconst 1, 1) := by decide +kernel
theorem dX2_readGrudge_43 : decode cX2_readGrudge 43 = .ok (.iload_n 3, 1) := by decide +kernel
theorem dX2_readGrudge_44 : decode cX2_readGrudge 44 = .ok (.invokevirtual 46, 3) := by decide +kernel
theorem dX2_readGrudge_47 : decode cX2_readGrudge 47 = .ok (.aload_n 0, 1) := by decide +kernel
theorem dX2_readGrudge_48 : decode cX2_readGrudge 48 = .ok (.invokevirtual 20, 3) := by decide +kernel
theorem dX2_readGrudge_51 : decode cX2_readGrudge 51 = .ok (.ifCond .eq 20, 3) := by decide +kernel
theorem dX2_readGrudge_54 : decode cX2_readGrudge 54 = .ok (.aload_n 1, 1) := by decide +kernel
theorem dX2_readGrudge_55 : decode cX2_readGrudge 55 = .ok (.iload_n 2, 1) := by decide +kernel
theorem dX2_readGrudge_56 : decode cX2_readGrudge 56 = .ok (.iload 4, 2) := by decide +kernel
theorem dX2_readGrudge_58 : decode cX2_readGrudge 58 = .ok (.invokevirtual 84, 3) := by decide +kernel
theorem dX2_readGrudge_61 : decode cX2_readGrudge 61 = .ok (.ifCond .ne 10, 3) := by decide +kernel
theorem dX2_readGrudge_64 : decode cX2_readGrudge 64 = .ok (.aload_n 1, 1) := by decide +kernel
theorem dX2_readGrudge_65 : decode cX2_readGrudge 65 = .ok (.iload_n 2, 1) := by decide +kernel
theorem dX2_readGrudge_66 : decode cX2_readGrudge 66 = .ok (.iload 4, 2) := by decide +kernel
theorem dX2_readGrudge_68 : decode cX2_readGrudge 68 = .ok (.invokevirtual 88, 3) := by decide +kernel
theorem dX2_readGrudge_71 : decode cX2_readGrudge 71 = .ok (.return_, 1) := by decide +kernel
abbrev MFairReader_readGrudge : rx_M := (RX2, yX2_readGrudge, cX2_readGrudge, 5, none, 4)
theorem kFairReader_readGrudge : rKs MFairReader_readGrudge 2 := ⟨tb_in (i := 6) (j := 25) rfl rfl, tb_in (i := 6) (j := 21) rfl rfl, tb_in (i := 6) (j := 13) rfl rfl, ⟨by decide, by decide, by decide +kernel⟩, by decide⟩
section
variable {a0 : Nat → Nat} {a1 : Nat → Nat} {z0_text : Nat → Int32} {z0_size : Int32} {z0_at : Int32} {z0_fault : Int32} {z1_lasts : Int32} {z1_keeps : Int32} {z1_stalls : Int32} {z1_buyers : Int32} {z1_minute : Int32} {z1_goods : Nat → Int32} {z1_price : Nat → Int32} {z1_tongue : Nat → Int32} {z1_till : Nat → Int32} {z1_wealth : Nat → Int32} {z1_sold : Nat → Int32} {z1_ring : Nat → Int32} {z1_grudges : Nat → Int32} {z1_purse : Nat → Int32} {z1_came : Nat → Int32} {z1_had : Nat → Int32} {z1_seller : Nat → Int32} {z1_praise : Nat → Int32} {z1_borne : Nat → Int32}
def mFairReader_readGrudge (z0_text : Nat → Int32) (z0_size : Int32) (z0_at : Int32) (z0_fault : Int32) (z1_stalls : Int32) (z1_tongue : Nat → Int32) (z1_ring : Nat → Int32) (z1_grudges : Nat → Int32) (z1_seller : Nat → Int32) (z1_praise : Nat → Int32) (z1_borne : Nat → Int32) : Option (Int32 × Int32 × (Nat → Int32) × (Nat → Int32) × (Nat → Int32) × (Nat → Int32)) := (mCursor_takeNumber (0 : Int32) (z1_stalls - (1 : Int32)) z0_text z0_size z0_at z0_fault).bind (fun q1 => (mCursor_peek z0_text z0_size q1.2.1).bind (fun q2 => (mCursor_takeNumber (0 : Int32) (z1_stalls - (1 : Int32)) z0_text z0_size q2.2 q1.2.2).bind (fun q3 => (if q3.1 = q1.1 then (mCursor_fail (1 : Int32) q2.2 q3.2.2).bind (fun q10 => (mCursor_isFine q10).bind (fun q11 => (if q11 = 0 then some (q3.2.1, q10, z1_grudges, z1_seller, z1_praise, z1_borne) else (mFair_bears q1.1 q3.1 z1_grudges).bind (fun q13 => (if q13 = 0 then (mFair_flipGrudge q1.1 q3.1 z1_stalls z1_tongue z1_ring z1_grudges z1_seller z1_praise z1_borne).bind (fun q15 => some (q3.2.1, q10, q15.1, q15.2.1, q15.2.2.1, q15.2.2.2)) else some (q3.2.1, q10, z1_grudges, z1_seller, z1_praise, z1_borne)))))) else (mCursor_isFine q3.2.2).bind (fun q5 => (if q5 = 0 then some (q3.2.1, q3.2.2, z1_grudges, z1_seller, z1_praise, z1_borne) else (mFair_bears q1.1 q3.1 z1_grudges).bind (fun q7 => (if q7 = 0 then (mFair_flipGrudge q1.1 q3.1 z1_stalls z1_tongue z1_ring z1_grudges z1_seller z1_praise z1_borne).bind (fun q9 => some (q3.2.1, q3.2.2, q9.1, q9.2.1, q9.2.2.1, q9.2.2.2)) else some (q3.2.1, q3.2.2, z1_grudges, z1_seller, z1_praise, z1_borne)))))))))
set_option maxHeartbeats 4000000 in
set_option maxRecDepth 20000 in
theorem cFairReader_readGrudge {q : Int32 × Int32 × (Nat → Int32) × (Nat → Int32) × (Nat → Int32) × (Nat → Int32)}  (h : mFairReader_readGrudge z0_text z0_size z0_at z0_fault z1_stalls z1_tongue z1_ring z1_grudges z1_seller z1_praise z1_borne = some q) : rMet l D Z (ty7 K) MFairReader_readGrudge [.ref (a0 0), .ref (a1 0)] (List.flatten [bCursor K a0 z0_text z0_size z0_at z0_fault, bFair K a1 z1_lasts z1_keeps z1_stalls z1_buyers z1_minute z1_goods z1_price z1_tongue z1_till z1_wealth z1_sold z1_ring z1_grudges z1_purse z1_came z1_had z1_seller z1_praise z1_borne]) (List.flatten [bCursor K a0 z0_text z0_size q.1 q.2.1, bFair K a1 z1_lasts z1_keeps z1_stalls z1_buyers z1_minute z1_goods z1_price z1_tongue z1_till z1_wealth z1_sold z1_ring q.2.2.1 z1_purse z1_came z1_had q.2.2.2.1 q.2.2.2.2.1 q.2.2.2.2.2]) none := by
  refine rMet.of (by decide) rfl (Nat.le_of_ble_eq_true rfl) ?_
  refine r_sub (lv' := [(0, .ref (a0 0)), (1, .ref (a1 0))]) [0, 1] rfl ?_
  unfold mFairReader_readGrudge at h
  refine r_aload_n 0 dX2_readGrudge_0 rfl ?_
  refine r_iconst (x := (0 : Int32)) dX2_readGrudge_1 (by decide) ?_
  refine r_aload_n 1 dX2_readGrudge_2 rfl ?_
  refine gFair_stallsN 1 rfl (List.mem_of_getElem? (i := 14) rfl) dX2_readGrudge_3 ?_
  refine r_iconst (x := (1 : Int32)) dX2_readGrudge_6 (by decide) ?_
  refine r_isub dX2_readGrudge_7 ?_
  obtain ⟨q1, h1, h⟩ := bd_some h
  refine b_callVN (isC := [0]) (ci := 0)  (st := []) (bs1 := [bCursor K a0 z0_text z0_size q1.2.1 q1.2.2, bFair K a1 z1_lasts z1_keeps z1_stalls z1_buyers z1_minute z1_goods z1_price z1_tongue z1_till z1_wealth z1_sold z1_ring z1_grudges z1_purse z1_came z1_had z1_seller z1_praise z1_borne]) (cCursor_takeNumber (a0 := a0) (z0_text := z0_text) (z0_size := z0_size) (z0_at := z0_at) (z0_fault := z0_fault) h1) rfl rfl (Nat.le_of_ble_eq_true rfl) kCursor_takeNumber (List.mem_of_getElem? (i := 18) rfl) (by decide) (by decide) rfl rfl rfl rfl rfl rfl rfl dX2_readGrudge_8 ?_
  refine r_istore_n (lv' := [(2, .int q1.1), (0, .ref (a0 0)), (1, .ref (a1 0))]) dX2_readGrudge_11 (Nat.le_of_ble_eq_true rfl) rfl ?_
  refine r_aload_n 1 dX2_readGrudge_12 rfl ?_
  obtain ⟨q2, h2, h⟩ := bd_some h
  refine b_callVN (isC := [0]) (ci := 0)  (st := []) (bs1 := [bCursor K a0 z0_text z0_size q2.2 q1.2.2, bFair K a1 z1_lasts z1_keeps z1_stalls z1_buyers z1_minute z1_goods z1_price z1_tongue z1_till z1_wealth z1_sold z1_ring z1_grudges z1_purse z1_came z1_had z1_seller z1_praise z1_borne]) (cCursor_peek (a0 := a0) (z0_text := z0_text) (z0_size := z0_size) (z0_at := q1.2.1) (z0_fault := q1.2.2) h2) rfl rfl (Nat.le_of_ble_eq_true rfl) kCursor_peek (List.mem_of_getElem? (i := 15) rfl) (by decide) (by decide) rfl rfl rfl rfl rfl rfl rfl dX2_readGrudge_13 ?_
  refine r_pop dX2_readGrudge_16 rfl ?_
  refine r_aload_n 1 dX2_readGrudge_17 rfl ?_
  refine gCursor_atN 0 rfl (List.mem_of_getElem? (i := 6) rfl) dX2_readGrudge_18 ?_
  refine r_istore_n (lv' := [(3, .int q2.2), (2, .int q1.1), (0, .ref (a0 0)), (1, .ref (a1 0))]) dX2_readGrudge_21 (Nat.le_of_ble_eq_true rfl) rfl ?_
  refine r_aload_n 2 dX2_readGrudge_22 rfl ?_
  refine r_iconst (x := (0 : Int32)) dX2_readGrudge_23 (by decide) ?_
  refine r_aload_n 3 dX2_readGrudge_24 rfl ?_
  refine gFair_stallsN 1 rfl (List.mem_of_getElem? (i := 14) rfl) dX2_readGrudge_25 ?_
  refine r_iconst (x := (1 : Int32)) dX2_readGrudge_28 (by decide) ?_
  refine r_isub dX2_readGrudge_29 ?_
  obtain ⟨q3, h3, h⟩ := bd_some h
  refine b_callVN (isC := [0]) (ci := 0)  (st := []) (bs1 := [bCursor K a0 z0_text z0_size q3.2.1 q3.2.2, bFair K a1 z1_lasts z1_keeps z1_stalls z1_buyers z1_minute z1_goods z1_price z1_tongue z1_till z1_wealth z1_sold z1_ring z1_grudges z1_purse z1_came z1_had z1_seller z1_praise z1_borne]) (cCursor_takeNumber (a0 := a0) (z0_text := z0_text) (z0_size := z0_size) (z0_at := q2.2) (z0_fault := q1.2.2) h3) rfl rfl (Nat.le_of_ble_eq_true rfl) kCursor_takeNumber (List.mem_of_getElem? (i := 18) rfl) (by decide) (by decide) rfl rfl rfl rfl rfl rfl rfl dX2_readGrudge_30 ?_
  refine r_istore (lv' := [(4, .int q3.1), (3, .int q2.2), (2, .int q1.1), (0, .ref (a0 0)), (1, .ref (a1 0))]) dX2_readGrudge_33 (Nat.le_of_ble_eq_true rfl) rfl ?_
  refine r_iload 0 dX2_readGrudge_35 rfl ?_
  refine r_iload_n 2 dX2_readGrudge_37 rfl ?_
  refine r_icmp_ne 47 dX2_readGrudge_38 (by decide) (fun c4 => ?_) (fun c4 => ?_)
  · replace h := it_neg c4 h
    refine r_aload_n 3 dX2_readGrudge_47 rfl ?_
    obtain ⟨q5, h5, h⟩ := bd_some h
    refine b_callVN (isC := [0]) (ci := 0)  (st := []) (bs1 := [bCursor K a0 z0_text z0_size q3.2.1 q3.2.2, bFair K a1 z1_lasts z1_keeps z1_stalls z1_buyers z1_minute z1_goods z1_price z1_tongue z1_till z1_wealth z1_sold z1_ring z1_grudges z1_purse z1_came z1_had z1_seller z1_praise z1_borne]) (cCursor_isFine (a0 := a0) (z0_text := z0_text) (z0_size := z0_size) (z0_at := q3.2.1) (z0_fault := q3.2.2) h5) rfl rfl (Nat.le_of_ble_eq_true rfl) kCursor_isFine (List.mem_of_getElem? (i := 20) rfl) (by decide) (by decide) rfl rfl rfl rfl rfl rfl rfl dX2_readGrudge_48 ?_
    refine r_if_eq 71 dX2_readGrudge_51 (by decide) (fun c6 => ?_) (fun c6 => ?_)
    · replace h := it_pos c6 h
      have hq := Option.some.inj h
      subst hq
      exact r_vret rfl dX2_readGrudge_71
    · replace h := it_neg c6 h
      refine r_aload_n 4 dX2_readGrudge_54 rfl ?_
      refine r_iload_n 2 dX2_readGrudge_55 rfl ?_
      refine r_iload 0 dX2_readGrudge_56 rfl ?_
      obtain ⟨q7, h7, h⟩ := bd_some h
      refine b_callVN (isC := [1]) (ci := 1)  (st := []) (bs1 := [bCursor K a0 z0_text z0_size q3.2.1 q3.2.2, bFair K a1 z1_lasts z1_keeps z1_stalls z1_buyers z1_minute z1_goods z1_price z1_tongue z1_till z1_wealth z1_sold z1_ring z1_grudges z1_purse z1_came z1_had z1_seller z1_praise z1_borne]) (cFair_bears (a0 := a1) (z0_lasts := z1_lasts) (z0_keeps := z1_keeps) (z0_stalls := z1_stalls) (z0_buyers := z1_buyers) (z0_minute := z1_minute) (z0_goods := z1_goods) (z0_price := z1_price) (z0_tongue := z1_tongue) (z0_till := z1_till) (z0_wealth := z1_wealth) (z0_sold := z1_sold) (z0_ring := z1_ring) (z0_grudges := z1_grudges) (z0_purse := z1_purse) (z0_came := z1_came) (z0_had := z1_had) (z0_seller := z1_seller) (z0_praise := z1_praise) (z0_borne := z1_borne) h7) rfl rfl (Nat.le_of_ble_eq_true rfl) kFair_bears (List.mem_of_getElem? (i := 22) rfl) (by decide) (by decide) rfl rfl rfl rfl rfl rfl rfl dX2_readGrudge_58 ?_
      refine r_if_ne 71 dX2_readGrudge_61 (by decide) (fun c8 => ?_) (fun c8 => ?_)
      · replace h := it_neg c8 h
        have hq := Option.some.inj h
        subst hq
        exact r_vret rfl dX2_readGrudge_71
      · replace h := it_pos c8 h
        refine r_aload_n 4 dX2_readGrudge_64 rfl ?_
        refine r_iload_n 2 dX2_readGrudge_65 rfl ?_
        refine r_iload 0 dX2_readGrudge_66 rfl ?_
        obtain ⟨q9, h9, h⟩ := bd_some h
        refine b_callVN (isC := [1]) (ci := 1)  (st := []) (bs1 := [bCursor K a0 z0_text z0_size q3.2.1 q3.2.2, bFair K a1 z1_lasts z1_keeps z1_stalls z1_buyers z1_minute z1_goods z1_price z1_tongue z1_till z1_wealth z1_sold z1_ring q9.1 z1_purse z1_came z1_had q9.2.1 q9.2.2.1 q9.2.2.2]) (cFair_flipGrudge (a0 := a1) (z0_lasts := z1_lasts) (z0_keeps := z1_keeps) (z0_stalls := z1_stalls) (z0_buyers := z1_buyers) (z0_minute := z1_minute) (z0_goods := z1_goods) (z0_price := z1_price) (z0_tongue := z1_tongue) (z0_till := z1_till) (z0_wealth := z1_wealth) (z0_sold := z1_sold) (z0_ring := z1_ring) (z0_grudges := z1_grudges) (z0_purse := z1_purse) (z0_came := z1_came) (z0_had := z1_had) (z0_seller := z1_seller) (z0_praise := z1_praise) (z0_borne := z1_borne) h9) rfl rfl (Nat.le_of_ble_eq_true rfl) kFair_flipGrudge (List.mem_of_getElem? (i := 23) rfl) (by decide) (by decide) rfl rfl rfl rfl rfl rfl rfl dX2_readGrudge_68 ?_
        have hq := Option.some.inj h
        subst hq
        exact r_vret rfl dX2_readGrudge_71
  · replace h := it_pos c4 h
    refine r_aload_n 3 dX2_readGrudge_41 rfl ?_
    refine r_iconst (x := (1 : Int32)) dX2_readGrudge_42 (by decide) ?_
    refine r_iload_n 1 dX2_readGrudge_43 rfl ?_
    obtain ⟨q10, h10, h⟩ := bd_some h
    refine b_callVN (isC := [0]) (ci := 0)  (st := []) (bs1 := [bCursor K a0 z0_text z0_size q3.2.1 q10, bFair K a1 z1_lasts z1_keeps z1_stalls z1_buyers z1_minute z1_goods z1_price z1_tongue z1_till z1_wealth z1_sold z1_ring z1_grudges z1_purse z1_came z1_had z1_seller z1_praise z1_borne]) (cCursor_fail (a0 := a0) (z0_text := z0_text) (z0_size := z0_size) (z0_at := q3.2.1) (z0_fault := q3.2.2) h10) rfl rfl (Nat.le_of_ble_eq_true rfl) kCursor_fail (List.mem_of_getElem? (i := 17) rfl) (by decide) (by decide) rfl rfl rfl rfl rfl rfl rfl dX2_readGrudge_44 ?_
    refine r_aload_n 3 dX2_readGrudge_47 rfl ?_
    obtain ⟨q11, h11, h⟩ := bd_some h
    refine b_callVN (isC := [0]) (ci := 0)  (st := []) (bs1 := [bCursor K a0 z0_text z0_size q3.2.1 q10, bFair K a1 z1_lasts z1_keeps z1_stalls z1_buyers z1_minute z1_goods z1_price z1_tongue z1_till z1_wealth z1_sold z1_ring z1_grudges z1_purse z1_came z1_had z1_seller z1_praise z1_borne]) (cCursor_isFine (a0 := a0) (z0_text := z0_text) (z0_size := z0_size) (z0_at := q3.2.1) (z0_fault := q10) h11) rfl rfl (Nat.le_of_ble_eq_true rfl) kCursor_isFine (List.mem_of_getElem? (i := 20) rfl) (by decide) (by decide) rfl rfl rfl rfl rfl rfl rfl dX2_readGrudge_48 ?_
    refine r_if_eq 71 dX2_readGrudge_51 (by decide) (fun c12 => ?_) (fun c12 => ?_)
    · replace h := it_pos c12 h
      have hq := Option.some.inj h
      subst hq
      exact r_vret rfl dX2_readGrudge_71
    · replace h := it_neg c12 h
      refine r_aload_n 4 dX2_readGrudge_54 rfl ?_
      refine r_iload_n 2 dX2_readGrudge_55 rfl ?_
      refine r_iload 0 dX2_readGrudge_56 rfl ?_
      obtain ⟨q13, h13, h⟩ := bd_some h
      refine b_callVN (isC := [1]) (ci := 1)  (st := []) (bs1 := [bCursor K a0 z0_text z0_size q3.2.1 q10, bFair K a1 z1_lasts z1_keeps z1_stalls z1_buyers z1_minute z1_goods z1_price z1_tongue z1_till z1_wealth z1_sold z1_ring z1_grudges z1_purse z1_came z1_had z1_seller z1_praise z1_borne]) (cFair_bears (a0 := a1) (z0_lasts := z1_lasts) (z0_keeps := z1_keeps) (z0_stalls := z1_stalls) (z0_buyers := z1_buyers) (z0_minute := z1_minute) (z0_goods := z1_goods) (z0_price := z1_price) (z0_tongue := z1_tongue) (z0_till := z1_till) (z0_wealth := z1_wealth) (z0_sold := z1_sold) (z0_ring := z1_ring) (z0_grudges := z1_grudges) (z0_purse := z1_purse) (z0_came := z1_came) (z0_had := z1_had) (z0_seller := z1_seller) (z0_praise := z1_praise) (z0_borne := z1_borne) h13) rfl rfl (Nat.le_of_ble_eq_true rfl) kFair_bears (List.mem_of_getElem? (i := 22) rfl) (by decide) (by decide) rfl rfl rfl rfl rfl rfl rfl dX2_readGrudge_58 ?_
      refine r_if_ne 71 dX2_readGrudge_61 (by decide) (fun c14 => ?_) (fun c14 => ?_)
      · replace h := it_neg c14 h
        have hq := Option.some.inj h
        subst hq
        exact r_vret rfl dX2_readGrudge_71
      · replace h := it_pos c14 h
        refine r_aload_n 4 dX2_readGrudge_64 rfl ?_
        refine r_iload_n 2 dX2_readGrudge_65 rfl ?_
        refine r_iload 0 dX2_readGrudge_66 rfl ?_
        obtain ⟨q15, h15, h⟩ := bd_some h
        refine b_callVN (isC := [1]) (ci := 1)  (st := []) (bs1 := [bCursor K a0 z0_text z0_size q3.2.1 q10, bFair K a1 z1_lasts z1_keeps z1_stalls z1_buyers z1_minute z1_goods z1_price z1_tongue z1_till z1_wealth z1_sold z1_ring q15.1 z1_purse z1_came z1_had q15.2.1 q15.2.2.1 q15.2.2.2]) (cFair_flipGrudge (a0 := a1) (z0_lasts := z1_lasts) (z0_keeps := z1_keeps) (z0_stalls := z1_stalls) (z0_buyers := z1_buyers) (z0_minute := z1_minute) (z0_goods := z1_goods) (z0_price := z1_price) (z0_tongue := z1_tongue) (z0_till := z1_till) (z0_wealth := z1_wealth) (z0_sold := z1_sold) (z0_ring := z1_ring) (z0_grudges := z1_grudges) (z0_purse := z1_purse) (z0_came := z1_came) (z0_had := z1_had) (z0_seller := z1_seller) (z0_praise := z1_praise) (z0_borne := z1_borne) h15) rfl rfl (Nat.le_of_ble_eq_true rfl) kFair_flipGrudge (List.mem_of_getElem? (i := 23) rfl) (by decide) (by decide) rfl rfl rfl rfl rfl rfl rfl dX2_readGrudge_68 ?_
        have hq := Option.some.inj h
        subst hq
        exact r_vret rfl dX2_readGrudge_71
end
theorem dX2_readStall_0 : decode cX2_readStall 0 = .ok (.aload_n 0, 1) := by decide +kernel
theorem dX2_readStall_1 : decode cX2_readStall 1 = .ok (.iconst 0, 1) := by decide +kernel
theorem dX2_readStall_2 : decode cX2_readStall 2 = .ok (.bipush 20, 2) := by decide +kernel
theorem dX2_readStall_4 : decode cX2_readStall 4 = .ok (.invokevirtual 54, 3) := by decide +kernel
theorem dX2_readStall_7 : decode cX2_readStall 7 = .ok (.istore_n 2, 1) := by decide +kernel
theorem dX2_readStall_8 : decode cX2_readStall 8 = .ok (.aload_n 0, 1) := by decide +kernel
theorem dX2_readStall_9 : decode cX2_readStall 9 = .ok (.iconst 1, 1) := by decide +kernel
theorem dX2_readStall_10 : decode cX2_readStall 10 = .ok (.bipush 40, 2) := by decide +kernel
theorem dX2_readStall_12 : decode cX2_readStall 12 = .ok (.invokevirtual 54, 3) := by decide +kernel
theorem dX2_readStall_15 : decode cX2_readStall 15 = .ok (.istore_n 3, 1) := by decide +kernel
theorem dX2_readStall_16 : decode cX2_readStall 16 = .ok (.aload_n 0, 1) := by decide +kernel
theorem dX2_readStall_17 : decode cX2_readStall 17 = .ok (.iconst 0, 1) := by decide +kernel
theorem dX2_readStall_18 : decode cX2_readStall 18 = .ok (.bipush 20, 2) := by decide +kernel
theorem dX2_readStall_20 : decode cX2_readStall 20 = .ok (.invokevirtual 54, 3) := by decide +kernel
theorem dX2_readStall_23 : decode cX2_readStall 23 = .ok (.istore 4, 2) := by decide +kernel
theorem dX2_readStall_25 : decode cX2_readStall 25 = .ok (.aload_n 0, 1) := by decide +kernel
theorem dX2_readStall_26 : decode cX2_readStall 26 = .ok (.invokevirtual 20, 3) := by decide +kernel
theorem dX2_readStall_29 : decode cX2_readStall 29 = .ok (.ifCond .eq 11, 3) := by decide +kernel
theorem dX2_readStall_32 : decode cX2_readStall 32 = .ok (.aload_n 1, 1) := by decide +kernel
theorem dX2_readStall_33 : decode cX2_readStall 33 = .ok (.iload_n 2, 1) := by decide +kernel
theorem dX2_readStall_34 : decode cX2_readStall 34 = .ok (.iload_n 3, 1) := by decide +kernel
theorem dX2_readStall_35 : decode cX2_readStall 35 = .ok (.iload 4, 2) := by decide +kernel
theorem dX2_readStall_37 : decode cX2_readStall 37 = .ok (.invokevirtual 80, 3) := by decide +kernel
theorem dX2_readStall_40 : decode cX2_readStall 40 = .ok (.return_, 1) := by decide +kernel
abbrev MFairReader_readStall : rx_M := (RX2, yX2_readStall, cX2_readStall, 5, none, 3)
theorem kFairReader_readStall : rKs MFairReader_readStall 2 := ⟨tb_in (i := 6) (j := 23) rfl rfl, tb_in (i := 6) (j := 21) rfl rfl, tb_in (i := 6) (j := 10) rfl rfl, ⟨by decide, by decide, by decide +kernel⟩, by decide⟩
section
variable {a0 : Nat → Nat} {a1 : Nat → Nat} {z0_text : Nat → Int32} {z0_size : Int32} {z0_at : Int32} {z0_fault : Int32} {z1_lasts : Int32} {z1_keeps : Int32} {z1_stalls : Int32} {z1_buyers : Int32} {z1_minute : Int32} {z1_goods : Nat → Int32} {z1_price : Nat → Int32} {z1_tongue : Nat → Int32} {z1_till : Nat → Int32} {z1_wealth : Nat → Int32} {z1_sold : Nat → Int32} {z1_ring : Nat → Int32} {z1_grudges : Nat → Int32} {z1_purse : Nat → Int32} {z1_came : Nat → Int32} {z1_had : Nat → Int32} {z1_seller : Nat → Int32} {z1_praise : Nat → Int32} {z1_borne : Nat → Int32}
def mFairReader_readStall (z0_text : Nat → Int32) (z0_size : Int32) (z0_at : Int32) (z0_fault : Int32) (z1_stalls : Int32) (z1_goods : Nat → Int32) (z1_price : Nat → Int32) (z1_tongue : Nat → Int32) (z1_till : Nat → Int32) (z1_wealth : Nat → Int32) (z1_sold : Nat → Int32) (z1_ring : Nat → Int32) (z1_grudges : Nat → Int32) : Option (Int32 × Int32 × Int32 × (Nat → Int32) × (Nat → Int32) × (Nat → Int32) × (Nat → Int32) × (Nat → Int32) × (Nat → Int32) × (Nat → Int32) × (Nat → Int32)) := (mCursor_takeNumber (0 : Int32) (20 : Int32) z0_text z0_size z0_at z0_fault).bind (fun q1 => (mCursor_takeNumber (1 : Int32) (40 : Int32) z0_text z0_size q1.2.1 q1.2.2).bind (fun q2 => (mCursor_takeNumber (0 : Int32) (20 : Int32) z0_text z0_size q2.2.1 q2.2.2).bind (fun q3 => (mCursor_isFine q3.2.2).bind (fun q4 => (if q4 = 0 then some (q3.2.1, q3.2.2, z1_stalls, z1_goods, z1_price, z1_tongue, z1_till, z1_wealth, z1_sold, z1_ring, z1_grudges) else (mFair_addStall q1.1 q2.1 q3.1 z1_stalls z1_goods z1_price z1_tongue z1_till z1_wealth z1_sold z1_ring z1_grudges).bind (fun q6 => some (q3.2.1, q3.2.2, q6.1, q6.2.1, q6.2.2.1, q6.2.2.2.1, q6.2.2.2.2.1, q6.2.2.2.2.2.1, q6.2.2.2.2.2.2.1, q6.2.2.2.2.2.2.2.1, q6.2.2.2.2.2.2.2.2)))))))
set_option maxHeartbeats 4000000 in
set_option maxRecDepth 20000 in
theorem cFairReader_readStall {q : Int32 × Int32 × Int32 × (Nat → Int32) × (Nat → Int32) × (Nat → Int32) × (Nat → Int32) × (Nat → Int32) × (Nat → Int32) × (Nat → Int32) × (Nat → Int32)}  (h : mFairReader_readStall z0_text z0_size z0_at z0_fault z1_stalls z1_goods z1_price z1_tongue z1_till z1_wealth z1_sold z1_ring z1_grudges = some q) : rMet l D Z (ty7 K) MFairReader_readStall [.ref (a0 0), .ref (a1 0)] (List.flatten [bCursor K a0 z0_text z0_size z0_at z0_fault, bFair K a1 z1_lasts z1_keeps z1_stalls z1_buyers z1_minute z1_goods z1_price z1_tongue z1_till z1_wealth z1_sold z1_ring z1_grudges z1_purse z1_came z1_had z1_seller z1_praise z1_borne]) (List.flatten [bCursor K a0 z0_text z0_size q.1 q.2.1, bFair K a1 z1_lasts z1_keeps q.2.2.1 z1_buyers z1_minute q.2.2.2.1 q.2.2.2.2.1 q.2.2.2.2.2.1 q.2.2.2.2.2.2.1 q.2.2.2.2.2.2.2.1 q.2.2.2.2.2.2.2.2.1 q.2.2.2.2.2.2.2.2.2.1 q.2.2.2.2.2.2.2.2.2.2 z1_purse z1_came z1_had z1_seller z1_praise z1_borne]) none := by
  refine rMet.of (by decide) rfl (Nat.le_of_ble_eq_true rfl) ?_
  refine r_sub (lv' := [(0, .ref (a0 0)), (1, .ref (a1 0))]) [0, 1] rfl ?_
  unfold mFairReader_readStall at h
  refine r_aload_n 0 dX2_readStall_0 rfl ?_
  refine r_iconst (x := (0 : Int32)) dX2_readStall_1 (by decide) ?_
  refine r_bipush (x := (20 : Int32)) dX2_readStall_2 (by decide) ?_
  obtain ⟨q1, h1, h⟩ := bd_some h
  refine b_callVN (isC := [0]) (ci := 0)  (st := []) (bs1 := [bCursor K a0 z0_text z0_size q1.2.1 q1.2.2, bFair K a1 z1_lasts z1_keeps z1_stalls z1_buyers z1_minute z1_goods z1_price z1_tongue z1_till z1_wealth z1_sold z1_ring z1_grudges z1_purse z1_came z1_had z1_seller z1_praise z1_borne]) (cCursor_takeNumber (a0 := a0) (z0_text := z0_text) (z0_size := z0_size) (z0_at := z0_at) (z0_fault := z0_fault) h1) rfl rfl (Nat.le_of_ble_eq_true rfl) kCursor_takeNumber (List.mem_of_getElem? (i := 18) rfl) (by decide) (by decide) rfl rfl rfl rfl rfl rfl rfl dX2_readStall_4 ?_
  refine r_istore_n (lv' := [(2, .int q1.1), (0, .ref (a0 0)), (1, .ref (a1 0))]) dX2_readStall_7 (Nat.le_of_ble_eq_true rfl) rfl ?_
  refine r_aload_n 1 dX2_readStall_8 rfl ?_
  refine r_iconst (x := (1 : Int32)) dX2_readStall_9 (by decide) ?_
  refine r_bipush (x := (40 : Int32)) dX2_readStall_10 (by decide) ?_
  obtain ⟨q2, h2, h⟩ := bd_some h
  refine b_callVN (isC := [0]) (ci := 0)  (st := []) (bs1 := [bCursor K a0 z0_text z0_size q2.2.1 q2.2.2, bFair K a1 z1_lasts z1_keeps z1_stalls z1_buyers z1_minute z1_goods z1_price z1_tongue z1_till z1_wealth z1_sold z1_ring z1_grudges z1_purse z1_came z1_had z1_seller z1_praise z1_borne]) (cCursor_takeNumber (a0 := a0) (z0_text := z0_text) (z0_size := z0_size) (z0_at := q1.2.1) (z0_fault := q1.2.2) h2) rfl rfl (Nat.le_of_ble_eq_true rfl) kCursor_takeNumber (List.mem_of_getElem? (i := 18) rfl) (by decide) (by decide) rfl rfl rfl rfl rfl rfl rfl dX2_readStall_12 ?_
  refine r_istore_n (lv' := [(3, .int q2.1), (2, .int q1.1), (0, .ref (a0 0)), (1, .ref (a1 0))]) dX2_readStall_15 (Nat.le_of_ble_eq_true rfl) rfl ?_
  refine r_aload_n 2 dX2_readStall_16 rfl ?_
  refine r_iconst (x := (0 : Int32)) dX2_readStall_17 (by decide) ?_
  refine r_bipush (x := (20 : Int32)) dX2_readStall_18 (by decide) ?_
  obtain ⟨q3, h3, h⟩ := bd_some h
  refine b_callVN (isC := [0]) (ci := 0)  (st := []) (bs1 := [bCursor K a0 z0_text z0_size q3.2.1 q3.2.2, bFair K a1 z1_lasts z1_keeps z1_stalls z1_buyers z1_minute z1_goods z1_price z1_tongue z1_till z1_wealth z1_sold z1_ring z1_grudges z1_purse z1_came z1_had z1_seller z1_praise z1_borne]) (cCursor_takeNumber (a0 := a0) (z0_text := z0_text) (z0_size := z0_size) (z0_at := q2.2.1) (z0_fault := q2.2.2) h3) rfl rfl (Nat.le_of_ble_eq_true rfl) kCursor_takeNumber (List.mem_of_getElem? (i := 18) rfl) (by decide) (by decide) rfl rfl rfl rfl rfl rfl rfl dX2_readStall_20 ?_
  refine r_istore (lv' := [(4, .int q3.1), (3, .int q2.1), (2, .int q1.1), (0, .ref (a0 0)), (1, .ref (a1 0))]) dX2_readStall_23 (Nat.le_of_ble_eq_true rfl) rfl ?_
  refine r_aload_n 3 dX2_readStall_25 rfl ?_
  obtain ⟨q4, h4, h⟩ := bd_some h
  refine b_callVN (isC := [0]) (ci := 0)  (st := []) (bs1 := [bCursor K a0 z0_text z0_size q3.2.1 q3.2.2, bFair K a1 z1_lasts z1_keeps z1_stalls z1_buyers z1_minute z1_goods z1_price z1_tongue z1_till z1_wealth z1_sold z1_ring z1_grudges z1_purse z1_came z1_had z1_seller z1_praise z1_borne]) (cCursor_isFine (a0 := a0) (z0_text := z0_text) (z0_size := z0_size) (z0_at := q3.2.1) (z0_fault := q3.2.2) h4) rfl rfl (Nat.le_of_ble_eq_true rfl) kCursor_isFine (List.mem_of_getElem? (i := 20) rfl) (by decide) (by decide) rfl rfl rfl rfl rfl rfl rfl dX2_readStall_26 ?_
  refine r_if_eq 40 dX2_readStall_29 (by decide) (fun c5 => ?_) (fun c5 => ?_)
  · replace h := it_pos c5 h
    have hq := Option.some.inj h
    subst hq
    exact r_vret rfl dX2_readStall_40
  · replace h := it_neg c5 h
    refine r_aload_n 4 dX2_readStall_32 rfl ?_
    refine r_iload_n 2 dX2_readStall_33 rfl ?_
    refine r_iload_n 1 dX2_readStall_34 rfl ?_
    refine r_iload 0 dX2_readStall_35 rfl ?_
    obtain ⟨q6, h6, h⟩ := bd_some h
    refine b_callVN (isC := [1]) (ci := 1)  (st := []) (bs1 := [bCursor K a0 z0_text z0_size q3.2.1 q3.2.2, bFair K a1 z1_lasts z1_keeps q6.1 z1_buyers z1_minute q6.2.1 q6.2.2.1 q6.2.2.2.1 q6.2.2.2.2.1 q6.2.2.2.2.2.1 q6.2.2.2.2.2.2.1 q6.2.2.2.2.2.2.2.1 q6.2.2.2.2.2.2.2.2 z1_purse z1_came z1_had z1_seller z1_praise z1_borne]) (cFair_addStall (a0 := a1) (z0_lasts := z1_lasts) (z0_keeps := z1_keeps) (z0_stalls := z1_stalls) (z0_buyers := z1_buyers) (z0_minute := z1_minute) (z0_goods := z1_goods) (z0_price := z1_price) (z0_tongue := z1_tongue) (z0_till := z1_till) (z0_wealth := z1_wealth) (z0_sold := z1_sold) (z0_ring := z1_ring) (z0_grudges := z1_grudges) (z0_purse := z1_purse) (z0_came := z1_came) (z0_had := z1_had) (z0_seller := z1_seller) (z0_praise := z1_praise) (z0_borne := z1_borne) h6) rfl rfl (Nat.le_of_ble_eq_true rfl) kFair_addStall (List.mem_of_getElem? (i := 21) rfl) (by decide) (by decide) rfl rfl rfl rfl rfl rfl rfl dX2_readStall_37 ?_
    have hq := Option.some.inj h
    subst hq
    exact r_vret rfl dX2_readStall_40
end
theorem dX2_readClause_0 : decode cX2_readClause 0 = .ok (.aload_n 0, 1) := by decide +kernel
theorem dX2_readClause_1 : decode cX2_readClause 1 = .ok (.invokevirtual 32, 3) := by decide +kernel
theorem dX2_readClause_4 : decode cX2_readClause 4 = .ok (.pop, 1) := by decide +kernel
theorem dX2_readClause_5 : decode cX2_readClause 5 = .ok (.aload_n 0, 1) := by decide +kernel
theorem dX2_readClause_6 : decode cX2_readClause 6 = .ok (.getfield 36, 3) := by decide +kernel
theorem dX2_readClause_9 : decode cX2_readClause 9 = .ok (.istore_n 3, 1) := by decide +kernel
theorem dX2_readClause_10 : decode cX2_readClause 10 = .ok (.aload_n 0, 1) := by decide +kernel
theorem dX2_readClause_11 : decode cX2_readClause 11 = .ok (.ldc 40, 2) := by decide +kernel
theorem dX2_readClause_13 : decode cX2_readClause 13 = .ok (.invokevirtual 42, 3) := by decide +kernel
theorem dX2_readClause_16 : decode cX2_readClause 16 = .ok (.istore 4, 2) := by decide +kernel
theorem dX2_readClause_18 : decode cX2_readClause 18 = .ok (.iload 4, 2) := by decide +kernel
theorem dX2_readClause_20 : decode cX2_readClause 20 = .ok (.iconst (-1), 1) := by decide +kernel
theorem dX2_readClause_21 : decode cX2_readClause 21 = .ok (.if_icmp .ne 12, 3) := by decide +kernel
theorem dX2_readClause_24 : decode cX2_readClause 24 = .ok (.aload_n 0, 1) := by decide +kernel
theorem dX2_readClause_25 : decode cX2_readClause 25 = .ok (.iconst 0, 1) := by decide +kernel
theorem dX2_readClause_26 : decode cX2_readClause 26 = .ok (.iload_n 3, 1) := by decide +kernel
theorem dX2_readClause_27 : decode cX2_readClause 27 = .ok (.invokevirtual 46, 3) := by decide +kernel
theorem dX2_readClause_30 : decode cX2_readClause 30 = .ok (.goto 85, 3) := by decide +kernel
theorem dX2_readClause_33 : decode cX2_readClause 33 = .ok (.aload_n 1, 1) := by decide +kernel
theorem dX2_readClause_34 : decode cX2_readClause 34 = .ok (.iload 4, 2) := by decide +kernel
theorem dX2_readClause_36 : decode cX2_readClause 36 = .ok (.iload_n 2, 1) := by decide +kernel
theorem dX2_readClause_37 : decode cX2_readClause 37 = .ok (.invokestatic 50, 3) := by decide +kernel
theorem dX2_readClause_40 : decode cX2_readClause 40 = .ok (.ifCond .ne 12, 3) := by decide +kernel
theorem dX2_readClause_43 : decode cX2_readClause 43 = .ok (.aload_n 0, 1) := by decide +kernel
theorem dX2_readClause_44 : decode cX2_readClause 44 = .ok (.iconst 4, 1) := by decide +kernel
theorem dX2_readClause_45 : decode cX2_readClause 45 = .ok (.iload_n 3, 1) := by decide +kernel
theorem dX2_readClause_46 : decode cX2_readClause 46 = .ok (.invokevirtual 46, 3) := by decide +kernel
theorem dX2_readClause_49 : decode cX2_readClause 49 = .ok (.goto 66, 3) := by decide +kernel
theorem dX2_readClause_52 : decode cX2_readClause 52 = .ok (.iload 4, 2) := by decide +kernel
theorem dX2_readClause_54 : decode cX2_readClause 54 = .ok (.ifCond .ne 28, 3) := by decide +kernel
theorem dX2_readClause_57 : decode cX2_readClause 57 = .ok (.aload_n 1, 1) := by decide +kernel
theorem dX2_readClause_58 : decode cX2_readClause 58 = .ok (.aload_n 0, 1) := by decide +kernel
theorem dX2_readClause_59 : decode cX2_readClause 59 = .ok (.iconst 1, 1) := by decide +kernel
theorem dX2_readClause_60 : decode cX2_readClause 60 = .ok (.bipush 20, 2) := by decide +kernel
theorem dX2_readClause_62 : decode cX2_readClause 62 = .ok (.invokevirtual 54, 3) := by decide +kernel
theorem dX2_readClause_65 : decode cX2_readClause 65 = .ok (.putfield 58, 3) := by decide +kernel
theorem dX2_readClause_68 : decode cX2_readClause 68 = .ok (.aload_n 1, 1) := by decide +kernel
theorem dX2_readClause_69 : decode cX2_readClause 69 = .ok (.aload_n 0, 1) := by decide +kernel
theorem dX2_readClause_70 : decode cX2_readClause 70 = .ok (.iconst 0, 1) := by decide +kernel
theorem dX2_readClause_71 : decode cX2_readClause 71 = .ok (.bipush 9, 2) := by decide +kernel
theorem dX2_readClause_73 : decode cX2_readClause 73 = .ok (.invokevirtual 54, 3) := by decide +kernel
theorem dX2_readClause_76 : decode cX2_readClause 76 = .ok (.putfield 61, 3) := by decide +kernel
theorem dX2_readClause_79 : decode cX2_readClause 79 = .ok (.goto 36, 3) := by decide +kernel
theorem dX2_readClause_82 : decode cX2_readClause 82 = .ok (.iload 4, 2) := by decide +kernel
theorem dX2_readClause_84 : decode cX2_readClause 84 = .ok (.iconst 1, 1) := by decide +kernel
theorem dX2_readClause_85 : decode cX2_readClause 85 = .ok (.if_icmp .ne 11, 3) := by decide +kernel
theorem dX2_readClause_88 : decode cX2_readClause 88 = .ok (.aload_n 0, 1) := by decide +kernel
theorem dX2_readClause_89 : decode cX2_readClause 89 = .ok (.aload_n 1, 1) := by decide +kernel
theorem dX2_readClause_90 : decode cX2_readClause 90 = .ok (.invokestatic 64, 3) := by decide +kernel
theorem dX2_readClause_93 : decode cX2_readClause 93 = .ok (.goto 22, 3) := by decide +kernel
theorem dX2_readClause_96 : decode cX2_readClause 96 = .ok (.iload 4, 2) := by decide +kernel
theorem dX2_readClause_98 : decode cX2_readClause 98 = .ok (.iconst 2, 1) := by decide +kernel
theorem dX2_readClause_99 : decode cX2_readClause 99 = .ok (.if_icmp .ne 11, 3) := by decide +kernel
theorem dX2_readClause_102 : decode cX2_readClause 102 = .ok (.aload_n 0, 1) := by decide +kernel
theorem dX2_readClause_103 : decode cX2_readClause 103 = .ok (.aload_n 1, 1) := by decide +kernel
theorem dX2_readClause_104 : decode cX2_readClause 104 = .ok (.invokestatic 68, 3) := by decide +kernel
theorem dX2_readClause_107 : decode cX2_readClause 107 = .ok (.goto 8, 3) := by decide +kernel
theorem dX2_readClause_110 : decode cX2_readClause 110 = .ok (.aload_n 0, 1) := by decide +kernel
theorem dX2_readClause_111 : decode cX2_readClause 111 = .ok (.aload_n 1, 1) := by decide +kernel
theorem dX2_readClause_112 : decode cX2_readClause 112 = .ok (.invokestatic 71, 3) := by decide +kernel
theorem dX2_readClause_115 : decode cX2_readClause 115 = .ok (.return_, 1) := by decide +kernel
abbrev MFairReader_readClause : rx_M := (RX2, yX2_readClause, cX2_readClause, 5, none, 8)
theorem kFairReader_readClause : rKs MFairReader_readClause 3 := ⟨tb_in (i := 7) (j := 0) rfl rfl, tb_in (i := 6) (j := 21) rfl rfl, tb_in (i := 6) (j := 28) rfl rfl, ⟨by decide, by decide, by decide +kernel⟩, by decide⟩
section
variable {a0 : Nat → Nat} {a1 : Nat → Nat} {z0_text : Nat → Int32} {z0_size : Int32} {z0_at : Int32} {z0_fault : Int32} {z1_lasts : Int32} {z1_keeps : Int32} {z1_stalls : Int32} {z1_buyers : Int32} {z1_minute : Int32} {z1_goods : Nat → Int32} {z1_price : Nat → Int32} {z1_tongue : Nat → Int32} {z1_till : Nat → Int32} {z1_wealth : Nat → Int32} {z1_sold : Nat → Int32} {z1_ring : Nat → Int32} {z1_grudges : Nat → Int32} {z1_purse : Nat → Int32} {z1_came : Nat → Int32} {z1_had : Nat → Int32} {z1_seller : Nat → Int32} {z1_praise : Nat → Int32} {z1_borne : Nat → Int32}
def mFairReader_readClause (x2 : Int32) (z0_text : Nat → Int32) (z0_size : Int32) (z0_at : Int32) (z0_fault : Int32) (z1_lasts : Int32) (z1_keeps : Int32) (z1_stalls : Int32) (z1_buyers : Int32) (z1_goods : Nat → Int32) (z1_price : Nat → Int32) (z1_tongue : Nat → Int32) (z1_till : Nat → Int32) (z1_wealth : Nat → Int32) (z1_sold : Nat → Int32) (z1_ring : Nat → Int32) (z1_grudges : Nat → Int32) (z1_purse : Nat → Int32) (z1_came : Nat → Int32) (z1_had : Nat → Int32) (z1_seller : Nat → Int32) (z1_praise : Nat → Int32) (z1_borne : Nat → Int32) : Option (Int32 × Int32 × Int32 × Int32 × Int32 × Int32 × (Nat → Int32) × (Nat → Int32) × (Nat → Int32) × (Nat → Int32) × (Nat → Int32) × (Nat → Int32) × (Nat → Int32) × (Nat → Int32) × (Nat → Int32) × (Nat → Int32) × (Nat → Int32) × (Nat → Int32) × (Nat → Int32) × (Nat → Int32)) := (mCursor_peek z0_text z0_size z0_at).bind (fun q1 => (mCursor_takeWord 0 z0_text z0_size q1.2).bind (fun q2 => (if q2.1 = (-1 : Int32) then (mCursor_fail (0 : Int32) q1.2 z0_fault).bind (fun q15 => some (q2.2, q15, z1_lasts, z1_keeps, z1_stalls, z1_buyers, z1_goods, z1_price, z1_tongue, z1_till, z1_wealth, z1_sold, z1_ring, z1_grudges, z1_purse, z1_came, z1_had, z1_seller, z1_praise, z1_borne)) else (mFairReader_mayStand q2.1 x2 z1_stalls z1_buyers).bind (fun q4 => (if q4 = 0 then (mCursor_fail (4 : Int32) q1.2 z0_fault).bind (fun q14 => some (q2.2, q14, z1_lasts, z1_keeps, z1_stalls, z1_buyers, z1_goods, z1_price, z1_tongue, z1_till, z1_wealth, z1_sold, z1_ring, z1_grudges, z1_purse, z1_came, z1_had, z1_seller, z1_praise, z1_borne)) else (if q2.1 = 0 then (mCursor_takeNumber (1 : Int32) (20 : Int32) z0_text z0_size q2.2 z0_fault).bind (fun q12 => (mCursor_takeNumber (0 : Int32) (9 : Int32) z0_text z0_size q12.2.1 q12.2.2).bind (fun q13 => some (q13.2.1, q13.2.2, q12.1, q13.1, z1_stalls, z1_buyers, z1_goods, z1_price, z1_tongue, z1_till, z1_wealth, z1_sold, z1_ring, z1_grudges, z1_purse, z1_came, z1_had, z1_seller, z1_praise, z1_borne))) else (if q2.1 = (1 : Int32) then (mFairReader_readStall z0_text z0_size q2.2 z0_fault z1_stalls z1_goods z1_price z1_tongue z1_till z1_wealth z1_sold z1_ring z1_grudges).bind (fun q11 => some (q11.1, q11.2.1, z1_lasts, z1_keeps, q11.2.2.1, z1_buyers, q11.2.2.2.1, q11.2.2.2.2.1, q11.2.2.2.2.2.1, q11.2.2.2.2.2.2.1, q11.2.2.2.2.2.2.2.1, q11.2.2.2.2.2.2.2.2.1, q11.2.2.2.2.2.2.2.2.2.1, q11.2.2.2.2.2.2.2.2.2.2, z1_purse, z1_came, z1_had, z1_seller, z1_praise, z1_borne)) else (if q2.1 = (2 : Int32) then (mFairReader_readGrudge z0_text z0_size q2.2 z0_fault z1_stalls z1_tongue z1_ring z1_grudges z1_seller z1_praise z1_borne).bind (fun q10 => some (q10.1, q10.2.1, z1_lasts, z1_keeps, z1_stalls, z1_buyers, z1_goods, z1_price, z1_tongue, z1_till, z1_wealth, z1_sold, z1_ring, q10.2.2.1, z1_purse, z1_came, z1_had, q10.2.2.2.1, q10.2.2.2.2.1, q10.2.2.2.2.2)) else (mFairReader_readBuyer z0_text z0_size q2.2 z0_fault z1_stalls z1_buyers z1_purse z1_came z1_had).bind (fun q9 => some (q9.1, q9.2.1, z1_lasts, z1_keeps, z1_stalls, q9.2.2.1, z1_goods, z1_price, z1_tongue, z1_till, z1_wealth, z1_sold, z1_ring, z1_grudges, q9.2.2.2.1, q9.2.2.2.2.1, q9.2.2.2.2.2, z1_seller, z1_praise, z1_borne))))))))))
set_option maxHeartbeats 4000000 in
set_option maxRecDepth 20000 in
theorem cFairReader_readClause {q : Int32 × Int32 × Int32 × Int32 × Int32 × Int32 × (Nat → Int32) × (Nat → Int32) × (Nat → Int32) × (Nat → Int32) × (Nat → Int32) × (Nat → Int32) × (Nat → Int32) × (Nat → Int32) × (Nat → Int32) × (Nat → Int32) × (Nat → Int32) × (Nat → Int32) × (Nat → Int32) × (Nat → Int32)} {x2 : Int32} (h : mFairReader_readClause x2 z0_text z0_size z0_at z0_fault z1_lasts z1_keeps z1_stalls z1_buyers z1_goods z1_price z1_tongue z1_till z1_wealth z1_sold z1_ring z1_grudges z1_purse z1_came z1_had z1_seller z1_praise z1_borne = some q) : rMet l D Z (ty7 K) MFairReader_readClause [.ref (a0 0), .ref (a1 0), .int x2] (List.flatten [bCursor K a0 z0_text z0_size z0_at z0_fault, bFair K a1 z1_lasts z1_keeps z1_stalls z1_buyers z1_minute z1_goods z1_price z1_tongue z1_till z1_wealth z1_sold z1_ring z1_grudges z1_purse z1_came z1_had z1_seller z1_praise z1_borne]) (List.flatten [bCursor K a0 z0_text z0_size q.1 q.2.1, bFair K a1 q.2.2.1 q.2.2.2.1 q.2.2.2.2.1 q.2.2.2.2.2.1 z1_minute q.2.2.2.2.2.2.1 q.2.2.2.2.2.2.2.1 q.2.2.2.2.2.2.2.2.1 q.2.2.2.2.2.2.2.2.2.1 q.2.2.2.2.2.2.2.2.2.2.1 q.2.2.2.2.2.2.2.2.2.2.2.1 q.2.2.2.2.2.2.2.2.2.2.2.2.1 q.2.2.2.2.2.2.2.2.2.2.2.2.2.1 q.2.2.2.2.2.2.2.2.2.2.2.2.2.2.1 q.2.2.2.2.2.2.2.2.2.2.2.2.2.2.2.1 q.2.2.2.2.2.2.2.2.2.2.2.2.2.2.2.2.1 q.2.2.2.2.2.2.2.2.2.2.2.2.2.2.2.2.2.1 q.2.2.2.2.2.2.2.2.2.2.2.2.2.2.2.2.2.2.1 q.2.2.2.2.2.2.2.2.2.2.2.2.2.2.2.2.2.2.2]) none := by
  refine rMet.of (by decide) rfl (Nat.le_of_ble_eq_true rfl) ?_
  refine r_sub (lv' := [(0, .ref (a0 0)), (1, .ref (a1 0)), (2, .int x2)]) [0, 1, 2] rfl ?_
  unfold mFairReader_readClause at h
  refine r_aload_n 0 dX2_readClause_0 rfl ?_
  obtain ⟨q1, h1, h⟩ := bd_some h
  refine b_callVN (isC := [0]) (ci := 0)  (st := []) (bs1 := [bCursor K a0 z0_text z0_size q1.2 z0_fault, bFair K a1 z1_lasts z1_keeps z1_stalls z1_buyers z1_minute z1_goods z1_price z1_tongue z1_till z1_wealth z1_sold z1_ring z1_grudges z1_purse z1_came z1_had z1_seller z1_praise z1_borne]) (cCursor_peek (a0 := a0) (z0_text := z0_text) (z0_size := z0_size) (z0_at := z0_at) (z0_fault := z0_fault) h1) rfl rfl (Nat.le_of_ble_eq_true rfl) kCursor_peek (List.mem_of_getElem? (i := 15) rfl) (by decide) (by decide) rfl rfl rfl rfl rfl rfl rfl dX2_readClause_1 ?_
  refine r_pop dX2_readClause_4 rfl ?_
  refine r_aload_n 0 dX2_readClause_5 rfl ?_
  refine gCursor_atN 0 rfl (List.mem_of_getElem? (i := 6) rfl) dX2_readClause_6 ?_
  refine r_istore_n (lv' := [(3, .int q1.2), (0, .ref (a0 0)), (1, .ref (a1 0)), (2, .int x2)]) dX2_readClause_9 (Nat.le_of_ble_eq_true rfl) rfl ?_
  refine r_aload_n 1 dX2_readClause_10 rfl ?_
  refine r_ldcS (tx := "fair stall grudge buyer ") (i := 0) (List.mem_of_getElem? (i := 0) rfl) dX2_readClause_11 ?_
  obtain ⟨q2, h2, h⟩ := bd_some h
  refine b_callVN (isC := [0]) (ci := 0)  (st := []) (bs1 := [bCursor K a0 z0_text z0_size q2.2 z0_fault, bFair K a1 z1_lasts z1_keeps z1_stalls z1_buyers z1_minute z1_goods z1_price z1_tongue z1_till z1_wealth z1_sold z1_ring z1_grudges z1_purse z1_came z1_had z1_seller z1_praise z1_borne]) (cCursor_takeWord (a0 := a0) (z0_text := z0_text) (z0_size := z0_size) (z0_at := q1.2) (z0_fault := z0_fault) h2) rfl rfl (Nat.le_of_ble_eq_true rfl) kCursor_takeWord (List.mem_of_getElem? (i := 16) rfl) (by decide) (by decide) rfl rfl rfl rfl rfl rfl rfl dX2_readClause_13 ?_
  refine r_istore (lv' := [(4, .int q2.1), (3, .int q1.2), (0, .ref (a0 0)), (1, .ref (a1 0)), (2, .int x2)]) dX2_readClause_16 (Nat.le_of_ble_eq_true rfl) rfl ?_
  refine r_iload 0 dX2_readClause_18 rfl ?_
  refine r_iconst (x := (-1 : Int32)) dX2_readClause_20 (by decide) ?_
  refine r_icmp_ne 33 dX2_readClause_21 (by decide) (fun c3 => ?_) (fun c3 => ?_)
  · replace h := it_neg c3 h
    refine r_aload_n 3 dX2_readClause_33 rfl ?_
    refine r_iload 0 dX2_readClause_34 rfl ?_
    refine r_iload_n 4 dX2_readClause_36 rfl ?_
    obtain ⟨q4, h4, h⟩ := bd_some h
    refine b_callS (isC := [1]) (st := []) (bs1 := [bCursor K a0 z0_text z0_size q2.2 z0_fault, bFair K a1 z1_lasts z1_keeps z1_stalls z1_buyers z1_minute z1_goods z1_price z1_tongue z1_till z1_wealth z1_sold z1_ring z1_grudges z1_purse z1_came z1_had z1_seller z1_praise z1_borne]) (cFairReader_mayStand (a0 := a1) (z0_lasts := z1_lasts) (z0_keeps := z1_keeps) (z0_stalls := z1_stalls) (z0_buyers := z1_buyers) (z0_minute := z1_minute) (z0_goods := z1_goods) (z0_price := z1_price) (z0_tongue := z1_tongue) (z0_till := z1_till) (z0_wealth := z1_wealth) (z0_sold := z1_sold) (z0_ring := z1_ring) (z0_grudges := z1_grudges) (z0_purse := z1_purse) (z0_came := z1_came) (z0_had := z1_had) (z0_seller := z1_seller) (z0_praise := z1_praise) (z0_borne := z1_borne) h4) rfl rfl (Nat.le_of_ble_eq_true rfl) kFairReader_mayStand (tb_in (i := 6) (j := 19) rfl rfl) (by decide) (by decide) rfl rfl rfl dX2_readClause_37 ?_
    refine r_if_ne 52 dX2_readClause_40 (by decide) (fun c5 => ?_) (fun c5 => ?_)
    · replace h := it_neg c5 h
      refine r_iload 0 dX2_readClause_52 rfl ?_
      refine r_if_ne 82 dX2_readClause_54 (by decide) (fun c6 => ?_) (fun c6 => ?_)
      · replace h := it_neg c6 h
        refine r_iload 0 dX2_readClause_82 rfl ?_
        refine r_iconst (x := (1 : Int32)) dX2_readClause_84 (by decide) ?_
        refine r_icmp_ne 96 dX2_readClause_85 (by decide) (fun c7 => ?_) (fun c7 => ?_)
        · replace h := it_neg c7 h
          refine r_iload 0 dX2_readClause_96 rfl ?_
          refine r_iconst (x := (2 : Int32)) dX2_readClause_98 (by decide) ?_
          refine r_icmp_ne 110 dX2_readClause_99 (by decide) (fun c8 => ?_) (fun c8 => ?_)
          · replace h := it_neg c8 h
            refine r_aload_n 2 dX2_readClause_110 rfl ?_
            refine r_aload_n 3 dX2_readClause_111 rfl ?_
            obtain ⟨q9, h9, h⟩ := bd_some h
            refine b_callS (isC := [0, 1]) (st := []) (bs1 := [bCursor K a0 z0_text z0_size q9.1 q9.2.1, bFair K a1 z1_lasts z1_keeps z1_stalls q9.2.2.1 z1_minute z1_goods z1_price z1_tongue z1_till z1_wealth z1_sold z1_ring z1_grudges q9.2.2.2.1 q9.2.2.2.2.1 q9.2.2.2.2.2 z1_seller z1_praise z1_borne]) (cFairReader_readBuyer (a0 := a0) (a1 := a1) (z0_text := z0_text) (z0_size := z0_size) (z0_at := q2.2) (z0_fault := z0_fault) (z1_lasts := z1_lasts) (z1_keeps := z1_keeps) (z1_stalls := z1_stalls) (z1_buyers := z1_buyers) (z1_minute := z1_minute) (z1_goods := z1_goods) (z1_price := z1_price) (z1_tongue := z1_tongue) (z1_till := z1_till) (z1_wealth := z1_wealth) (z1_sold := z1_sold) (z1_ring := z1_ring) (z1_grudges := z1_grudges) (z1_purse := z1_purse) (z1_came := z1_came) (z1_had := z1_had) (z1_seller := z1_seller) (z1_praise := z1_praise) (z1_borne := z1_borne) h9) rfl rfl (Nat.le_of_ble_eq_true rfl) kFairReader_readBuyer (tb_in (i := 6) (j := 26) rfl rfl) (by decide) (by decide) rfl rfl rfl dX2_readClause_112 ?_
            have hq := Option.some.inj h
            subst hq
            exact r_vret rfl dX2_readClause_115
          · replace h := it_pos c8 h
            refine r_aload_n 2 dX2_readClause_102 rfl ?_
            refine r_aload_n 3 dX2_readClause_103 rfl ?_
            obtain ⟨q10, h10, h⟩ := bd_some h
            refine b_callS (isC := [0, 1]) (st := []) (bs1 := [bCursor K a0 z0_text z0_size q10.1 q10.2.1, bFair K a1 z1_lasts z1_keeps z1_stalls z1_buyers z1_minute z1_goods z1_price z1_tongue z1_till z1_wealth z1_sold z1_ring q10.2.2.1 z1_purse z1_came z1_had q10.2.2.2.1 q10.2.2.2.2.1 q10.2.2.2.2.2]) (cFairReader_readGrudge (a0 := a0) (a1 := a1) (z0_text := z0_text) (z0_size := z0_size) (z0_at := q2.2) (z0_fault := z0_fault) (z1_lasts := z1_lasts) (z1_keeps := z1_keeps) (z1_stalls := z1_stalls) (z1_buyers := z1_buyers) (z1_minute := z1_minute) (z1_goods := z1_goods) (z1_price := z1_price) (z1_tongue := z1_tongue) (z1_till := z1_till) (z1_wealth := z1_wealth) (z1_sold := z1_sold) (z1_ring := z1_ring) (z1_grudges := z1_grudges) (z1_purse := z1_purse) (z1_came := z1_came) (z1_had := z1_had) (z1_seller := z1_seller) (z1_praise := z1_praise) (z1_borne := z1_borne) h10) rfl rfl (Nat.le_of_ble_eq_true rfl) kFairReader_readGrudge (tb_in (i := 6) (j := 24) rfl rfl) (by decide) (by decide) rfl rfl rfl dX2_readClause_104 ?_
            refine r_goto 115 dX2_readClause_107 (by decide) ?_
            have hq := Option.some.inj h
            subst hq
            exact r_vret rfl dX2_readClause_115
        · replace h := it_pos c7 h
          refine r_aload_n 2 dX2_readClause_88 rfl ?_
          refine r_aload_n 3 dX2_readClause_89 rfl ?_
          obtain ⟨q11, h11, h⟩ := bd_some h
          refine b_callS (isC := [0, 1]) (st := []) (bs1 := [bCursor K a0 z0_text z0_size q11.1 q11.2.1, bFair K a1 z1_lasts z1_keeps q11.2.2.1 z1_buyers z1_minute q11.2.2.2.1 q11.2.2.2.2.1 q11.2.2.2.2.2.1 q11.2.2.2.2.2.2.1 q11.2.2.2.2.2.2.2.1 q11.2.2.2.2.2.2.2.2.1 q11.2.2.2.2.2.2.2.2.2.1 q11.2.2.2.2.2.2.2.2.2.2 z1_purse z1_came z1_had z1_seller z1_praise z1_borne]) (cFairReader_readStall (a0 := a0) (a1 := a1) (z0_text := z0_text) (z0_size := z0_size) (z0_at := q2.2) (z0_fault := z0_fault) (z1_lasts := z1_lasts) (z1_keeps := z1_keeps) (z1_stalls := z1_stalls) (z1_buyers := z1_buyers) (z1_minute := z1_minute) (z1_goods := z1_goods) (z1_price := z1_price) (z1_tongue := z1_tongue) (z1_till := z1_till) (z1_wealth := z1_wealth) (z1_sold := z1_sold) (z1_ring := z1_ring) (z1_grudges := z1_grudges) (z1_purse := z1_purse) (z1_came := z1_came) (z1_had := z1_had) (z1_seller := z1_seller) (z1_praise := z1_praise) (z1_borne := z1_borne) h11) rfl rfl (Nat.le_of_ble_eq_true rfl) kFairReader_readStall (tb_in (i := 6) (j := 22) rfl rfl) (by decide) (by decide) rfl rfl rfl dX2_readClause_90 ?_
          refine r_goto 115 dX2_readClause_93 (by decide) ?_
          have hq := Option.some.inj h
          subst hq
          exact r_vret rfl dX2_readClause_115
      · replace h := it_pos c6 h
        refine r_aload_n 3 dX2_readClause_57 rfl ?_
        refine r_aload_n 2 dX2_readClause_58 rfl ?_
        refine r_iconst (x := (1 : Int32)) dX2_readClause_59 (by decide) ?_
        refine r_bipush (x := (20 : Int32)) dX2_readClause_60 (by decide) ?_
        obtain ⟨q12, h12, h⟩ := bd_some h
        refine b_callVN (isC := [0]) (ci := 0)  (st := [.ref (a1 0)]) (bs1 := [bCursor K a0 z0_text z0_size q12.2.1 q12.2.2, bFair K a1 z1_lasts z1_keeps z1_stalls z1_buyers z1_minute z1_goods z1_price z1_tongue z1_till z1_wealth z1_sold z1_ring z1_grudges z1_purse z1_came z1_had z1_seller z1_praise z1_borne]) (cCursor_takeNumber (a0 := a0) (z0_text := z0_text) (z0_size := z0_size) (z0_at := q2.2) (z0_fault := z0_fault) h12) rfl rfl (Nat.le_of_ble_eq_true rfl) kCursor_takeNumber (List.mem_of_getElem? (i := 18) rfl) (by decide) (by decide) rfl rfl rfl rfl rfl rfl rfl dX2_readClause_62 ?_
        refine pFair_lastsN (bs1 := [bCursor K a0 z0_text z0_size q12.2.1 q12.2.2, bFair K a1 q12.1 z1_keeps z1_stalls z1_buyers z1_minute z1_goods z1_price z1_tongue z1_till z1_wealth z1_sold z1_ring z1_grudges z1_purse z1_came z1_had z1_seller z1_praise z1_borne]) 1 rfl rfl (List.mem_of_getElem? (i := 8) rfl) dX2_readClause_65 ?_
        refine r_aload_n 3 dX2_readClause_68 rfl ?_
        refine r_aload_n 2 dX2_readClause_69 rfl ?_
        refine r_iconst (x := (0 : Int32)) dX2_readClause_70 (by decide) ?_
        refine r_bipush (x := (9 : Int32)) dX2_readClause_71 (by decide) ?_
        obtain ⟨q13, h13, h⟩ := bd_some h
        refine b_callVN (isC := [0]) (ci := 0)  (st := [.ref (a1 0)]) (bs1 := [bCursor K a0 z0_text z0_size q13.2.1 q13.2.2, bFair K a1 q12.1 z1_keeps z1_stalls z1_buyers z1_minute z1_goods z1_price z1_tongue z1_till z1_wealth z1_sold z1_ring z1_grudges z1_purse z1_came z1_had z1_seller z1_praise z1_borne]) (cCursor_takeNumber (a0 := a0) (z0_text := z0_text) (z0_size := z0_size) (z0_at := q12.2.1) (z0_fault := q12.2.2) h13) rfl rfl (Nat.le_of_ble_eq_true rfl) kCursor_takeNumber (List.mem_of_getElem? (i := 18) rfl) (by decide) (by decide) rfl rfl rfl rfl rfl rfl rfl dX2_readClause_73 ?_
        refine pFair_keepsN (bs1 := [bCursor K a0 z0_text z0_size q13.2.1 q13.2.2, bFair K a1 q12.1 q13.1 z1_stalls z1_buyers z1_minute z1_goods z1_price z1_tongue z1_till z1_wealth z1_sold z1_ring z1_grudges z1_purse z1_came z1_had z1_seller z1_praise z1_borne]) 1 rfl rfl (List.mem_of_getElem? (i := 11) rfl) dX2_readClause_76 ?_
        refine r_goto 115 dX2_readClause_79 (by decide) ?_
        have hq := Option.some.inj h
        subst hq
        exact r_vret rfl dX2_readClause_115
    · replace h := it_pos c5 h
      refine r_aload_n 2 dX2_readClause_43 rfl ?_
      refine r_iconst (x := (4 : Int32)) dX2_readClause_44 (by decide) ?_
      refine r_iload_n 1 dX2_readClause_45 rfl ?_
      obtain ⟨q14, h14, h⟩ := bd_some h
      refine b_callVN (isC := [0]) (ci := 0)  (st := []) (bs1 := [bCursor K a0 z0_text z0_size q2.2 q14, bFair K a1 z1_lasts z1_keeps z1_stalls z1_buyers z1_minute z1_goods z1_price z1_tongue z1_till z1_wealth z1_sold z1_ring z1_grudges z1_purse z1_came z1_had z1_seller z1_praise z1_borne]) (cCursor_fail (a0 := a0) (z0_text := z0_text) (z0_size := z0_size) (z0_at := q2.2) (z0_fault := z0_fault) h14) rfl rfl (Nat.le_of_ble_eq_true rfl) kCursor_fail (List.mem_of_getElem? (i := 17) rfl) (by decide) (by decide) rfl rfl rfl rfl rfl rfl rfl dX2_readClause_46 ?_
      refine r_goto 115 dX2_readClause_49 (by decide) ?_
      have hq := Option.some.inj h
      subst hq
      exact r_vret rfl dX2_readClause_115
  · replace h := it_pos c3 h
    refine r_aload_n 2 dX2_readClause_24 rfl ?_
    refine r_iconst (x := (0 : Int32)) dX2_readClause_25 (by decide) ?_
    refine r_iload_n 1 dX2_readClause_26 rfl ?_
    obtain ⟨q15, h15, h⟩ := bd_some h
    refine b_callVN (isC := [0]) (ci := 0)  (st := []) (bs1 := [bCursor K a0 z0_text z0_size q2.2 q15, bFair K a1 z1_lasts z1_keeps z1_stalls z1_buyers z1_minute z1_goods z1_price z1_tongue z1_till z1_wealth z1_sold z1_ring z1_grudges z1_purse z1_came z1_had z1_seller z1_praise z1_borne]) (cCursor_fail (a0 := a0) (z0_text := z0_text) (z0_size := z0_size) (z0_at := q2.2) (z0_fault := z0_fault) h15) rfl rfl (Nat.le_of_ble_eq_true rfl) kCursor_fail (List.mem_of_getElem? (i := 17) rfl) (by decide) (by decide) rfl rfl rfl rfl rfl rfl rfl dX2_readClause_27 ?_
    refine r_goto 115 dX2_readClause_30 (by decide) ?_
    have hq := Option.some.inj h
    subst hq
    exact r_vret rfl dX2_readClause_115
end
theorem dX2_read_0 : decode cX2_read 0 = .ok (.aload_n 1, 1) := by decide +kernel
theorem dX2_read_1 : decode cX2_read 1 = .ok (.invokevirtual 9, 3) := by decide +kernel
theorem dX2_read_4 : decode cX2_read 4 = .ok (.iconst 1, 1) := by decide +kernel
theorem dX2_read_5 : decode cX2_read 5 = .ok (.istore_n 2, 1) := by decide +kernel
theorem dX2_read_6 : decode cX2_read 6 = .ok (.iconst 0, 1) := by decide +kernel
theorem dX2_read_7 : decode cX2_read 7 = .ok (.istore_n 3, 1) := by decide +kernel
theorem dX2_read_8 : decode cX2_read 8 = .ok (.iload_n 3, 1) := by decide +kernel
theorem dX2_read_9 : decode cX2_read 9 = .ok (.bipush 40, 2) := by decide +kernel
theorem dX2_read_11 : decode cX2_read 11 = .ok (.if_icmp .gt 39, 3) := by decide +kernel
theorem dX2_read_14 : decode cX2_read 14 = .ok (.iload_n 2, 1) := by decide +kernel
theorem dX2_read_15 : decode cX2_read 15 = .ok (.ifCond .eq 35, 3) := by decide +kernel
theorem dX2_read_18 : decode cX2_read 18 = .ok (.aload_n 0, 1) := by decide +kernel
theorem dX2_read_19 : decode cX2_read 19 = .ok (.aload_n 1, 1) := by decide +kernel
theorem dX2_read_20 : decode cX2_read 20 = .ok (.iload_n 3, 1) := by decide +kernel
theorem dX2_read_21 : decode cX2_read 21 = .ok (.invokestatic 16, 3) := by decide +kernel
theorem dX2_read_24 : decode cX2_read 24 = .ok (.aload_n 0, 1) := by decide +kernel
theorem dX2_read_25 : decode cX2_read 25 = .ok (.invokevirtual 20, 3) := by decide +kernel
theorem dX2_read_28 : decode cX2_read 28 = .ok (.ifCond .eq 14, 3) := by decide +kernel
theorem dX2_read_31 : decode cX2_read 31 = .ok (.aload_n 0, 1) := by decide +kernel
theorem dX2_read_32 : decode cX2_read 32 = .ok (.invokevirtual 26, 3) := by decide +kernel
theorem dX2_read_35 : decode cX2_read 35 = .ok (.ifCond .eq 7, 3) := by decide +kernel
theorem dX2_read_38 : decode cX2_read 38 = .ok (.iconst 1, 1) := by decide +kernel
theorem dX2_read_39 : decode cX2_read 39 = .ok (.goto 4, 3) := by decide +kernel
theorem dX2_read_42 : decode cX2_read 42 = .ok (.iconst 0, 1) := by decide +kernel
theorem dX2_read_43 : decode cX2_read 43 = .ok (.istore_n 2, 1) := by decide +kernel
theorem dX2_read_44 : decode cX2_read 44 = .ok (.iinc 3 1, 3) := by decide +kernel
theorem dX2_read_47 : decode cX2_read 47 = .ok (.goto (-39), 3) := by decide +kernel
theorem dX2_read_50 : decode cX2_read 50 = .ok (.aload_n 1, 1) := by decide +kernel
theorem dX2_read_51 : decode cX2_read 51 = .ok (.invokevirtual 29, 3) := by decide +kernel
theorem dX2_read_54 : decode cX2_read 54 = .ok (.return_, 1) := by decide +kernel
abbrev MFairReader_read : rx_M := (RX2, yX2_read, cX2_read, 4, none, 9)
theorem kFairReader_read : rKs MFairReader_read 2 := ⟨tb_in (i := 13) (j := 20) rfl rfl, tb_in (i := 6) (j := 21) rfl rfl, tb_in (i := 7) (j := 3) rfl rfl, ⟨by decide, by decide, by decide +kernel⟩, by decide⟩
section
variable {a0 : Nat → Nat} {a1 : Nat → Nat} {z0_text : Nat → Int32} {z0_size : Int32} {z0_at : Int32} {z0_fault : Int32} {z1_lasts : Int32} {z1_keeps : Int32} {z1_stalls : Int32} {z1_buyers : Int32} {z1_minute : Int32} {z1_goods : Nat → Int32} {z1_price : Nat → Int32} {z1_tongue : Nat → Int32} {z1_till : Nat → Int32} {z1_wealth : Nat → Int32} {z1_sold : Nat → Int32} {z1_ring : Nat → Int32} {z1_grudges : Nat → Int32} {z1_purse : Nat → Int32} {z1_came : Nat → Int32} {z1_had : Nat → Int32} {z1_seller : Nat → Int32} {z1_praise : Nat → Int32} {z1_borne : Nat → Int32}
def mFairReader_read_l8 (z0_text : Nat → Int32) (z0_size : Int32) (z1_minute : Int32) : Nat → Int32 → Int32 → Int32 → Int32 → Int32 → Int32 → Int32 → Int32 → (Nat → Int32) → (Nat → Int32) → (Nat → Int32) → (Nat → Int32) → (Nat → Int32) → (Nat → Int32) → (Nat → Int32) → (Nat → Int32) → (Nat → Int32) → (Nat → Int32) → (Nat → Int32) → (Nat → Int32) → (Nat → Int32) → (Nat → Int32) → Option (Int32 × Int32 × Int32 × Int32 × Int32 × Int32 × Int32 × (Nat → Int32) × (Nat → Int32) × (Nat → Int32) × (Nat → Int32) × (Nat → Int32) × (Nat → Int32) × (Nat → Int32) × (Nat → Int32) × (Nat → Int32) × (Nat → Int32) × (Nat → Int32) × (Nat → Int32) × (Nat → Int32) × (Nat → Int32))
  | 0, _, _, _, _, _, _, _, _, _, _, _, _, _, _, _, _, _, _, _, _, _, _ => none
  | n + 1, x2, x3, z0_at, z0_fault, z1_lasts, z1_keeps, z1_stalls, z1_buyers, z1_goods, z1_price, z1_tongue, z1_till, z1_wealth, z1_sold, z1_ring, z1_grudges, z1_purse, z1_came, z1_had, z1_seller, z1_praise, z1_borne => (if (40 : Int32) < x3 then (mFair_arrange z1_stalls z1_tongue z1_ring z1_grudges z1_seller z1_praise z1_borne).bind (fun q3 => some (z0_at, z0_fault, z1_lasts, z1_keeps, z1_stalls, z1_buyers, z1_minute, z1_goods, z1_price, z1_tongue, z1_till, z1_wealth, z1_sold, z1_ring, z1_grudges, z1_purse, z1_came, z1_had, q3.1, q3.2.1, q3.2.2)) else (if x2 = 0 then (mFair_arrange z1_stalls z1_tongue z1_ring z1_grudges z1_seller z1_praise z1_borne).bind (fun q5 => some (z0_at, z0_fault, z1_lasts, z1_keeps, z1_stalls, z1_buyers, z1_minute, z1_goods, z1_price, z1_tongue, z1_till, z1_wealth, z1_sold, z1_ring, z1_grudges, z1_purse, z1_came, z1_had, q5.1, q5.2.1, q5.2.2)) else (mFairReader_readClause x3 z0_text z0_size z0_at z0_fault z1_lasts z1_keeps z1_stalls z1_buyers z1_goods z1_price z1_tongue z1_till z1_wealth z1_sold z1_ring z1_grudges z1_purse z1_came z1_had z1_seller z1_praise z1_borne).bind (fun q6 => (mCursor_isFine q6.2.1).bind (fun q7 => (if q7 = 0 then mFairReader_read_l8 z0_text z0_size z1_minute n (0 : Int32) (x3 + (1 : Int32)) q6.1 q6.2.1 q6.2.2.1 q6.2.2.2.1 q6.2.2.2.2.1 q6.2.2.2.2.2.1 q6.2.2.2.2.2.2.1 q6.2.2.2.2.2.2.2.1 q6.2.2.2.2.2.2.2.2.1 q6.2.2.2.2.2.2.2.2.2.1 q6.2.2.2.2.2.2.2.2.2.2.1 q6.2.2.2.2.2.2.2.2.2.2.2.1 q6.2.2.2.2.2.2.2.2.2.2.2.2.1 q6.2.2.2.2.2.2.2.2.2.2.2.2.2.1 q6.2.2.2.2.2.2.2.2.2.2.2.2.2.2.1 q6.2.2.2.2.2.2.2.2.2.2.2.2.2.2.2.1 q6.2.2.2.2.2.2.2.2.2.2.2.2.2.2.2.2.1 q6.2.2.2.2.2.2.2.2.2.2.2.2.2.2.2.2.2.1 q6.2.2.2.2.2.2.2.2.2.2.2.2.2.2.2.2.2.2.1 q6.2.2.2.2.2.2.2.2.2.2.2.2.2.2.2.2.2.2.2 else (mCursor_takeNextClause z0_text z0_size q6.1 q6.2.1).bind (fun q9 => (if q9.1 = 0 then mFairReader_read_l8 z0_text z0_size z1_minute n (0 : Int32) (x3 + (1 : Int32)) q9.2.1 q9.2.2 q6.2.2.1 q6.2.2.2.1 q6.2.2.2.2.1 q6.2.2.2.2.2.1 q6.2.2.2.2.2.2.1 q6.2.2.2.2.2.2.2.1 q6.2.2.2.2.2.2.2.2.1 q6.2.2.2.2.2.2.2.2.2.1 q6.2.2.2.2.2.2.2.2.2.2.1 q6.2.2.2.2.2.2.2.2.2.2.2.1 q6.2.2.2.2.2.2.2.2.2.2.2.2.1 q6.2.2.2.2.2.2.2.2.2.2.2.2.2.1 q6.2.2.2.2.2.2.2.2.2.2.2.2.2.2.1 q6.2.2.2.2.2.2.2.2.2.2.2.2.2.2.2.1 q6.2.2.2.2.2.2.2.2.2.2.2.2.2.2.2.2.1 q6.2.2.2.2.2.2.2.2.2.2.2.2.2.2.2.2.2.1 q6.2.2.2.2.2.2.2.2.2.2.2.2.2.2.2.2.2.2.1 q6.2.2.2.2.2.2.2.2.2.2.2.2.2.2.2.2.2.2.2 else mFairReader_read_l8 z0_text z0_size z1_minute n (1 : Int32) (x3 + (1 : Int32)) q9.2.1 q9.2.2 q6.2.2.1 q6.2.2.2.1 q6.2.2.2.2.1 q6.2.2.2.2.2.1 q6.2.2.2.2.2.2.1 q6.2.2.2.2.2.2.2.1 q6.2.2.2.2.2.2.2.2.1 q6.2.2.2.2.2.2.2.2.2.1 q6.2.2.2.2.2.2.2.2.2.2.1 q6.2.2.2.2.2.2.2.2.2.2.2.1 q6.2.2.2.2.2.2.2.2.2.2.2.2.1 q6.2.2.2.2.2.2.2.2.2.2.2.2.2.1 q6.2.2.2.2.2.2.2.2.2.2.2.2.2.2.1 q6.2.2.2.2.2.2.2.2.2.2.2.2.2.2.2.1 q6.2.2.2.2.2.2.2.2.2.2.2.2.2.2.2.2.1 q6.2.2.2.2.2.2.2.2.2.2.2.2.2.2.2.2.2.1 q6.2.2.2.2.2.2.2.2.2.2.2.2.2.2.2.2.2.2.1 q6.2.2.2.2.2.2.2.2.2.2.2.2.2.2.2.2.2.2.2)))))))
set_option maxHeartbeats 4000000 in
set_option maxRecDepth 20000 in
theorem cFairReader_read_l8 {q : Int32 × Int32 × Int32 × Int32 × Int32 × Int32 × Int32 × (Nat → Int32) × (Nat → Int32) × (Nat → Int32) × (Nat → Int32) × (Nat → Int32) × (Nat → Int32) × (Nat → Int32) × (Nat → Int32) × (Nat → Int32) × (Nat → Int32) × (Nat → Int32) × (Nat → Int32) × (Nat → Int32) × (Nat → Int32)}   : ∀ (n : Nat) (x2 : Int32) (x3 : Int32) (z0_at : Int32) (z0_fault : Int32) (z1_lasts : Int32) (z1_keeps : Int32) (z1_stalls : Int32) (z1_buyers : Int32) (z1_goods : Nat → Int32) (z1_price : Nat → Int32) (z1_tongue : Nat → Int32) (z1_till : Nat → Int32) (z1_wealth : Nat → Int32) (z1_sold : Nat → Int32) (z1_ring : Nat → Int32) (z1_grudges : Nat → Int32) (z1_purse : Nat → Int32) (z1_came : Nat → Int32) (z1_had : Nat → Int32) (z1_seller : Nat → Int32) (z1_praise : Nat → Int32) (z1_borne : Nat → Int32), mFairReader_read_l8 z0_text z0_size z1_minute n x2 x3 z0_at z0_fault z1_lasts z1_keeps z1_stalls z1_buyers z1_goods z1_price z1_tongue z1_till z1_wealth z1_sold z1_ring z1_grudges z1_purse z1_came z1_had z1_seller z1_praise z1_borne = some q → rW l D Z (ty7 K) MFairReader_read 8 [(0, .ref (a0 0)), (1, .ref (a1 0)), (2, .int x2), (3, .int x3)] [] (List.flatten [bCursor K a0 z0_text z0_size z0_at z0_fault, bFair K a1 z1_lasts z1_keeps z1_stalls z1_buyers z1_minute z1_goods z1_price z1_tongue z1_till z1_wealth z1_sold z1_ring z1_grudges z1_purse z1_came z1_had z1_seller z1_praise z1_borne]) (List.flatten [bCursor K a0 z0_text z0_size q.1 q.2.1, bFairG K a1 q.2.2]) none := by
  intro n
  induction n with
  | zero => intro x2 x3 z0_at z0_fault z1_lasts z1_keeps z1_stalls z1_buyers z1_goods z1_price z1_tongue z1_till z1_wealth z1_sold z1_ring z1_grudges z1_purse z1_came z1_had z1_seller z1_praise z1_borne h; unfold mFairReader_read_l8 at h; cases h
  | succ n ih =>
    intro x2 x3 z0_at z0_fault z1_lasts z1_keeps z1_stalls z1_buyers z1_goods z1_price z1_tongue z1_till z1_wealth z1_sold z1_ring z1_grudges z1_purse z1_came z1_had z1_seller z1_praise z1_borne h
    unfold mFairReader_read_l8 at h
    refine r_iload_n 3 dX2_read_8 rfl ?_
    refine r_bipush (x := (40 : Int32)) dX2_read_9 (by decide) ?_
    refine r_icmp_gt 50 dX2_read_11 (by decide) (fun c2 => ?_) (fun c2 => ?_)
    · replace h := it_pos c2 h
      refine r_aload_n 1 dX2_read_50 rfl ?_
      obtain ⟨q3, h3, h⟩ := bd_some h
      refine b_callVN (isC := [1]) (ci := 1)  (st := []) (bs1 := [bCursor K a0 z0_text z0_size z0_at z0_fault, bFair K a1 z1_lasts z1_keeps z1_stalls z1_buyers z1_minute z1_goods z1_price z1_tongue z1_till z1_wealth z1_sold z1_ring z1_grudges z1_purse z1_came z1_had q3.1 q3.2.1 q3.2.2]) (cFair_arrange (a0 := a1) (z0_lasts := z1_lasts) (z0_keeps := z1_keeps) (z0_stalls := z1_stalls) (z0_buyers := z1_buyers) (z0_minute := z1_minute) (z0_goods := z1_goods) (z0_price := z1_price) (z0_tongue := z1_tongue) (z0_till := z1_till) (z0_wealth := z1_wealth) (z0_sold := z1_sold) (z0_ring := z1_ring) (z0_grudges := z1_grudges) (z0_purse := z1_purse) (z0_came := z1_came) (z0_had := z1_had) (z0_seller := z1_seller) (z0_praise := z1_praise) (z0_borne := z1_borne) h3) rfl rfl (Nat.le_of_ble_eq_true rfl) kFair_arrange (List.mem_of_getElem? (i := 26) rfl) (by decide) (by decide) rfl rfl rfl rfl rfl rfl rfl dX2_read_51 ?_
      have hq := Option.some.inj h
      subst hq
      exact r_vret rfl dX2_read_54
    · replace h := it_neg c2 h
      refine r_iload_n 2 dX2_read_14 rfl ?_
      refine r_if_eq 50 dX2_read_15 (by decide) (fun c4 => ?_) (fun c4 => ?_)
      · replace h := it_pos c4 h
        refine r_aload_n 1 dX2_read_50 rfl ?_
        obtain ⟨q5, h5, h⟩ := bd_some h
        refine b_callVN (isC := [1]) (ci := 1)  (st := []) (bs1 := [bCursor K a0 z0_text z0_size z0_at z0_fault, bFair K a1 z1_lasts z1_keeps z1_stalls z1_buyers z1_minute z1_goods z1_price z1_tongue z1_till z1_wealth z1_sold z1_ring z1_grudges z1_purse z1_came z1_had q5.1 q5.2.1 q5.2.2]) (cFair_arrange (a0 := a1) (z0_lasts := z1_lasts) (z0_keeps := z1_keeps) (z0_stalls := z1_stalls) (z0_buyers := z1_buyers) (z0_minute := z1_minute) (z0_goods := z1_goods) (z0_price := z1_price) (z0_tongue := z1_tongue) (z0_till := z1_till) (z0_wealth := z1_wealth) (z0_sold := z1_sold) (z0_ring := z1_ring) (z0_grudges := z1_grudges) (z0_purse := z1_purse) (z0_came := z1_came) (z0_had := z1_had) (z0_seller := z1_seller) (z0_praise := z1_praise) (z0_borne := z1_borne) h5) rfl rfl (Nat.le_of_ble_eq_true rfl) kFair_arrange (List.mem_of_getElem? (i := 26) rfl) (by decide) (by decide) rfl rfl rfl rfl rfl rfl rfl dX2_read_51 ?_
        have hq := Option.some.inj h
        subst hq
        exact r_vret rfl dX2_read_54
      · replace h := it_neg c4 h
        refine r_aload_n 0 dX2_read_18 rfl ?_
        refine r_aload_n 1 dX2_read_19 rfl ?_
        refine r_iload_n 3 dX2_read_20 rfl ?_
        obtain ⟨q6, h6, h⟩ := bd_some h
        refine b_callS (isC := [0, 1]) (st := []) (bs1 := [bCursor K a0 z0_text z0_size q6.1 q6.2.1, bFair K a1 q6.2.2.1 q6.2.2.2.1 q6.2.2.2.2.1 q6.2.2.2.2.2.1 z1_minute q6.2.2.2.2.2.2.1 q6.2.2.2.2.2.2.2.1 q6.2.2.2.2.2.2.2.2.1 q6.2.2.2.2.2.2.2.2.2.1 q6.2.2.2.2.2.2.2.2.2.2.1 q6.2.2.2.2.2.2.2.2.2.2.2.1 q6.2.2.2.2.2.2.2.2.2.2.2.2.1 q6.2.2.2.2.2.2.2.2.2.2.2.2.2.1 q6.2.2.2.2.2.2.2.2.2.2.2.2.2.2.1 q6.2.2.2.2.2.2.2.2.2.2.2.2.2.2.2.1 q6.2.2.2.2.2.2.2.2.2.2.2.2.2.2.2.2.1 q6.2.2.2.2.2.2.2.2.2.2.2.2.2.2.2.2.2.1 q6.2.2.2.2.2.2.2.2.2.2.2.2.2.2.2.2.2.2.1 q6.2.2.2.2.2.2.2.2.2.2.2.2.2.2.2.2.2.2.2]) (cFairReader_readClause (a0 := a0) (a1 := a1) (z0_text := z0_text) (z0_size := z0_size) (z0_at := z0_at) (z0_fault := z0_fault) (z1_lasts := z1_lasts) (z1_keeps := z1_keeps) (z1_stalls := z1_stalls) (z1_buyers := z1_buyers) (z1_minute := z1_minute) (z1_goods := z1_goods) (z1_price := z1_price) (z1_tongue := z1_tongue) (z1_till := z1_till) (z1_wealth := z1_wealth) (z1_sold := z1_sold) (z1_ring := z1_ring) (z1_grudges := z1_grudges) (z1_purse := z1_purse) (z1_came := z1_came) (z1_had := z1_had) (z1_seller := z1_seller) (z1_praise := z1_praise) (z1_borne := z1_borne) h6) rfl rfl (Nat.le_of_ble_eq_true rfl) kFairReader_readClause (tb_in (i := 6) (j := 31) rfl rfl) (by decide) (by decide) rfl rfl rfl dX2_read_21 ?_
        refine r_aload_n 0 dX2_read_24 rfl ?_
        obtain ⟨q7, h7, h⟩ := bd_some h
        refine b_callVN (isC := [0]) (ci := 0)  (st := []) (bs1 := [bCursor K a0 z0_text z0_size q6.1 q6.2.1, bFair K a1 q6.2.2.1 q6.2.2.2.1 q6.2.2.2.2.1 q6.2.2.2.2.2.1 z1_minute q6.2.2.2.2.2.2.1 q6.2.2.2.2.2.2.2.1 q6.2.2.2.2.2.2.2.2.1 q6.2.2.2.2.2.2.2.2.2.1 q6.2.2.2.2.2.2.2.2.2.2.1 q6.2.2.2.2.2.2.2.2.2.2.2.1 q6.2.2.2.2.2.2.2.2.2.2.2.2.1 q6.2.2.2.2.2.2.2.2.2.2.2.2.2.1 q6.2.2.2.2.2.2.2.2.2.2.2.2.2.2.1 q6.2.2.2.2.2.2.2.2.2.2.2.2.2.2.2.1 q6.2.2.2.2.2.2.2.2.2.2.2.2.2.2.2.2.1 q6.2.2.2.2.2.2.2.2.2.2.2.2.2.2.2.2.2.1 q6.2.2.2.2.2.2.2.2.2.2.2.2.2.2.2.2.2.2.1 q6.2.2.2.2.2.2.2.2.2.2.2.2.2.2.2.2.2.2.2]) (cCursor_isFine (a0 := a0) (z0_text := z0_text) (z0_size := z0_size) (z0_at := q6.1) (z0_fault := q6.2.1) h7) rfl rfl (Nat.le_of_ble_eq_true rfl) kCursor_isFine (List.mem_of_getElem? (i := 20) rfl) (by decide) (by decide) rfl rfl rfl rfl rfl rfl rfl dX2_read_25 ?_
        refine r_if_eq 42 dX2_read_28 (by decide) (fun c8 => ?_) (fun c8 => ?_)
        · replace h := it_pos c8 h
          refine r_iconst (x := (0 : Int32)) dX2_read_42 (by decide) ?_
          refine r_istore_n (lv' := [(2, .int (0 : Int32)), (0, .ref (a0 0)), (1, .ref (a1 0)), (3, .int x3)]) dX2_read_43 (Nat.le_of_ble_eq_true rfl) rfl ?_
          refine r_iinc (y := (x3 + (1 : Int32))) (lv' := [(3, .int (x3 + (1 : Int32))), (2, .int (0 : Int32)), (0, .ref (a0 0)), (1, .ref (a1 0))]) 3 dX2_read_44 rfl rfl (Nat.le_of_ble_eq_true rfl) rfl ?_
          refine r_goto 8 dX2_read_47 (by decide) ?_
          refine r_sub (lv' := [(0, .ref (a0 0)), (1, .ref (a1 0)), (2, .int (0 : Int32)), (3, .int (x3 + (1 : Int32)))]) [2, 3, 1, 0] rfl ?_
          exact ih (0 : Int32) (x3 + (1 : Int32)) q6.1 q6.2.1 q6.2.2.1 q6.2.2.2.1 q6.2.2.2.2.1 q6.2.2.2.2.2.1 q6.2.2.2.2.2.2.1 q6.2.2.2.2.2.2.2.1 q6.2.2.2.2.2.2.2.2.1 q6.2.2.2.2.2.2.2.2.2.1 q6.2.2.2.2.2.2.2.2.2.2.1 q6.2.2.2.2.2.2.2.2.2.2.2.1 q6.2.2.2.2.2.2.2.2.2.2.2.2.1 q6.2.2.2.2.2.2.2.2.2.2.2.2.2.1 q6.2.2.2.2.2.2.2.2.2.2.2.2.2.2.1 q6.2.2.2.2.2.2.2.2.2.2.2.2.2.2.2.1 q6.2.2.2.2.2.2.2.2.2.2.2.2.2.2.2.2.1 q6.2.2.2.2.2.2.2.2.2.2.2.2.2.2.2.2.2.1 q6.2.2.2.2.2.2.2.2.2.2.2.2.2.2.2.2.2.2.1 q6.2.2.2.2.2.2.2.2.2.2.2.2.2.2.2.2.2.2.2 h
        · replace h := it_neg c8 h
          refine r_aload_n 0 dX2_read_31 rfl ?_
          obtain ⟨q9, h9, h⟩ := bd_some h
          refine b_callVN (isC := [0]) (ci := 0)  (st := []) (bs1 := [bCursor K a0 z0_text z0_size q9.2.1 q9.2.2, bFair K a1 q6.2.2.1 q6.2.2.2.1 q6.2.2.2.2.1 q6.2.2.2.2.2.1 z1_minute q6.2.2.2.2.2.2.1 q6.2.2.2.2.2.2.2.1 q6.2.2.2.2.2.2.2.2.1 q6.2.2.2.2.2.2.2.2.2.1 q6.2.2.2.2.2.2.2.2.2.2.1 q6.2.2.2.2.2.2.2.2.2.2.2.1 q6.2.2.2.2.2.2.2.2.2.2.2.2.1 q6.2.2.2.2.2.2.2.2.2.2.2.2.2.1 q6.2.2.2.2.2.2.2.2.2.2.2.2.2.2.1 q6.2.2.2.2.2.2.2.2.2.2.2.2.2.2.2.1 q6.2.2.2.2.2.2.2.2.2.2.2.2.2.2.2.2.1 q6.2.2.2.2.2.2.2.2.2.2.2.2.2.2.2.2.2.1 q6.2.2.2.2.2.2.2.2.2.2.2.2.2.2.2.2.2.2.1 q6.2.2.2.2.2.2.2.2.2.2.2.2.2.2.2.2.2.2.2]) (cCursor_takeNextClause (a0 := a0) (z0_text := z0_text) (z0_size := z0_size) (z0_at := q6.1) (z0_fault := q6.2.1) h9) rfl rfl (Nat.le_of_ble_eq_true rfl) kCursor_takeNextClause (List.mem_of_getElem? (i := 25) rfl) (by decide) (by decide) rfl rfl rfl rfl rfl rfl rfl dX2_read_32 ?_
          refine r_if_eq 42 dX2_read_35 (by decide) (fun c10 => ?_) (fun c10 => ?_)
          · replace h := it_pos c10 h
            refine r_iconst (x := (0 : Int32)) dX2_read_42 (by decide) ?_
            refine r_istore_n (lv' := [(2, .int (0 : Int32)), (0, .ref (a0 0)), (1, .ref (a1 0)), (3, .int x3)]) dX2_read_43 (Nat.le_of_ble_eq_true rfl) rfl ?_
            refine r_iinc (y := (x3 + (1 : Int32))) (lv' := [(3, .int (x3 + (1 : Int32))), (2, .int (0 : Int32)), (0, .ref (a0 0)), (1, .ref (a1 0))]) 3 dX2_read_44 rfl rfl (Nat.le_of_ble_eq_true rfl) rfl ?_
            refine r_goto 8 dX2_read_47 (by decide) ?_
            refine r_sub (lv' := [(0, .ref (a0 0)), (1, .ref (a1 0)), (2, .int (0 : Int32)), (3, .int (x3 + (1 : Int32)))]) [2, 3, 1, 0] rfl ?_
            exact ih (0 : Int32) (x3 + (1 : Int32)) q9.2.1 q9.2.2 q6.2.2.1 q6.2.2.2.1 q6.2.2.2.2.1 q6.2.2.2.2.2.1 q6.2.2.2.2.2.2.1 q6.2.2.2.2.2.2.2.1 q6.2.2.2.2.2.2.2.2.1 q6.2.2.2.2.2.2.2.2.2.1 q6.2.2.2.2.2.2.2.2.2.2.1 q6.2.2.2.2.2.2.2.2.2.2.2.1 q6.2.2.2.2.2.2.2.2.2.2.2.2.1 q6.2.2.2.2.2.2.2.2.2.2.2.2.2.1 q6.2.2.2.2.2.2.2.2.2.2.2.2.2.2.1 q6.2.2.2.2.2.2.2.2.2.2.2.2.2.2.2.1 q6.2.2.2.2.2.2.2.2.2.2.2.2.2.2.2.2.1 q6.2.2.2.2.2.2.2.2.2.2.2.2.2.2.2.2.2.1 q6.2.2.2.2.2.2.2.2.2.2.2.2.2.2.2.2.2.2.1 q6.2.2.2.2.2.2.2.2.2.2.2.2.2.2.2.2.2.2.2 h
          · replace h := it_neg c10 h
            refine r_iconst (x := (1 : Int32)) dX2_read_38 (by decide) ?_
            refine r_goto 43 dX2_read_39 (by decide) ?_
            refine r_istore_n (lv' := [(2, .int (1 : Int32)), (0, .ref (a0 0)), (1, .ref (a1 0)), (3, .int x3)]) dX2_read_43 (Nat.le_of_ble_eq_true rfl) rfl ?_
            refine r_iinc (y := (x3 + (1 : Int32))) (lv' := [(3, .int (x3 + (1 : Int32))), (2, .int (1 : Int32)), (0, .ref (a0 0)), (1, .ref (a1 0))]) 3 dX2_read_44 rfl rfl (Nat.le_of_ble_eq_true rfl) rfl ?_
            refine r_goto 8 dX2_read_47 (by decide) ?_
            refine r_sub (lv' := [(0, .ref (a0 0)), (1, .ref (a1 0)), (2, .int (1 : Int32)), (3, .int (x3 + (1 : Int32)))]) [2, 3, 1, 0] rfl ?_
            exact ih (1 : Int32) (x3 + (1 : Int32)) q9.2.1 q9.2.2 q6.2.2.1 q6.2.2.2.1 q6.2.2.2.2.1 q6.2.2.2.2.2.1 q6.2.2.2.2.2.2.1 q6.2.2.2.2.2.2.2.1 q6.2.2.2.2.2.2.2.2.1 q6.2.2.2.2.2.2.2.2.2.1 q6.2.2.2.2.2.2.2.2.2.2.1 q6.2.2.2.2.2.2.2.2.2.2.2.1 q6.2.2.2.2.2.2.2.2.2.2.2.2.1 q6.2.2.2.2.2.2.2.2.2.2.2.2.2.1 q6.2.2.2.2.2.2.2.2.2.2.2.2.2.2.1 q6.2.2.2.2.2.2.2.2.2.2.2.2.2.2.2.1 q6.2.2.2.2.2.2.2.2.2.2.2.2.2.2.2.2.1 q6.2.2.2.2.2.2.2.2.2.2.2.2.2.2.2.2.2.1 q6.2.2.2.2.2.2.2.2.2.2.2.2.2.2.2.2.2.2.1 q6.2.2.2.2.2.2.2.2.2.2.2.2.2.2.2.2.2.2.2 h
def mFairReader_read (z0_text : Nat → Int32) (z0_size : Int32) (z0_at : Int32) (z0_fault : Int32) (z1_lasts : Int32) (z1_keeps : Int32) (z1_stalls : Int32) (z1_buyers : Int32) (z1_minute : Int32) (z1_goods : Nat → Int32) (z1_price : Nat → Int32) (z1_tongue : Nat → Int32) (z1_till : Nat → Int32) (z1_wealth : Nat → Int32) (z1_sold : Nat → Int32) (z1_ring : Nat → Int32) (z1_grudges : Nat → Int32) (z1_purse : Nat → Int32) (z1_came : Nat → Int32) (z1_had : Nat → Int32) (z1_seller : Nat → Int32) (z1_praise : Nat → Int32) (z1_borne : Nat → Int32) : Option (Int32 × Int32 × Int32 × Int32 × Int32 × Int32 × Int32 × (Nat → Int32) × (Nat → Int32) × (Nat → Int32) × (Nat → Int32) × (Nat → Int32) × (Nat → Int32) × (Nat → Int32) × (Nat → Int32) × (Nat → Int32) × (Nat → Int32) × (Nat → Int32) × (Nat → Int32) × (Nat → Int32) × (Nat → Int32)) := (mFair_clear z1_lasts z1_keeps z1_stalls z1_buyers z1_minute).bind (fun q1 => mFairReader_read_l8 z0_text z0_size q1.2.2.2.2 FU (1 : Int32) (0 : Int32) z0_at z0_fault q1.1 q1.2.1 q1.2.2.1 q1.2.2.2.1 z1_goods z1_price z1_tongue z1_till z1_wealth z1_sold z1_ring z1_grudges z1_purse z1_came z1_had z1_seller z1_praise z1_borne)
set_option maxHeartbeats 4000000 in
set_option maxRecDepth 20000 in
theorem cFairReader_read {q : Int32 × Int32 × Int32 × Int32 × Int32 × Int32 × Int32 × (Nat → Int32) × (Nat → Int32) × (Nat → Int32) × (Nat → Int32) × (Nat → Int32) × (Nat → Int32) × (Nat → Int32) × (Nat → Int32) × (Nat → Int32) × (Nat → Int32) × (Nat → Int32) × (Nat → Int32) × (Nat → Int32) × (Nat → Int32)}  (h : mFairReader_read z0_text z0_size z0_at z0_fault z1_lasts z1_keeps z1_stalls z1_buyers z1_minute z1_goods z1_price z1_tongue z1_till z1_wealth z1_sold z1_ring z1_grudges z1_purse z1_came z1_had z1_seller z1_praise z1_borne = some q) : rMet l D Z (ty7 K) MFairReader_read [.ref (a0 0), .ref (a1 0)] (List.flatten [bCursor K a0 z0_text z0_size z0_at z0_fault, bFair K a1 z1_lasts z1_keeps z1_stalls z1_buyers z1_minute z1_goods z1_price z1_tongue z1_till z1_wealth z1_sold z1_ring z1_grudges z1_purse z1_came z1_had z1_seller z1_praise z1_borne]) (List.flatten [bCursor K a0 z0_text z0_size q.1 q.2.1, bFairG K a1 q.2.2]) none := by
  refine rMet.of (by decide) rfl (Nat.le_of_ble_eq_true rfl) ?_
  refine r_sub (lv' := [(0, .ref (a0 0)), (1, .ref (a1 0))]) [0, 1] rfl ?_
  unfold mFairReader_read at h
  refine r_aload_n 1 dX2_read_0 rfl ?_
  obtain ⟨q1, h1, h⟩ := bd_some h
  refine b_callVN (isC := [1]) (ci := 1)  (st := []) (bs1 := [bCursor K a0 z0_text z0_size z0_at z0_fault, bFair K a1 q1.1 q1.2.1 q1.2.2.1 q1.2.2.2.1 q1.2.2.2.2 z1_goods z1_price z1_tongue z1_till z1_wealth z1_sold z1_ring z1_grudges z1_purse z1_came z1_had z1_seller z1_praise z1_borne]) (cFair_clear (a0 := a1) (z0_lasts := z1_lasts) (z0_keeps := z1_keeps) (z0_stalls := z1_stalls) (z0_buyers := z1_buyers) (z0_minute := z1_minute) (z0_goods := z1_goods) (z0_price := z1_price) (z0_tongue := z1_tongue) (z0_till := z1_till) (z0_wealth := z1_wealth) (z0_sold := z1_sold) (z0_ring := z1_ring) (z0_grudges := z1_grudges) (z0_purse := z1_purse) (z0_came := z1_came) (z0_had := z1_had) (z0_seller := z1_seller) (z0_praise := z1_praise) (z0_borne := z1_borne) h1) rfl rfl (Nat.le_of_ble_eq_true rfl) kFair_clear (List.mem_of_getElem? (i := 14) rfl) (by decide) (by decide) rfl rfl rfl rfl rfl rfl rfl dX2_read_1 ?_
  refine r_iconst (x := (1 : Int32)) dX2_read_4 (by decide) ?_
  refine r_istore_n (lv' := [(2, .int (1 : Int32)), (0, .ref (a0 0)), (1, .ref (a1 0))]) dX2_read_5 (Nat.le_of_ble_eq_true rfl) rfl ?_
  refine r_iconst (x := (0 : Int32)) dX2_read_6 (by decide) ?_
  refine r_istore_n (lv' := [(3, .int (0 : Int32)), (2, .int (1 : Int32)), (0, .ref (a0 0)), (1, .ref (a1 0))]) dX2_read_7 (Nat.le_of_ble_eq_true rfl) rfl ?_
  refine r_sub (lv' := [(0, .ref (a0 0)), (1, .ref (a1 0)), (2, .int (1 : Int32)), (3, .int (0 : Int32))]) [2, 3, 1, 0] rfl ?_
  exact cFairReader_read_l8   FU (1 : Int32) (0 : Int32) z0_at z0_fault q1.1 q1.2.1 q1.2.2.1 q1.2.2.2.1 z1_goods z1_price z1_tongue z1_till z1_wealth z1_sold z1_ring z1_grudges z1_purse z1_came z1_had z1_seller z1_praise z1_borne h
end
theorem dX7_countPart_0 : decode cX7_countPart 0 = .ok (.aload_n 1, 1) := by decide +kernel
theorem dX7_countPart_1 : decode cX7_countPart 1 = .ok (.dup, 1) := by decide +kernel
theorem dX7_countPart_2 : decode cX7_countPart 2 = .ok (.getfield 118, 3) := by decide +kernel
theorem dX7_countPart_5 : decode cX7_countPart 5 = .ok (.iconst 1, 1) := by decide +kernel
theorem dX7_countPart_6 : decode cX7_countPart 6 = .ok (.iadd, 1) := by decide +kernel
theorem dX7_countPart_7 : decode cX7_countPart 7 = .ok (.putfield 118, 3) := by decide +kernel
theorem dX7_countPart_10 : decode cX7_countPart 10 = .ok (.aload_n 1, 1) := by decide +kernel
theorem dX7_countPart_11 : decode cX7_countPart 11 = .ok (.getfield 118, 3) := by decide +kernel
theorem dX7_countPart_14 : decode cX7_countPart 14 = .ok (.bipush 60, 2) := by decide +kernel
theorem dX7_countPart_16 : decode cX7_countPart 16 = .ok (.if_icmp .le 9, 3) := by decide +kernel
theorem dX7_countPart_19 : decode cX7_countPart 19 = .ok (.aload_n 0, 1) := by decide +kernel
theorem dX7_countPart_20 : decode cX7_countPart 20 = .ok (.iconst 3, 1) := by decide +kernel
theorem dX7_countPart_21 : decode cX7_countPart 21 = .ok (.iload_n 2, 1) := by decide +kernel
theorem dX7_countPart_22 : decode cX7_countPart 22 = .ok (.invokevirtual 32, 3) := by decide +kernel
theorem dX7_countPart_25 : decode cX7_countPart 25 = .ok (.return_, 1) := by decide +kernel
abbrev MRuleReader_countPart : rx_M := (RX7, yX7_countPart, cX7_countPart, 3, none, 2)
theorem kRuleReader_countPart : rKs MRuleReader_countPart 3 := ⟨tb_in (i := 8) (j := 26) rfl rfl, tb_in (i := 8) (j := 27) rfl rfl, tb_in (i := 8) (j := 23) rfl rfl, ⟨by decide, by decide, by decide +kernel⟩, by decide⟩
section
variable {a0 : Nat → Nat} {a1 : Nat → Nat} {z0_text : Nat → Int32} {z0_size : Int32} {z0_at : Int32} {z0_fault : Int32} {z1_steps : Nat → Int32} {z1_size : Int32} {z1_sumFrom : Nat → Int32} {z1_testFrom : Nat → Int32} {z1_testTo : Nat → Int32} {z1_clauses : Int32} {z1_parts : Int32} {z1_readsTime : Int32} {z1_words : Nat → Int64} {z1_stack : Nat → Int64}
def mRuleReader_countPart (x2 : Int32) (z0_fault : Int32) (z1_parts : Int32) : Option (Int32 × Int32) := lt (z1_parts + (1 : Int32)) (fun y1 => (if y1 ≤ (60 : Int32) then some (z0_fault, y1) else (mCursor_fail (3 : Int32) x2 z0_fault).bind (fun q3 => some (q3, y1))))
set_option maxHeartbeats 4000000 in
set_option maxRecDepth 20000 in
theorem cRuleReader_countPart {q : Int32 × Int32} {x2 : Int32} (h : mRuleReader_countPart x2 z0_fault z1_parts = some q) : rMet l D Z (ty7 K) MRuleReader_countPart [.ref (a0 0), .ref (a1 0), .int x2] (List.flatten [bCursor K a0 z0_text z0_size z0_at z0_fault, bRule K a1 z1_steps z1_size z1_sumFrom z1_testFrom z1_testTo z1_clauses z1_parts z1_readsTime z1_words z1_stack]) (List.flatten [bCursor K a0 z0_text z0_size z0_at q.1, bRule K a1 z1_steps z1_size z1_sumFrom z1_testFrom z1_testTo z1_clauses q.2 z1_readsTime z1_words z1_stack]) none := by
  refine rMet.of (by decide) rfl (Nat.le_of_ble_eq_true rfl) ?_
  refine r_sub (lv' := [(0, .ref (a0 0)), (1, .ref (a1 0)), (2, .int x2)]) [0, 1, 2] rfl ?_
  unfold mRuleReader_countPart at h
  refine r_aload_n 1 dX7_countPart_0 rfl ?_
  refine r_dup dX7_countPart_1 rfl ?_
  refine gRule_partsN 1 rfl (List.mem_of_getElem? (i := 69) rfl) dX7_countPart_2 ?_
  refine r_iconst (x := (1 : Int32)) dX7_countPart_5 (by decide) ?_
  refine r_iadd dX7_countPart_6 ?_
  obtain ⟨y1, e1, h⟩ := lt_some h
  refine r_top e1 ?_
  refine pRule_partsN (bs1 := [bCursor K a0 z0_text z0_size z0_at z0_fault, bRule K a1 z1_steps z1_size z1_sumFrom z1_testFrom z1_testTo z1_clauses y1 z1_readsTime z1_words z1_stack]) 1 rfl rfl (List.mem_of_getElem? (i := 69) rfl) dX7_countPart_7 ?_
  refine r_aload_n 1 dX7_countPart_10 rfl ?_
  refine gRule_partsN 1 rfl (List.mem_of_getElem? (i := 69) rfl) dX7_countPart_11 ?_
  refine r_bipush (x := (60 : Int32)) dX7_countPart_14 (by decide) ?_
  refine r_icmp_le 25 dX7_countPart_16 (by decide) (fun c2 => ?_) (fun c2 => ?_)
  · replace h := it_pos c2 h
    have hq := Option.some.inj h
    subst hq
    exact r_vret rfl dX7_countPart_25
  · replace h := it_neg c2 h
    refine r_aload_n 0 dX7_countPart_19 rfl ?_
    refine r_iconst (x := (3 : Int32)) dX7_countPart_20 (by decide) ?_
    refine r_iload_n 2 dX7_countPart_21 rfl ?_
    obtain ⟨q3, h3, h⟩ := bd_some h
    refine b_callVN (isC := [0]) (ci := 0)  (st := []) (bs1 := [bCursor K a0 z0_text z0_size z0_at q3, bRule K a1 z1_steps z1_size z1_sumFrom z1_testFrom z1_testTo z1_clauses y1 z1_readsTime z1_words z1_stack]) (cCursor_fail (a0 := a0) (z0_text := z0_text) (z0_size := z0_size) (z0_at := z0_at) (z0_fault := z0_fault) h3) rfl rfl (Nat.le_of_ble_eq_true rfl) kCursor_fail (List.mem_of_getElem? (i := 35) rfl) (by decide) (by decide) rfl rfl rfl rfl rfl rfl rfl dX7_countPart_22 ?_
    have hq := Option.some.inj h
    subst hq
    exact r_vret rfl dX7_countPart_25
end
theorem dX6_add_0 : decode cX6_add 0 = .ok (.aload_n 0, 1) := by decide +kernel
theorem dX6_add_1 : decode cX6_add 1 = .ok (.getfield 15, 3) := by decide +kernel
theorem dX6_add_4 : decode cX6_add 4 = .ok (.sipush 400, 3) := by decide +kernel
theorem dX6_add_7 : decode cX6_add 7 = .ok (.if_icmp .ge 27, 3) := by decide +kernel
theorem dX6_add_10 : decode cX6_add 10 = .ok (.aload_n 0, 1) := by decide +kernel
theorem dX6_add_11 : decode cX6_add 11 = .ok (.getfield 9, 3) := by decide +kernel
theorem dX6_add_14 : decode cX6_add 14 = .ok (.aload_n 0, 1) := by decide +kernel
theorem dX6_add_15 : decode cX6_add 15 = .ok (.getfield 15, 3) := by decide +kernel
theorem dX6_add_18 : decode cX6_add 18 = .ok (.iload_n 2, 1) := by decide +kernel
theorem dX6_add_19 : decode cX6_add 19 = .ok (.iconst 4, 1) := by decide +kernel
theorem dX6_add_20 : decode cX6_add 20 = .ok (.ishl, 1) := by decide +kernel
theorem dX6_add_21 : decode cX6_add 21 = .ok (.iload_n 1, 1) := by decide +kernel
theorem dX6_add_22 : decode cX6_add 22 = .ok (.ior, 1) := by decide +kernel
theorem dX6_add_23 : decode cX6_add 23 = .ok (.iastore, 1) := by decide +kernel
theorem dX6_add_24 : decode cX6_add 24 = .ok (.aload_n 0, 1) := by decide +kernel
theorem dX6_add_25 : decode cX6_add 25 = .ok (.dup, 1) := by decide +kernel
theorem dX6_add_26 : decode cX6_add 26 = .ok (.getfield 15, 3) := by decide +kernel
theorem dX6_add_29 : decode cX6_add 29 = .ok (.iconst 1, 1) := by decide +kernel
theorem dX6_add_30 : decode cX6_add 30 = .ok (.iadd, 1) := by decide +kernel
theorem dX6_add_31 : decode cX6_add 31 = .ok (.putfield 15, 3) := by decide +kernel
theorem dX6_add_34 : decode cX6_add 34 = .ok (.aload_n 0, 1) := by decide +kernel
theorem dX6_add_35 : decode cX6_add 35 = .ok (.dup, 1) := by decide +kernel
theorem dX6_add_36 : decode cX6_add 36 = .ok (.getfield 36, 3) := by decide +kernel
theorem dX6_add_39 : decode cX6_add 39 = .ok (.iload_n 1, 1) := by decide +kernel
theorem dX6_add_40 : decode cX6_add 40 = .ok (.iconst 1, 1) := by decide +kernel
theorem dX6_add_41 : decode cX6_add 41 = .ok (.if_icmp .ne 13, 3) := by decide +kernel
theorem dX6_add_44 : decode cX6_add 44 = .ok (.iload_n 2, 1) := by decide +kernel
theorem dX6_add_45 : decode cX6_add 45 = .ok (.bipush 10, 2) := by decide +kernel
theorem dX6_add_47 : decode cX6_add 47 = .ok (.if_icmp .lt 7, 3) := by decide +kernel
theorem dX6_add_50 : decode cX6_add 50 = .ok (.iconst 1, 1) := by decide +kernel
theorem dX6_add_51 : decode cX6_add 51 = .ok (.goto 4, 3) := by decide +kernel
theorem dX6_add_54 : decode cX6_add 54 = .ok (.iconst 0, 1) := by decide +kernel
theorem dX6_add_55 : decode cX6_add 55 = .ok (.ior, 1) := by decide +kernel
theorem dX6_add_56 : decode cX6_add 56 = .ok (.putfield 36, 3) := by decide +kernel
theorem dX6_add_59 : decode cX6_add 59 = .ok (.return_, 1) := by decide +kernel
abbrev MRule_add : rx_M := (RX6, yX6_add, cX6_add, 3, none, 1)
theorem kRule_add : rKv MRule_add 2 := ⟨tb_in (i := 8) (j := 28) rfl rfl, tb_in (i := 8) (j := 29) rfl rfl, tb_in (i := 5) (j := 1) rfl rfl, tb_in (i := 8) (j := 22) rfl rfl, ⟨by decide, by decide, by decide +kernel⟩, by decide⟩
section
variable {a0 : Nat → Nat} {z0_steps : Nat → Int32} {z0_size : Int32} {z0_sumFrom : Nat → Int32} {z0_testFrom : Nat → Int32} {z0_testTo : Nat → Int32} {z0_clauses : Int32} {z0_parts : Int32} {z0_readsTime : Int32} {z0_words : Nat → Int64} {z0_stack : Nat → Int64}
def mRule_add (x1 : Int32) (x2 : Int32) (z0_steps : Nat → Int32) (z0_size : Int32) (z0_readsTime : Int32) : Option ((Nat → Int32) × Int32 × Int32) := (if (400 : Int32) ≤ z0_size then (if x1 = (1 : Int32) then (if x2 < (10 : Int32) then lt (z0_readsTime ||| (0 : Int32)) (fun y6 => rq (bo y6) (some (z0_steps, z0_size, y6))) else lt (z0_readsTime ||| (1 : Int32)) (fun y8 => rq (bo y8) (some (z0_steps, z0_size, y8)))) else lt (z0_readsTime ||| (0 : Int32)) (fun y3 => rq (bo y3) (some (z0_steps, z0_size, y3)))) else rq (inb z0_size 400) (lt (upd z0_steps z0_size.toNatClampNeg ((x2 <<< ((4 : Int32) &&& 31)) ||| x1)) (fun u10 => lt (z0_size + (1 : Int32)) (fun y11 => (if x1 = (1 : Int32) then (if x2 < (10 : Int32) then lt (z0_readsTime ||| (0 : Int32)) (fun y16 => rq (bo y16) (some (u10, y11, y16))) else lt (z0_readsTime ||| (1 : Int32)) (fun y18 => rq (bo y18) (some (u10, y11, y18)))) else lt (z0_readsTime ||| (0 : Int32)) (fun y13 => rq (bo y13) (some (u10, y11, y13))))))))
set_option maxHeartbeats 4000000 in
set_option maxRecDepth 20000 in
theorem cRule_add {q : (Nat → Int32) × Int32 × Int32} {x1 : Int32} {x2 : Int32} (h : mRule_add x1 x2 z0_steps z0_size z0_readsTime = some q) : rMet l D Z (ty7 K) MRule_add [.ref (a0 0), .int x1, .int x2] (List.flatten [bRule K a0 z0_steps z0_size z0_sumFrom z0_testFrom z0_testTo z0_clauses z0_parts z0_readsTime z0_words z0_stack]) (List.flatten [bRule K a0 q.1 q.2.1 z0_sumFrom z0_testFrom z0_testTo z0_clauses z0_parts q.2.2 z0_words z0_stack]) none := by
  refine rMet.of (by decide) rfl (Nat.le_of_ble_eq_true rfl) ?_
  refine r_sub (lv' := [(0, .ref (a0 0)), (1, .int x1), (2, .int x2)]) [0, 1, 2] rfl ?_
  unfold mRule_add at h
  refine r_aload_n 0 dX6_add_0 rfl ?_
  refine gRule_size 0 rfl (tb_in (i := 4) (j := 22) rfl rfl) dX6_add_1 ?_
  refine r_sipush (x := (400 : Int32)) dX6_add_4 (by decide) ?_
  refine r_icmp_ge 34 dX6_add_7 (by decide) (fun c1 => ?_) (fun c1 => ?_)
  · replace h := it_pos c1 h
    refine r_aload_n 0 dX6_add_34 rfl ?_
    refine r_dup dX6_add_35 rfl ?_
    refine gRule_readsTime 0 rfl (tb_in (i := 8) (j := 19) rfl rfl) dX6_add_36 ?_
    refine r_iload_n 1 dX6_add_39 rfl ?_
    refine r_iconst (x := (1 : Int32)) dX6_add_40 (by decide) ?_
    refine r_icmp_ne 54 dX6_add_41 (by decide) (fun c2 => ?_) (fun c2 => ?_)
    · replace h := it_neg c2 h
      refine r_iconst (x := (0 : Int32)) dX6_add_54 (by decide) ?_
      refine r_ior dX6_add_55 ?_
      obtain ⟨y3, e3, h⟩ := lt_some h
      refine r_top e3 ?_
      obtain ⟨h4, h⟩ := rq_some h
      refine pRule_readsTime (bs1 := [bRule K a0 z0_steps z0_size z0_sumFrom z0_testFrom z0_testTo z0_clauses z0_parts y3 z0_words z0_stack]) 0 (bo_nar h4) (bo_fit h4) rfl rfl (tb_in (i := 8) (j := 19) rfl rfl) dX6_add_56 ?_
      have hq := Option.some.inj h
      subst hq
      exact r_vret rfl dX6_add_59
    · replace h := it_pos c2 h
      refine r_iload_n 2 dX6_add_44 rfl ?_
      refine r_bipush (x := (10 : Int32)) dX6_add_45 (by decide) ?_
      refine r_icmp_lt 54 dX6_add_47 (by decide) (fun c5 => ?_) (fun c5 => ?_)
      · replace h := it_pos c5 h
        refine r_iconst (x := (0 : Int32)) dX6_add_54 (by decide) ?_
        refine r_ior dX6_add_55 ?_
        obtain ⟨y6, e6, h⟩ := lt_some h
        refine r_top e6 ?_
        obtain ⟨h7, h⟩ := rq_some h
        refine pRule_readsTime (bs1 := [bRule K a0 z0_steps z0_size z0_sumFrom z0_testFrom z0_testTo z0_clauses z0_parts y6 z0_words z0_stack]) 0 (bo_nar h7) (bo_fit h7) rfl rfl (tb_in (i := 8) (j := 19) rfl rfl) dX6_add_56 ?_
        have hq := Option.some.inj h
        subst hq
        exact r_vret rfl dX6_add_59
      · replace h := it_neg c5 h
        refine r_iconst (x := (1 : Int32)) dX6_add_50 (by decide) ?_
        refine r_goto 55 dX6_add_51 (by decide) ?_
        refine r_ior dX6_add_55 ?_
        obtain ⟨y8, e8, h⟩ := lt_some h
        refine r_top e8 ?_
        obtain ⟨h9, h⟩ := rq_some h
        refine pRule_readsTime (bs1 := [bRule K a0 z0_steps z0_size z0_sumFrom z0_testFrom z0_testTo z0_clauses z0_parts y8 z0_words z0_stack]) 0 (bo_nar h9) (bo_fit h9) rfl rfl (tb_in (i := 8) (j := 19) rfl rfl) dX6_add_56 ?_
        have hq := Option.some.inj h
        subst hq
        exact r_vret rfl dX6_add_59
  · replace h := it_neg c1 h
    refine r_aload_n 0 dX6_add_10 rfl ?_
    refine gRule_steps 0 rfl (tb_in (i := 4) (j := 23) rfl rfl) dX6_add_11 ?_
    refine r_aload_n 0 dX6_add_14 rfl ?_
    refine gRule_size 0 rfl (tb_in (i := 4) (j := 22) rfl rfl) dX6_add_15 ?_
    refine r_iload_n 2 dX6_add_18 rfl ?_
    refine r_iconst (x := (4 : Int32)) dX6_add_19 (by decide) ?_
    refine r_ishl dX6_add_20 ?_
    refine r_iload_n 1 dX6_add_21 rfl ?_
    refine r_ior dX6_add_22 ?_
    obtain ⟨h10, h⟩ := rq_some h
    obtain ⟨u10, e10, h⟩ := lt_some h
    refine sRule_steps (bs1 := [bRule K a0 u10 z0_size z0_sumFrom z0_testFrom z0_testTo z0_clauses z0_parts z0_readsTime z0_words z0_stack]) 0 e10 rfl (inb_in h10) rfl dX6_add_23 ?_
    refine r_aload_n 0 dX6_add_24 rfl ?_
    refine r_dup dX6_add_25 rfl ?_
    refine gRule_size 0 rfl (tb_in (i := 4) (j := 22) rfl rfl) dX6_add_26 ?_
    refine r_iconst (x := (1 : Int32)) dX6_add_29 (by decide) ?_
    refine r_iadd dX6_add_30 ?_
    obtain ⟨y11, e11, h⟩ := lt_some h
    refine r_top e11 ?_
    refine pRule_size (bs1 := [bRule K a0 u10 y11 z0_sumFrom z0_testFrom z0_testTo z0_clauses z0_parts z0_readsTime z0_words z0_stack]) 0 rfl rfl (tb_in (i := 4) (j := 22) rfl rfl) dX6_add_31 ?_
    refine r_aload_n 0 dX6_add_34 rfl ?_
    refine r_dup dX6_add_35 rfl ?_
    refine gRule_readsTime 0 rfl (tb_in (i := 8) (j := 19) rfl rfl) dX6_add_36 ?_
    refine r_iload_n 1 dX6_add_39 rfl ?_
    refine r_iconst (x := (1 : Int32)) dX6_add_40 (by decide) ?_
    refine r_icmp_ne 54 dX6_add_41 (by decide) (fun c12 => ?_) (fun c12 => ?_)
    · replace h := it_neg c12 h
      refine r_iconst (x := (0 : Int32)) dX6_add_54 (by decide) ?_
      refine r_ior dX6_add_55 ?_
      obtain ⟨y13, e13, h⟩ := lt_some h
      refine r_top e13 ?_
      obtain ⟨h14, h⟩ := rq_some h
      refine pRule_readsTime (bs1 := [bRule K a0 u10 y11 z0_sumFrom z0_testFrom z0_testTo z0_clauses z0_parts y13 z0_words z0_stack]) 0 (bo_nar h14) (bo_fit h14) rfl rfl (tb_in (i := 8) (j := 19) rfl rfl) dX6_add_56 ?_
      have hq := Option.some.inj h
      subst hq
      exact r_vret rfl dX6_add_59
    · replace h := it_pos c12 h
      refine r_iload_n 2 dX6_add_44 rfl ?_
      refine r_bipush (x := (10 : Int32)) dX6_add_45 (by decide) ?_
      refine r_icmp_lt 54 dX6_add_47 (by decide) (fun c15 => ?_) (fun c15 => ?_)
      · replace h := it_pos c15 h
        refine r_iconst (x := (0 : Int32)) dX6_add_54 (by decide) ?_
        refine r_ior dX6_add_55 ?_
        obtain ⟨y16, e16, h⟩ := lt_some h
        refine r_top e16 ?_
        obtain ⟨h17, h⟩ := rq_some h
        refine pRule_readsTime (bs1 := [bRule K a0 u10 y11 z0_sumFrom z0_testFrom z0_testTo z0_clauses z0_parts y16 z0_words z0_stack]) 0 (bo_nar h17) (bo_fit h17) rfl rfl (tb_in (i := 8) (j := 19) rfl rfl) dX6_add_56 ?_
        have hq := Option.some.inj h
        subst hq
        exact r_vret rfl dX6_add_59
      · replace h := it_neg c15 h
        refine r_iconst (x := (1 : Int32)) dX6_add_50 (by decide) ?_
        refine r_goto 55 dX6_add_51 (by decide) ?_
        refine r_ior dX6_add_55 ?_
        obtain ⟨y18, e18, h⟩ := lt_some h
        refine r_top e18 ?_
        obtain ⟨h19, h⟩ := rq_some h
        refine pRule_readsTime (bs1 := [bRule K a0 u10 y11 z0_sumFrom z0_testFrom z0_testTo z0_clauses z0_parts y18 z0_words z0_stack]) 0 (bo_nar h19) (bo_fit h19) rfl rfl (tb_in (i := 8) (j := 19) rfl rfl) dX6_add_56 ?_
        have hq := Option.some.inj h
        subst hq
        exact r_vret rfl dX6_add_59
end
theorem dX7_readValue_0 : decode cX7_readValue 0 = .ok (.aload_n 0, 1) := by decide +kernel
theorem dX7_readValue_1 : decode cX7_readValue 1 = .ok (.invokevirtual 16, 3) := by decide +kernel
theorem dX7_readValue_4 : decode cX7_readValue 4 = .ok (.pop, 1) := by decide +kernel
theorem dX7_readValue_5 : decode cX7_readValue 5 = .ok (.aload_n 0, 1) := by decide +kernel
theorem dX7_readValue_6 : decode cX7_readValue 6 = .ok (.getfield 22, 3) := by decide +kernel
theorem dX7_readValue_9 : decode cX7_readValue 9 = .ok (.istore_n 2, 1) := by decide +kernel
theorem dX7_readValue_10 : decode cX7_readValue 10 = .ok (.aload_n 0, 1) := by decide +kernel
theorem dX7_readValue_11 : decode cX7_readValue 11 = .ok (.iload_n 2, 1) := by decide +kernel
theorem dX7_readValue_12 : decode cX7_readValue 12 = .ok (.invokevirtual 107, 3) := by decide +kernel
theorem dX7_readValue_15 : decode cX7_readValue 15 = .ok (.istore_n 3, 1) := by decide +kernel
theorem dX7_readValue_16 : decode cX7_readValue 16 = .ok (.iload_n 3, 1) := by decide +kernel
theorem dX7_readValue_17 : decode cX7_readValue 17 = .ok (.ifCond .eq 13, 3) := by decide +kernel
theorem dX7_readValue_20 : decode cX7_readValue 20 = .ok (.aload_n 0, 1) := by decide +kernel
theorem dX7_readValue_21 : decode cX7_readValue 21 = .ok (.iconst 0, 1) := by decide +kernel
theorem dX7_readValue_22 : decode cX7_readValue 22 = .ok (.ldc 111, 2) := by decide +kernel
theorem dX7_readValue_24 : decode cX7_readValue 24 = .ok (.invokevirtual 112, 3) := by decide +kernel
theorem dX7_readValue_27 : decode cX7_readValue 27 = .ok (.goto 9, 3) := by decide +kernel
theorem dX7_readValue_30 : decode cX7_readValue 30 = .ok (.aload_n 0, 1) := by decide +kernel
theorem dX7_readValue_31 : decode cX7_readValue 31 = .ok (.ldc 116, 2) := by decide +kernel
theorem dX7_readValue_33 : decode cX7_readValue 33 = .ok (.invokevirtual 28, 3) := by decide +kernel
theorem dX7_readValue_36 : decode cX7_readValue 36 = .ok (.istore 4, 2) := by decide +kernel
theorem dX7_readValue_38 : decode cX7_readValue 38 = .ok (.iload 4, 2) := by decide +kernel
theorem dX7_readValue_40 : decode cX7_readValue 40 = .ok (.iconst (-1), 1) := by decide +kernel
theorem dX7_readValue_41 : decode cX7_readValue 41 = .ok (.if_icmp .ne 9, 3) := by decide +kernel
theorem dX7_readValue_44 : decode cX7_readValue 44 = .ok (.aload_n 0, 1) := by decide +kernel
theorem dX7_readValue_45 : decode cX7_readValue 45 = .ok (.iconst 0, 1) := by decide +kernel
theorem dX7_readValue_46 : decode cX7_readValue 46 = .ok (.iload_n 2, 1) := by decide +kernel
theorem dX7_readValue_47 : decode cX7_readValue 47 = .ok (.invokevirtual 32, 3) := by decide +kernel
theorem dX7_readValue_50 : decode cX7_readValue 50 = .ok (.aload_n 0, 1) := by decide +kernel
theorem dX7_readValue_51 : decode cX7_readValue 51 = .ok (.aload_n 1, 1) := by decide +kernel
theorem dX7_readValue_52 : decode cX7_readValue 52 = .ok (.iload_n 2, 1) := by decide +kernel
theorem dX7_readValue_53 : decode cX7_readValue 53 = .ok (.invokestatic 92, 3) := by decide +kernel
theorem dX7_readValue_56 : decode cX7_readValue 56 = .ok (.aload_n 0, 1) := by decide +kernel
theorem dX7_readValue_57 : decode cX7_readValue 57 = .ok (.invokevirtual 50, 3) := by decide +kernel
theorem dX7_readValue_60 : decode cX7_readValue 60 = .ok (.ifCond .eq 18, 3) := by decide +kernel
theorem dX7_readValue_63 : decode cX7_readValue 63 = .ok (.aload_n 1, 1) := by decide +kernel
theorem dX7_readValue_64 : decode cX7_readValue 64 = .ok (.iload_n 3, 1) := by decide +kernel
theorem dX7_readValue_65 : decode cX7_readValue 65 = .ok (.ifCond .eq 7, 3) := by decide +kernel
theorem dX7_readValue_68 : decode cX7_readValue 68 = .ok (.iconst 0, 1) := by decide +kernel
theorem dX7_readValue_69 : decode cX7_readValue 69 = .ok (.goto 4, 3) := by decide +kernel
theorem dX7_readValue_72 : decode cX7_readValue 72 = .ok (.iconst 1, 1) := by decide +kernel
theorem dX7_readValue_73 : decode cX7_readValue 73 = .ok (.iload 4, 2) := by decide +kernel
theorem dX7_readValue_75 : decode cX7_readValue 75 = .ok (.invokevirtual 72, 3) := by decide +kernel
theorem dX7_readValue_78 : decode cX7_readValue 78 = .ok (.return_, 1) := by decide +kernel
abbrev MRuleReader_readValue : rx_M := (RX7, yX7_readValue, cX7_readValue, 5, none, 8)
theorem kRuleReader_readValue : rKs MRuleReader_readValue 2 := ⟨tb_in (i := 9) (j := 0) rfl rfl, tb_in (i := 8) (j := 27) rfl rfl, tb_in (i := 8) (j := 30) rfl rfl, ⟨by decide, by decide, by decide +kernel⟩, by decide⟩
section
variable {a0 : Nat → Nat} {a1 : Nat → Nat} {z0_text : Nat → Int32} {z0_size : Int32} {z0_at : Int32} {z0_fault : Int32} {z1_steps : Nat → Int32} {z1_size : Int32} {z1_sumFrom : Nat → Int32} {z1_testFrom : Nat → Int32} {z1_testTo : Nat → Int32} {z1_clauses : Int32} {z1_parts : Int32} {z1_readsTime : Int32} {z1_words : Nat → Int64} {z1_stack : Nat → Int64}
def mRuleReader_readValue_j36 (x2 : Int32) (x3 : Int32) (z0_text : Nat → Int32) (z0_size : Int32) (z0_at : Int32) (z0_fault : Int32) (z1_steps : Nat → Int32) (z1_size : Int32) (z1_parts : Int32) (z1_readsTime : Int32) (s0 : Int32) : Option (Int32 × Int32 × (Nat → Int32) × Int32 × Int32 × Int32) := (if s0 = (-1 : Int32) then (mCursor_fail (0 : Int32) x2 z0_fault).bind (fun q12 => (mRuleReader_countPart x2 q12 z1_parts).bind (fun q13 => (mCursor_isFine q13.1).bind (fun q14 => (if q14 = 0 then some (z0_at, q13.1, z1_steps, z1_size, q13.2, z1_readsTime) else (if x3 = 0 then (mRule_add (1 : Int32) s0 z1_steps z1_size z1_readsTime).bind (fun q17 => some (z0_at, q13.1, q17.1, q17.2.1, q13.2, q17.2.2)) else (mRule_add (0 : Int32) s0 z1_steps z1_size z1_readsTime).bind (fun q18 => some (z0_at, q13.1, q18.1, q18.2.1, q13.2, q18.2.2))))))) else (mRuleReader_countPart x2 z0_fault z1_parts).bind (fun q6 => (mCursor_isFine q6.1).bind (fun q7 => (if q7 = 0 then some (z0_at, q6.1, z1_steps, z1_size, q6.2, z1_readsTime) else (if x3 = 0 then (mRule_add (1 : Int32) s0 z1_steps z1_size z1_readsTime).bind (fun q10 => some (z0_at, q6.1, q10.1, q10.2.1, q6.2, q10.2.2)) else (mRule_add (0 : Int32) s0 z1_steps z1_size z1_readsTime).bind (fun q11 => some (z0_at, q6.1, q11.1, q11.2.1, q6.2, q11.2.2)))))))
set_option maxHeartbeats 4000000 in
set_option maxRecDepth 20000 in
theorem cRuleReader_readValue_j36 {q : Int32 × Int32 × (Nat → Int32) × Int32 × Int32 × Int32} {x2 : Int32} {x3 : Int32} {s0 : Int32}  (h : mRuleReader_readValue_j36 x2 x3 z0_text z0_size z0_at z0_fault z1_steps z1_size z1_parts z1_readsTime s0 = some q) : rW l D Z (ty7 K) MRuleReader_readValue 36 [(0, .ref (a0 0)), (1, .ref (a1 0)), (2, .int x2), (3, .int x3)] [.int s0] (List.flatten [bCursor K a0 z0_text z0_size z0_at z0_fault, bRule K a1 z1_steps z1_size z1_sumFrom z1_testFrom z1_testTo z1_clauses z1_parts z1_readsTime z1_words z1_stack]) (List.flatten [bCursor K a0 z0_text z0_size q.1 q.2.1, bRule K a1 q.2.2.1 q.2.2.2.1 z1_sumFrom z1_testFrom z1_testTo z1_clauses q.2.2.2.2.1 q.2.2.2.2.2 z1_words z1_stack]) none := by
  unfold mRuleReader_readValue_j36 at h
  refine r_istore (lv' := [(4, .int s0), (0, .ref (a0 0)), (1, .ref (a1 0)), (2, .int x2), (3, .int x3)]) dX7_readValue_36 (Nat.le_of_ble_eq_true rfl) rfl ?_
  refine r_iload 0 dX7_readValue_38 rfl ?_
  refine r_iconst (x := (-1 : Int32)) dX7_readValue_40 (by decide) ?_
  refine r_icmp_ne 50 dX7_readValue_41 (by decide) (fun c5 => ?_) (fun c5 => ?_)
  · replace h := it_neg c5 h
    refine r_aload_n 1 dX7_readValue_50 rfl ?_
    refine r_aload_n 2 dX7_readValue_51 rfl ?_
    refine r_iload_n 3 dX7_readValue_52 rfl ?_
    obtain ⟨q6, h6, h⟩ := bd_some h
    refine b_callS (isC := [0, 1]) (st := []) (bs1 := [bCursor K a0 z0_text z0_size z0_at q6.1, bRule K a1 z1_steps z1_size z1_sumFrom z1_testFrom z1_testTo z1_clauses q6.2 z1_readsTime z1_words z1_stack]) (cRuleReader_countPart (a0 := a0) (a1 := a1) (z0_text := z0_text) (z0_size := z0_size) (z0_at := z0_at) (z0_fault := z0_fault) (z1_steps := z1_steps) (z1_size := z1_size) (z1_sumFrom := z1_sumFrom) (z1_testFrom := z1_testFrom) (z1_testTo := z1_testTo) (z1_clauses := z1_clauses) (z1_parts := z1_parts) (z1_readsTime := z1_readsTime) (z1_words := z1_words) (z1_stack := z1_stack) h6) rfl rfl (Nat.le_of_ble_eq_true rfl) kRuleReader_countPart (tb_in (i := 8) (j := 25) rfl rfl) (by decide) (by decide) rfl rfl rfl dX7_readValue_53 ?_
    refine r_aload_n 1 dX7_readValue_56 rfl ?_
    obtain ⟨q7, h7, h⟩ := bd_some h
    refine b_callVN (isC := [0]) (ci := 0)  (st := []) (bs1 := [bCursor K a0 z0_text z0_size z0_at q6.1, bRule K a1 z1_steps z1_size z1_sumFrom z1_testFrom z1_testTo z1_clauses q6.2 z1_readsTime z1_words z1_stack]) (cCursor_isFine (a0 := a0) (z0_text := z0_text) (z0_size := z0_size) (z0_at := z0_at) (z0_fault := q6.1) h7) rfl rfl (Nat.le_of_ble_eq_true rfl) kCursor_isFine (List.mem_of_getElem? (i := 38) rfl) (by decide) (by decide) rfl rfl rfl rfl rfl rfl rfl dX7_readValue_57 ?_
    refine r_if_eq 78 dX7_readValue_60 (by decide) (fun c8 => ?_) (fun c8 => ?_)
    · replace h := it_pos c8 h
      have hq := Option.some.inj h
      subst hq
      exact r_vret rfl dX7_readValue_78
    · replace h := it_neg c8 h
      refine r_aload_n 2 dX7_readValue_63 rfl ?_
      refine r_iload_n 4 dX7_readValue_64 rfl ?_
      refine r_if_eq 72 dX7_readValue_65 (by decide) (fun c9 => ?_) (fun c9 => ?_)
      · replace h := it_pos c9 h
        refine r_iconst (x := (1 : Int32)) dX7_readValue_72 (by decide) ?_
        refine r_iload 0 dX7_readValue_73 rfl ?_
        obtain ⟨q10, h10, h⟩ := bd_some h
        refine b_callVN (isC := [1]) (ci := 5)  (st := []) (bs1 := [bCursor K a0 z0_text z0_size z0_at q6.1, bRule K a1 q10.1 q10.2.1 z1_sumFrom z1_testFrom z1_testTo z1_clauses q6.2 q10.2.2 z1_words z1_stack]) (cRule_add (a0 := a1) (z0_steps := z1_steps) (z0_size := z1_size) (z0_sumFrom := z1_sumFrom) (z0_testFrom := z1_testFrom) (z0_testTo := z1_testTo) (z0_clauses := z1_clauses) (z0_parts := q6.2) (z0_readsTime := z1_readsTime) (z0_words := z1_words) (z0_stack := z1_stack) h10) rfl rfl (Nat.le_of_ble_eq_true rfl) kRule_add (List.mem_of_getElem? (i := 39) rfl) (by decide) (by decide) rfl rfl rfl rfl rfl rfl rfl dX7_readValue_75 ?_
        have hq := Option.some.inj h
        subst hq
        exact r_vret rfl dX7_readValue_78
      · replace h := it_neg c9 h
        refine r_iconst (x := (0 : Int32)) dX7_readValue_68 (by decide) ?_
        refine r_goto 73 dX7_readValue_69 (by decide) ?_
        refine r_iload 0 dX7_readValue_73 rfl ?_
        obtain ⟨q11, h11, h⟩ := bd_some h
        refine b_callVN (isC := [1]) (ci := 5)  (st := []) (bs1 := [bCursor K a0 z0_text z0_size z0_at q6.1, bRule K a1 q11.1 q11.2.1 z1_sumFrom z1_testFrom z1_testTo z1_clauses q6.2 q11.2.2 z1_words z1_stack]) (cRule_add (a0 := a1) (z0_steps := z1_steps) (z0_size := z1_size) (z0_sumFrom := z1_sumFrom) (z0_testFrom := z1_testFrom) (z0_testTo := z1_testTo) (z0_clauses := z1_clauses) (z0_parts := q6.2) (z0_readsTime := z1_readsTime) (z0_words := z1_words) (z0_stack := z1_stack) h11) rfl rfl (Nat.le_of_ble_eq_true rfl) kRule_add (List.mem_of_getElem? (i := 39) rfl) (by decide) (by decide) rfl rfl rfl rfl rfl rfl rfl dX7_readValue_75 ?_
        have hq := Option.some.inj h
        subst hq
        exact r_vret rfl dX7_readValue_78
  · replace h := it_pos c5 h
    refine r_aload_n 1 dX7_readValue_44 rfl ?_
    refine r_iconst (x := (0 : Int32)) dX7_readValue_45 (by decide) ?_
    refine r_iload_n 3 dX7_readValue_46 rfl ?_
    obtain ⟨q12, h12, h⟩ := bd_some h
    refine b_callVN (isC := [0]) (ci := 0)  (st := []) (bs1 := [bCursor K a0 z0_text z0_size z0_at q12, bRule K a1 z1_steps z1_size z1_sumFrom z1_testFrom z1_testTo z1_clauses z1_parts z1_readsTime z1_words z1_stack]) (cCursor_fail (a0 := a0) (z0_text := z0_text) (z0_size := z0_size) (z0_at := z0_at) (z0_fault := z0_fault) h12) rfl rfl (Nat.le_of_ble_eq_true rfl) kCursor_fail (List.mem_of_getElem? (i := 35) rfl) (by decide) (by decide) rfl rfl rfl rfl rfl rfl rfl dX7_readValue_47 ?_
    refine r_aload_n 1 dX7_readValue_50 rfl ?_
    refine r_aload_n 2 dX7_readValue_51 rfl ?_
    refine r_iload_n 3 dX7_readValue_52 rfl ?_
    obtain ⟨q13, h13, h⟩ := bd_some h
    refine b_callS (isC := [0, 1]) (st := []) (bs1 := [bCursor K a0 z0_text z0_size z0_at q13.1, bRule K a1 z1_steps z1_size z1_sumFrom z1_testFrom z1_testTo z1_clauses q13.2 z1_readsTime z1_words z1_stack]) (cRuleReader_countPart (a0 := a0) (a1 := a1) (z0_text := z0_text) (z0_size := z0_size) (z0_at := z0_at) (z0_fault := q12) (z1_steps := z1_steps) (z1_size := z1_size) (z1_sumFrom := z1_sumFrom) (z1_testFrom := z1_testFrom) (z1_testTo := z1_testTo) (z1_clauses := z1_clauses) (z1_parts := z1_parts) (z1_readsTime := z1_readsTime) (z1_words := z1_words) (z1_stack := z1_stack) h13) rfl rfl (Nat.le_of_ble_eq_true rfl) kRuleReader_countPart (tb_in (i := 8) (j := 25) rfl rfl) (by decide) (by decide) rfl rfl rfl dX7_readValue_53 ?_
    refine r_aload_n 1 dX7_readValue_56 rfl ?_
    obtain ⟨q14, h14, h⟩ := bd_some h
    refine b_callVN (isC := [0]) (ci := 0)  (st := []) (bs1 := [bCursor K a0 z0_text z0_size z0_at q13.1, bRule K a1 z1_steps z1_size z1_sumFrom z1_testFrom z1_testTo z1_clauses q13.2 z1_readsTime z1_words z1_stack]) (cCursor_isFine (a0 := a0) (z0_text := z0_text) (z0_size := z0_size) (z0_at := z0_at) (z0_fault := q13.1) h14) rfl rfl (Nat.le_of_ble_eq_true rfl) kCursor_isFine (List.mem_of_getElem? (i := 38) rfl) (by decide) (by decide) rfl rfl rfl rfl rfl rfl rfl dX7_readValue_57 ?_
    refine r_if_eq 78 dX7_readValue_60 (by decide) (fun c15 => ?_) (fun c15 => ?_)
    · replace h := it_pos c15 h
      have hq := Option.some.inj h
      subst hq
      exact r_vret rfl dX7_readValue_78
    · replace h := it_neg c15 h
      refine r_aload_n 2 dX7_readValue_63 rfl ?_
      refine r_iload_n 4 dX7_readValue_64 rfl ?_
      refine r_if_eq 72 dX7_readValue_65 (by decide) (fun c16 => ?_) (fun c16 => ?_)
      · replace h := it_pos c16 h
        refine r_iconst (x := (1 : Int32)) dX7_readValue_72 (by decide) ?_
        refine r_iload 0 dX7_readValue_73 rfl ?_
        obtain ⟨q17, h17, h⟩ := bd_some h
        refine b_callVN (isC := [1]) (ci := 5)  (st := []) (bs1 := [bCursor K a0 z0_text z0_size z0_at q13.1, bRule K a1 q17.1 q17.2.1 z1_sumFrom z1_testFrom z1_testTo z1_clauses q13.2 q17.2.2 z1_words z1_stack]) (cRule_add (a0 := a1) (z0_steps := z1_steps) (z0_size := z1_size) (z0_sumFrom := z1_sumFrom) (z0_testFrom := z1_testFrom) (z0_testTo := z1_testTo) (z0_clauses := z1_clauses) (z0_parts := q13.2) (z0_readsTime := z1_readsTime) (z0_words := z1_words) (z0_stack := z1_stack) h17) rfl rfl (Nat.le_of_ble_eq_true rfl) kRule_add (List.mem_of_getElem? (i := 39) rfl) (by decide) (by decide) rfl rfl rfl rfl rfl rfl rfl dX7_readValue_75 ?_
        have hq := Option.some.inj h
        subst hq
        exact r_vret rfl dX7_readValue_78
      · replace h := it_neg c16 h
        refine r_iconst (x := (0 : Int32)) dX7_readValue_68 (by decide) ?_
        refine r_goto 73 dX7_readValue_69 (by decide) ?_
        refine r_iload 0 dX7_readValue_73 rfl ?_
        obtain ⟨q18, h18, h⟩ := bd_some h
        refine b_callVN (isC := [1]) (ci := 5)  (st := []) (bs1 := [bCursor K a0 z0_text z0_size z0_at q13.1, bRule K a1 q18.1 q18.2.1 z1_sumFrom z1_testFrom z1_testTo z1_clauses q13.2 q18.2.2 z1_words z1_stack]) (cRule_add (a0 := a1) (z0_steps := z1_steps) (z0_size := z1_size) (z0_sumFrom := z1_sumFrom) (z0_testFrom := z1_testFrom) (z0_testTo := z1_testTo) (z0_clauses := z1_clauses) (z0_parts := q13.2) (z0_readsTime := z1_readsTime) (z0_words := z1_words) (z0_stack := z1_stack) h18) rfl rfl (Nat.le_of_ble_eq_true rfl) kRule_add (List.mem_of_getElem? (i := 39) rfl) (by decide) (by decide) rfl rfl rfl rfl rfl rfl rfl dX7_readValue_75 ?_
        have hq := Option.some.inj h
        subst hq
        exact r_vret rfl dX7_readValue_78
def mRuleReader_readValue (z0_text : Nat → Int32) (z0_size : Int32) (z0_at : Int32) (z0_fault : Int32) (z1_steps : Nat → Int32) (z1_size : Int32) (z1_parts : Int32) (z1_readsTime : Int32) : Option (Int32 × Int32 × (Nat → Int32) × Int32 × Int32 × Int32) := (mCursor_peek z0_text z0_size z0_at).bind (fun q1 => (mCursor_isDigit q1.2 z0_text z0_size).bind (fun q2 => (if q2 = 0 then (mCursor_takeWord 3 z0_text z0_size q1.2).bind (fun q4 => mRuleReader_readValue_j36 q1.2 q2 z0_text z0_size q4.2 z0_fault z1_steps z1_size z1_parts z1_readsTime q4.1) else (mCursor_takeNumber (0 : Int32) (99999 : Int32) z0_text z0_size q1.2 z0_fault).bind (fun q19 => mRuleReader_readValue_j36 q1.2 q2 z0_text z0_size q19.2.1 q19.2.2 z1_steps z1_size z1_parts z1_readsTime q19.1))))
set_option maxHeartbeats 4000000 in
set_option maxRecDepth 20000 in
theorem cRuleReader_readValue {q : Int32 × Int32 × (Nat → Int32) × Int32 × Int32 × Int32}  (h : mRuleReader_readValue z0_text z0_size z0_at z0_fault z1_steps z1_size z1_parts z1_readsTime = some q) : rMet l D Z (ty7 K) MRuleReader_readValue [.ref (a0 0), .ref (a1 0)] (List.flatten [bCursor K a0 z0_text z0_size z0_at z0_fault, bRule K a1 z1_steps z1_size z1_sumFrom z1_testFrom z1_testTo z1_clauses z1_parts z1_readsTime z1_words z1_stack]) (List.flatten [bCursor K a0 z0_text z0_size q.1 q.2.1, bRule K a1 q.2.2.1 q.2.2.2.1 z1_sumFrom z1_testFrom z1_testTo z1_clauses q.2.2.2.2.1 q.2.2.2.2.2 z1_words z1_stack]) none := by
  refine rMet.of (by decide) rfl (Nat.le_of_ble_eq_true rfl) ?_
  refine r_sub (lv' := [(0, .ref (a0 0)), (1, .ref (a1 0))]) [0, 1] rfl ?_
  unfold mRuleReader_readValue at h
  refine r_aload_n 0 dX7_readValue_0 rfl ?_
  obtain ⟨q1, h1, h⟩ := bd_some h
  refine b_callVN (isC := [0]) (ci := 0)  (st := []) (bs1 := [bCursor K a0 z0_text z0_size q1.2 z0_fault, bRule K a1 z1_steps z1_size z1_sumFrom z1_testFrom z1_testTo z1_clauses z1_parts z1_readsTime z1_words z1_stack]) (cCursor_peek (a0 := a0) (z0_text := z0_text) (z0_size := z0_size) (z0_at := z0_at) (z0_fault := z0_fault) h1) rfl rfl (Nat.le_of_ble_eq_true rfl) kCursor_peek (List.mem_of_getElem? (i := 33) rfl) (by decide) (by decide) rfl rfl rfl rfl rfl rfl rfl dX7_readValue_1 ?_
  refine r_pop dX7_readValue_4 rfl ?_
  refine r_aload_n 0 dX7_readValue_5 rfl ?_
  refine gCursor_atN 0 rfl (List.mem_of_getElem? (i := 5) rfl) dX7_readValue_6 ?_
  refine r_istore_n (lv' := [(2, .int q1.2), (0, .ref (a0 0)), (1, .ref (a1 0))]) dX7_readValue_9 (Nat.le_of_ble_eq_true rfl) rfl ?_
  refine r_aload_n 1 dX7_readValue_10 rfl ?_
  refine r_iload_n 0 dX7_readValue_11 rfl ?_
  obtain ⟨q2, h2, h⟩ := bd_some h
  refine b_callVN (isC := [0]) (ci := 0)  (st := []) (bs1 := [bCursor K a0 z0_text z0_size q1.2 z0_fault, bRule K a1 z1_steps z1_size z1_sumFrom z1_testFrom z1_testTo z1_clauses z1_parts z1_readsTime z1_words z1_stack]) (cCursor_isDigit (a0 := a0) (z0_text := z0_text) (z0_size := z0_size) (z0_at := q1.2) (z0_fault := z0_fault) h2) rfl rfl (Nat.le_of_ble_eq_true rfl) kCursor_isDigit (List.mem_of_getElem? (i := 36) rfl) (by decide) (by decide) rfl rfl rfl rfl rfl rfl rfl dX7_readValue_12 ?_
  refine r_istore_n (lv' := [(3, .int q2), (2, .int q1.2), (0, .ref (a0 0)), (1, .ref (a1 0))]) dX7_readValue_15 (Nat.le_of_ble_eq_true rfl) rfl ?_
  refine r_iload_n 0 dX7_readValue_16 rfl ?_
  refine r_if_eq 30 dX7_readValue_17 (by decide) (fun c3 => ?_) (fun c3 => ?_)
  · replace h := it_pos c3 h
    refine r_aload_n 2 dX7_readValue_30 rfl ?_
    refine r_ldcS (tx := "buyer stall purse price praise came goods sold had grudge minute day ") (i := 3) (List.mem_of_getElem? (i := 3) rfl) dX7_readValue_31 ?_
    obtain ⟨q4, h4, h⟩ := bd_some h
    refine b_callVN (isC := [0]) (ci := 0)  (st := []) (bs1 := [bCursor K a0 z0_text z0_size q4.2 z0_fault, bRule K a1 z1_steps z1_size z1_sumFrom z1_testFrom z1_testTo z1_clauses z1_parts z1_readsTime z1_words z1_stack]) (cCursor_takeWord (a0 := a0) (z0_text := z0_text) (z0_size := z0_size) (z0_at := q1.2) (z0_fault := z0_fault) h4) rfl rfl (Nat.le_of_ble_eq_true rfl) kCursor_takeWord (List.mem_of_getElem? (i := 34) rfl) (by decide) (by decide) rfl rfl rfl rfl rfl rfl rfl dX7_readValue_33 ?_
    refine r_sub (lv' := [(0, .ref (a0 0)), (1, .ref (a1 0)), (2, .int q1.2), (3, .int q2)]) [2, 3, 1, 0] rfl ?_
    exact cRuleReader_readValue_j36   h
  · replace h := it_neg c3 h
    refine r_aload_n 2 dX7_readValue_20 rfl ?_
    refine r_iconst (x := (0 : Int32)) dX7_readValue_21 (by decide) ?_
    refine r_ldc (x := (99999 : Int32)) (tb_in (i := 8) (j := 24) rfl rfl) dX7_readValue_22 ?_
    obtain ⟨q19, h19, h⟩ := bd_some h
    refine b_callVN (isC := [0]) (ci := 0)  (st := []) (bs1 := [bCursor K a0 z0_text z0_size q19.2.1 q19.2.2, bRule K a1 z1_steps z1_size z1_sumFrom z1_testFrom z1_testTo z1_clauses z1_parts z1_readsTime z1_words z1_stack]) (cCursor_takeNumber (a0 := a0) (z0_text := z0_text) (z0_size := z0_size) (z0_at := q1.2) (z0_fault := z0_fault) h19) rfl rfl (Nat.le_of_ble_eq_true rfl) kCursor_takeNumber (List.mem_of_getElem? (i := 37) rfl) (by decide) (by decide) rfl rfl rfl rfl rfl rfl rfl dX7_readValue_24 ?_
    refine r_goto 36 dX7_readValue_27 (by decide) ?_
    refine r_sub (lv' := [(0, .ref (a0 0)), (1, .ref (a1 0)), (2, .int q1.2), (3, .int q2)]) [2, 3, 1, 0] rfl ?_
    exact cRuleReader_readValue_j36   h
end
theorem dX7_readSum_0 : decode cX7_readSum 0 = .ok (.iconst (-1), 1) := by decide +kernel
theorem dX7_readSum_1 : decode cX7_readSum 1 = .ok (.istore_n 2, 1) := by decide +kernel
theorem dX7_readSum_2 : decode cX7_readSum 2 = .ok (.iconst (-1), 1) := by decide +kernel
theorem dX7_readSum_3 : decode cX7_readSum 3 = .ok (.istore_n 3, 1) := by decide +kernel
theorem dX7_readSum_4 : decode cX7_readSum 4 = .ok (.iconst 1, 1) := by decide +kernel
theorem dX7_readSum_5 : decode cX7_readSum 5 = .ok (.istore 4, 2) := by decide +kernel
theorem dX7_readSum_7 : decode cX7_readSum 7 = .ok (.iconst 0, 1) := by decide +kernel
theorem dX7_readSum_8 : decode cX7_readSum 8 = .ok (.istore 5, 2) := by decide +kernel
theorem dX7_readSum_10 : decode cX7_readSum 10 = .ok (.iload 5, 2) := by decide +kernel
theorem dX7_readSum_12 : decode cX7_readSum 12 = .ok (.sipush 400, 3) := by decide +kernel
theorem dX7_readSum_15 : decode cX7_readSum 15 = .ok (.if_icmp .ge 102, 3) := by decide +kernel
theorem dX7_readSum_18 : decode cX7_readSum 18 = .ok (.iload 4, 2) := by decide +kernel
theorem dX7_readSum_20 : decode cX7_readSum 20 = .ok (.ifCond .eq 97, 3) := by decide +kernel
theorem dX7_readSum_23 : decode cX7_readSum 23 = .ok (.aload_n 0, 1) := by decide +kernel
theorem dX7_readSum_24 : decode cX7_readSum 24 = .ok (.aload_n 1, 1) := by decide +kernel
theorem dX7_readSum_25 : decode cX7_readSum 25 = .ok (.invokestatic 100, 3) := by decide +kernel
theorem dX7_readSum_28 : decode cX7_readSum 28 = .ok (.iload_n 3, 1) := by decide +kernel
theorem dX7_readSum_29 : decode cX7_readSum 29 = .ok (.iconst (-1), 1) := by decide +kernel
theorem dX7_readSum_30 : decode cX7_readSum 30 = .ok (.if_icmp .eq 12, 3) := by decide +kernel
theorem dX7_readSum_33 : decode cX7_readSum 33 = .ok (.aload_n 1, 1) := by decide +kernel
theorem dX7_readSum_34 : decode cX7_readSum 34 = .ok (.bipush 7, 2) := by decide +kernel
theorem dX7_readSum_36 : decode cX7_readSum 36 = .ok (.iload_n 3, 1) := by decide +kernel
theorem dX7_readSum_37 : decode cX7_readSum 37 = .ok (.iadd, 1) := by decide +kernel
theorem dX7_readSum_38 : decode cX7_readSum 38 = .ok (.iconst 0, 1) := by decide +kernel
theorem dX7_readSum_39 : decode cX7_readSum 39 = .ok (.invokevirtual 72, 3) := by decide +kernel
theorem dX7_readSum_42 : decode cX7_readSum 42 = .ok (.aload_n 0, 1) := by decide +kernel
theorem dX7_readSum_43 : decode cX7_readSum 43 = .ok (.invokevirtual 50, 3) := by decide +kernel
theorem dX7_readSum_46 : decode cX7_readSum 46 = .ok (.ifCond .eq 12, 3) := by decide +kernel
theorem dX7_readSum_49 : decode cX7_readSum 49 = .ok (.aload_n 0, 1) := by decide +kernel
theorem dX7_readSum_50 : decode cX7_readSum 50 = .ok (.ldc 103, 2) := by decide +kernel
theorem dX7_readSum_52 : decode cX7_readSum 52 = .ok (.invokevirtual 83, 3) := by decide +kernel
theorem dX7_readSum_55 : decode cX7_readSum 55 = .ok (.goto 4, 3) := by decide +kernel
theorem dX7_readSum_58 : decode cX7_readSum 58 = .ok (.iconst (-1), 1) := by decide +kernel
theorem dX7_readSum_59 : decode cX7_readSum 59 = .ok (.istore_n 3, 1) := by decide +kernel
theorem dX7_readSum_60 : decode cX7_readSum 60 = .ok (.iload_n 3, 1) := by decide +kernel
theorem dX7_readSum_61 : decode cX7_readSum 61 = .ok (.iconst (-1), 1) := by decide +kernel
theorem dX7_readSum_62 : decode cX7_readSum 62 = .ok (.if_icmp .eq 6, 3) := by decide +kernel
theorem dX7_readSum_65 : decode cX7_readSum 65 = .ok (.goto 46, 3) := by decide +kernel
theorem dX7_readSum_68 : decode cX7_readSum 68 = .ok (.iload_n 2, 1) := by decide +kernel
theorem dX7_readSum_69 : decode cX7_readSum 69 = .ok (.iconst (-1), 1) := by decide +kernel
theorem dX7_readSum_70 : decode cX7_readSum 70 = .ok (.if_icmp .eq 11, 3) := by decide +kernel
theorem dX7_readSum_73 : decode cX7_readSum 73 = .ok (.aload_n 1, 1) := by decide +kernel
theorem dX7_readSum_74 : decode cX7_readSum 74 = .ok (.iconst 5, 1) := by decide +kernel
theorem dX7_readSum_75 : decode cX7_readSum 75 = .ok (.iload_n 2, 1) := by decide +kernel
theorem dX7_readSum_76 : decode cX7_readSum 76 = .ok (.iadd, 1) := by decide +kernel
theorem dX7_readSum_77 : decode cX7_readSum 77 = .ok (.iconst 0, 1) := by decide +kernel
theorem dX7_readSum_78 : decode cX7_readSum 78 = .ok (.invokevirtual 72, 3) := by decide +kernel
theorem dX7_readSum_81 : decode cX7_readSum 81 = .ok (.aload_n 0, 1) := by decide +kernel
theorem dX7_readSum_82 : decode cX7_readSum 82 = .ok (.invokevirtual 50, 3) := by decide +kernel
theorem dX7_readSum_85 : decode cX7_readSum 85 = .ok (.ifCond .eq 12, 3) := by decide +kernel
theorem dX7_readSum_88 : decode cX7_readSum 88 = .ok (.aload_n 0, 1) := by decide +kernel
theorem dX7_readSum_89 : decode cX7_readSum 89 = .ok (.ldc 105, 2) := by decide +kernel
theorem dX7_readSum_91 : decode cX7_readSum 91 = .ok (.invokevirtual 83, 3) := by decide +kernel
theorem dX7_readSum_94 : decode cX7_readSum 94 = .ok (.goto 4, 3) := by decide +kernel
theorem dX7_readSum_97 : decode cX7_readSum 97 = .ok (.iconst (-1), 1) := by decide +kernel
theorem dX7_readSum_98 : decode cX7_readSum 98 = .ok (.istore_n 2, 1) := by decide +kernel
theorem dX7_readSum_99 : decode cX7_readSum 99 = .ok (.iload_n 2, 1) := by decide +kernel
theorem dX7_readSum_100 : decode cX7_readSum 100 = .ok (.iconst (-1), 1) := by decide +kernel
theorem dX7_readSum_101 : decode cX7_readSum 101 = .ok (.if_icmp .eq 7, 3) := by decide +kernel
theorem dX7_readSum_104 : decode cX7_readSum 104 = .ok (.iconst 1, 1) := by decide +kernel
theorem dX7_readSum_105 : decode cX7_readSum 105 = .ok (.goto 4, 3) := by decide +kernel
theorem dX7_readSum_108 : decode cX7_readSum 108 = .ok (.iconst 0, 1) := by decide +kernel
theorem dX7_readSum_109 : decode cX7_readSum 109 = .ok (.istore 4, 2) := by decide +kernel
theorem dX7_readSum_111 : decode cX7_readSum 111 = .ok (.iinc 5 1, 3) := by decide +kernel
theorem dX7_readSum_114 : decode cX7_readSum 114 = .ok (.goto (-104), 3) := by decide +kernel
theorem dX7_readSum_117 : decode cX7_readSum 117 = .ok (.return_, 1) := by decide +kernel
abbrev MRuleReader_readSum : rx_M := (RX7, yX7_readSum, cX7_readSum, 6, none, 9)
theorem kRuleReader_readSum : rKs MRuleReader_readSum 2 := ⟨tb_in (i := 9) (j := 8) rfl rfl, tb_in (i := 8) (j := 27) rfl rfl, tb_in (i := 9) (j := 1) rfl rfl, ⟨by decide, by decide, by decide +kernel⟩, by decide⟩
section
variable {a0 : Nat → Nat} {a1 : Nat → Nat} {z0_text : Nat → Int32} {z0_size : Int32} {z0_at : Int32} {z0_fault : Int32} {z1_steps : Nat → Int32} {z1_size : Int32} {z1_sumFrom : Nat → Int32} {z1_testFrom : Nat → Int32} {z1_testTo : Nat → Int32} {z1_clauses : Int32} {z1_parts : Int32} {z1_readsTime : Int32} {z1_words : Nat → Int64} {z1_stack : Nat → Int64}
def mRuleReader_readSum_j81 (k10 : Int32 → Int32 → Int32 → Int32 → Int32 → Int32 → (Nat → Int32) → Int32 → Int32 → Int32 → Option (Int32 × Int32 × (Nat → Int32) × Int32 × Int32 × Int32)) (x3 : Int32) (x5 : Int32) (z0_text : Nat → Int32) (z0_size : Int32) (z0_at : Int32) (z0_fault : Int32) (z1_steps : Nat → Int32) (z1_size : Int32) (z1_parts : Int32) (z1_readsTime : Int32) : Option (Int32 × Int32 × (Nat → Int32) × Int32 × Int32 × Int32) := (mCursor_isFine z0_fault).bind (fun q9 => (if q9 = 0 then (if (-1 : Int32) = (-1 : Int32) then k10 (-1 : Int32) x3 (0 : Int32) (x5 + (1 : Int32)) z0_at z0_fault z1_steps z1_size z1_parts z1_readsTime else k10 (-1 : Int32) x3 (1 : Int32) (x5 + (1 : Int32)) z0_at z0_fault z1_steps z1_size z1_parts z1_readsTime) else (mCursor_takeSign 5 z0_text z0_size z0_at).bind (fun q12 => (if q12.1 = (-1 : Int32) then k10 q12.1 x3 (0 : Int32) (x5 + (1 : Int32)) q12.2 z0_fault z1_steps z1_size z1_parts z1_readsTime else k10 q12.1 x3 (1 : Int32) (x5 + (1 : Int32)) q12.2 z0_fault z1_steps z1_size z1_parts z1_readsTime))))
set_option maxHeartbeats 4000000 in
set_option maxRecDepth 20000 in
theorem cRuleReader_readSum_j81 {q : Int32 × Int32 × (Nat → Int32) × Int32 × Int32 × Int32} {x3 : Int32} {x5 : Int32} {k10 : Int32 → Int32 → Int32 → Int32 → Int32 → Int32 → (Nat → Int32) → Int32 → Int32 → Int32 → Option (Int32 × Int32 × (Nat → Int32) × Int32 × Int32 × Int32)} (hk10 : ∀ (x2 : Int32) (x3 : Int32) (x4 : Int32) (x5 : Int32) (z0_at : Int32) (z0_fault : Int32) (z1_steps : Nat → Int32) (z1_size : Int32) (z1_parts : Int32) (z1_readsTime : Int32), k10 x2 x3 x4 x5 z0_at z0_fault z1_steps z1_size z1_parts z1_readsTime = some q → rW l D Z (ty7 K) MRuleReader_readSum 10 [(0, .ref (a0 0)), (1, .ref (a1 0)), (2, .int x2), (3, .int x3), (4, .int x4), (5, .int x5)] [] (List.flatten [bCursor K a0 z0_text z0_size z0_at z0_fault, bRule K a1 z1_steps z1_size z1_sumFrom z1_testFrom z1_testTo z1_clauses z1_parts z1_readsTime z1_words z1_stack]) (List.flatten [bCursor K a0 z0_text z0_size q.1 q.2.1, bRule K a1 q.2.2.1 q.2.2.2.1 z1_sumFrom z1_testFrom z1_testTo z1_clauses q.2.2.2.2.1 q.2.2.2.2.2 z1_words z1_stack]) none) (h : mRuleReader_readSum_j81 k10 x3 x5 z0_text z0_size z0_at z0_fault z1_steps z1_size z1_parts z1_readsTime = some q) : rW l D Z (ty7 K) MRuleReader_readSum 81 [(0, .ref (a0 0)), (1, .ref (a1 0)), (3, .int x3), (5, .int x5)] [] (List.flatten [bCursor K a0 z0_text z0_size z0_at z0_fault, bRule K a1 z1_steps z1_size z1_sumFrom z1_testFrom z1_testTo z1_clauses z1_parts z1_readsTime z1_words z1_stack]) (List.flatten [bCursor K a0 z0_text z0_size q.1 q.2.1, bRule K a1 q.2.2.1 q.2.2.2.1 z1_sumFrom z1_testFrom z1_testTo z1_clauses q.2.2.2.2.1 q.2.2.2.2.2 z1_words z1_stack]) none := by
  unfold mRuleReader_readSum_j81 at h
  refine r_aload_n 0 dX7_readSum_81 rfl ?_
  obtain ⟨q9, h9, h⟩ := bd_some h
  refine b_callVN (isC := [0]) (ci := 0)  (st := []) (bs1 := [bCursor K a0 z0_text z0_size z0_at z0_fault, bRule K a1 z1_steps z1_size z1_sumFrom z1_testFrom z1_testTo z1_clauses z1_parts z1_readsTime z1_words z1_stack]) (cCursor_isFine (a0 := a0) (z0_text := z0_text) (z0_size := z0_size) (z0_at := z0_at) (z0_fault := z0_fault) h9) rfl rfl (Nat.le_of_ble_eq_true rfl) kCursor_isFine (List.mem_of_getElem? (i := 38) rfl) (by decide) (by decide) rfl rfl rfl rfl rfl rfl rfl dX7_readSum_82 ?_
  refine r_if_eq 97 dX7_readSum_85 (by decide) (fun c10 => ?_) (fun c10 => ?_)
  · replace h := it_pos c10 h
    refine r_iconst (x := (-1 : Int32)) dX7_readSum_97 (by decide) ?_
    refine r_istore_n (lv' := [(2, .int (-1 : Int32)), (0, .ref (a0 0)), (1, .ref (a1 0)), (3, .int x3), (5, .int x5)]) dX7_readSum_98 (Nat.le_of_ble_eq_true rfl) rfl ?_
    refine r_iload_n 0 dX7_readSum_99 rfl ?_
    refine r_iconst (x := (-1 : Int32)) dX7_readSum_100 (by decide) ?_
    refine r_icmp_eq 108 dX7_readSum_101 (by decide) (fun c11 => ?_) (fun c11 => ?_)
    · replace h := it_pos c11 h
      refine r_iconst (x := (0 : Int32)) dX7_readSum_108 (by decide) ?_
      refine r_istore (lv' := [(4, .int (0 : Int32)), (2, .int (-1 : Int32)), (0, .ref (a0 0)), (1, .ref (a1 0)), (3, .int x3), (5, .int x5)]) dX7_readSum_109 (Nat.le_of_ble_eq_true rfl) rfl ?_
      refine r_iinc (y := (x5 + (1 : Int32))) (lv' := [(5, .int (x5 + (1 : Int32))), (4, .int (0 : Int32)), (2, .int (-1 : Int32)), (0, .ref (a0 0)), (1, .ref (a1 0)), (3, .int x3)]) 5 dX7_readSum_111 rfl rfl (Nat.le_of_ble_eq_true rfl) rfl ?_
      refine r_goto 10 dX7_readSum_114 (by decide) ?_
      refine r_sub (lv' := [(0, .ref (a0 0)), (1, .ref (a1 0)), (2, .int (-1 : Int32)), (3, .int x3), (4, .int (0 : Int32)), (5, .int (x5 + (1 : Int32)))]) [3, 4, 2, 5, 1, 0] rfl ?_
      exact hk10 (-1 : Int32) x3 (0 : Int32) (x5 + (1 : Int32)) z0_at z0_fault z1_steps z1_size z1_parts z1_readsTime h
    · replace h := it_neg c11 h
      refine r_iconst (x := (1 : Int32)) dX7_readSum_104 (by decide) ?_
      refine r_goto 109 dX7_readSum_105 (by decide) ?_
      refine r_istore (lv' := [(4, .int (1 : Int32)), (2, .int (-1 : Int32)), (0, .ref (a0 0)), (1, .ref (a1 0)), (3, .int x3), (5, .int x5)]) dX7_readSum_109 (Nat.le_of_ble_eq_true rfl) rfl ?_
      refine r_iinc (y := (x5 + (1 : Int32))) (lv' := [(5, .int (x5 + (1 : Int32))), (4, .int (1 : Int32)), (2, .int (-1 : Int32)), (0, .ref (a0 0)), (1, .ref (a1 0)), (3, .int x3)]) 5 dX7_readSum_111 rfl rfl (Nat.le_of_ble_eq_true rfl) rfl ?_
      refine r_goto 10 dX7_readSum_114 (by decide) ?_
      refine r_sub (lv' := [(0, .ref (a0 0)), (1, .ref (a1 0)), (2, .int (-1 : Int32)), (3, .int x3), (4, .int (1 : Int32)), (5, .int (x5 + (1 : Int32)))]) [3, 4, 2, 5, 1, 0] rfl ?_
      exact hk10 (-1 : Int32) x3 (1 : Int32) (x5 + (1 : Int32)) z0_at z0_fault z1_steps z1_size z1_parts z1_readsTime h
  · replace h := it_neg c10 h
    refine r_aload_n 0 dX7_readSum_88 rfl ?_
    refine r_ldcS (tx := "+-") (i := 5) (List.mem_of_getElem? (i := 5) rfl) dX7_readSum_89 ?_
    obtain ⟨q12, h12, h⟩ := bd_some h
    refine b_callVN (isC := [0]) (ci := 0)  (st := []) (bs1 := [bCursor K a0 z0_text z0_size q12.2 z0_fault, bRule K a1 z1_steps z1_size z1_sumFrom z1_testFrom z1_testTo z1_clauses z1_parts z1_readsTime z1_words z1_stack]) (cCursor_takeSign (a0 := a0) (z0_text := z0_text) (z0_size := z0_size) (z0_at := z0_at) (z0_fault := z0_fault) h12) rfl rfl (Nat.le_of_ble_eq_true rfl) kCursor_takeSign (List.mem_of_getElem? (i := 40) rfl) (by decide) (by decide) rfl rfl rfl rfl rfl rfl rfl dX7_readSum_91 ?_
    refine r_goto 98 dX7_readSum_94 (by decide) ?_
    refine r_istore_n (lv' := [(2, .int q12.1), (0, .ref (a0 0)), (1, .ref (a1 0)), (3, .int x3), (5, .int x5)]) dX7_readSum_98 (Nat.le_of_ble_eq_true rfl) rfl ?_
    refine r_iload_n 0 dX7_readSum_99 rfl ?_
    refine r_iconst (x := (-1 : Int32)) dX7_readSum_100 (by decide) ?_
    refine r_icmp_eq 108 dX7_readSum_101 (by decide) (fun c13 => ?_) (fun c13 => ?_)
    · replace h := it_pos c13 h
      refine r_iconst (x := (0 : Int32)) dX7_readSum_108 (by decide) ?_
      refine r_istore (lv' := [(4, .int (0 : Int32)), (2, .int q12.1), (0, .ref (a0 0)), (1, .ref (a1 0)), (3, .int x3), (5, .int x5)]) dX7_readSum_109 (Nat.le_of_ble_eq_true rfl) rfl ?_
      refine r_iinc (y := (x5 + (1 : Int32))) (lv' := [(5, .int (x5 + (1 : Int32))), (4, .int (0 : Int32)), (2, .int q12.1), (0, .ref (a0 0)), (1, .ref (a1 0)), (3, .int x3)]) 5 dX7_readSum_111 rfl rfl (Nat.le_of_ble_eq_true rfl) rfl ?_
      refine r_goto 10 dX7_readSum_114 (by decide) ?_
      refine r_sub (lv' := [(0, .ref (a0 0)), (1, .ref (a1 0)), (2, .int q12.1), (3, .int x3), (4, .int (0 : Int32)), (5, .int (x5 + (1 : Int32)))]) [3, 4, 2, 5, 1, 0] rfl ?_
      exact hk10 q12.1 x3 (0 : Int32) (x5 + (1 : Int32)) q12.2 z0_fault z1_steps z1_size z1_parts z1_readsTime h
    · replace h := it_neg c13 h
      refine r_iconst (x := (1 : Int32)) dX7_readSum_104 (by decide) ?_
      refine r_goto 109 dX7_readSum_105 (by decide) ?_
      refine r_istore (lv' := [(4, .int (1 : Int32)), (2, .int q12.1), (0, .ref (a0 0)), (1, .ref (a1 0)), (3, .int x3), (5, .int x5)]) dX7_readSum_109 (Nat.le_of_ble_eq_true rfl) rfl ?_
      refine r_iinc (y := (x5 + (1 : Int32))) (lv' := [(5, .int (x5 + (1 : Int32))), (4, .int (1 : Int32)), (2, .int q12.1), (0, .ref (a0 0)), (1, .ref (a1 0)), (3, .int x3)]) 5 dX7_readSum_111 rfl rfl (Nat.le_of_ble_eq_true rfl) rfl ?_
      refine r_goto 10 dX7_readSum_114 (by decide) ?_
      refine r_sub (lv' := [(0, .ref (a0 0)), (1, .ref (a1 0)), (2, .int q12.1), (3, .int x3), (4, .int (1 : Int32)), (5, .int (x5 + (1 : Int32)))]) [3, 4, 2, 5, 1, 0] rfl ?_
      exact hk10 q12.1 x3 (1 : Int32) (x5 + (1 : Int32)) q12.2 z0_fault z1_steps z1_size z1_parts z1_readsTime h
def mRuleReader_readSum_j59 (k10 : Int32 → Int32 → Int32 → Int32 → Int32 → Int32 → (Nat → Int32) → Int32 → Int32 → Int32 → Option (Int32 × Int32 × (Nat → Int32) × Int32 × Int32 × Int32)) (x2 : Int32) (x4 : Int32) (x5 : Int32) (z0_text : Nat → Int32) (z0_size : Int32) (z0_at : Int32) (z0_fault : Int32) (z1_steps : Nat → Int32) (z1_size : Int32) (z1_parts : Int32) (z1_readsTime : Int32) (s0 : Int32) : Option (Int32 × Int32 × (Nat → Int32) × Int32 × Int32 × Int32) := (if s0 = (-1 : Int32) then (if x2 = (-1 : Int32) then mRuleReader_readSum_j81 k10 s0 x5 z0_text z0_size z0_at z0_fault z1_steps z1_size z1_parts z1_readsTime else (mRule_add ((5 : Int32) + x2) (0 : Int32) z1_steps z1_size z1_readsTime).bind (fun q14 => mRuleReader_readSum_j81 k10 s0 x5 z0_text z0_size z0_at z0_fault q14.1 q14.2.1 z1_parts q14.2.2)) else k10 x2 s0 x4 (x5 + (1 : Int32)) z0_at z0_fault z1_steps z1_size z1_parts z1_readsTime)
set_option maxHeartbeats 4000000 in
set_option maxRecDepth 20000 in
theorem cRuleReader_readSum_j59 {q : Int32 × Int32 × (Nat → Int32) × Int32 × Int32 × Int32} {x2 : Int32} {x4 : Int32} {x5 : Int32} {s0 : Int32} {k10 : Int32 → Int32 → Int32 → Int32 → Int32 → Int32 → (Nat → Int32) → Int32 → Int32 → Int32 → Option (Int32 × Int32 × (Nat → Int32) × Int32 × Int32 × Int32)} (hk10 : ∀ (x2 : Int32) (x3 : Int32) (x4 : Int32) (x5 : Int32) (z0_at : Int32) (z0_fault : Int32) (z1_steps : Nat → Int32) (z1_size : Int32) (z1_parts : Int32) (z1_readsTime : Int32), k10 x2 x3 x4 x5 z0_at z0_fault z1_steps z1_size z1_parts z1_readsTime = some q → rW l D Z (ty7 K) MRuleReader_readSum 10 [(0, .ref (a0 0)), (1, .ref (a1 0)), (2, .int x2), (3, .int x3), (4, .int x4), (5, .int x5)] [] (List.flatten [bCursor K a0 z0_text z0_size z0_at z0_fault, bRule K a1 z1_steps z1_size z1_sumFrom z1_testFrom z1_testTo z1_clauses z1_parts z1_readsTime z1_words z1_stack]) (List.flatten [bCursor K a0 z0_text z0_size q.1 q.2.1, bRule K a1 q.2.2.1 q.2.2.2.1 z1_sumFrom z1_testFrom z1_testTo z1_clauses q.2.2.2.2.1 q.2.2.2.2.2 z1_words z1_stack]) none) (h : mRuleReader_readSum_j59 k10 x2 x4 x5 z0_text z0_size z0_at z0_fault z1_steps z1_size z1_parts z1_readsTime s0 = some q) : rW l D Z (ty7 K) MRuleReader_readSum 59 [(0, .ref (a0 0)), (1, .ref (a1 0)), (2, .int x2), (4, .int x4), (5, .int x5)] [.int s0] (List.flatten [bCursor K a0 z0_text z0_size z0_at z0_fault, bRule K a1 z1_steps z1_size z1_sumFrom z1_testFrom z1_testTo z1_clauses z1_parts z1_readsTime z1_words z1_stack]) (List.flatten [bCursor K a0 z0_text z0_size q.1 q.2.1, bRule K a1 q.2.2.1 q.2.2.2.1 z1_sumFrom z1_testFrom z1_testTo z1_clauses q.2.2.2.2.1 q.2.2.2.2.2 z1_words z1_stack]) none := by
  unfold mRuleReader_readSum_j59 at h
  refine r_istore_n (lv' := [(3, .int s0), (0, .ref (a0 0)), (1, .ref (a1 0)), (2, .int x2), (4, .int x4), (5, .int x5)]) dX7_readSum_59 (Nat.le_of_ble_eq_true rfl) rfl ?_
  refine r_iload_n 0 dX7_readSum_60 rfl ?_
  refine r_iconst (x := (-1 : Int32)) dX7_readSum_61 (by decide) ?_
  refine r_icmp_eq 68 dX7_readSum_62 (by decide) (fun c7 => ?_) (fun c7 => ?_)
  · replace h := it_pos c7 h
    refine r_iload_n 3 dX7_readSum_68 rfl ?_
    refine r_iconst (x := (-1 : Int32)) dX7_readSum_69 (by decide) ?_
    refine r_icmp_eq 81 dX7_readSum_70 (by decide) (fun c8 => ?_) (fun c8 => ?_)
    · replace h := it_pos c8 h
      refine r_sub (lv' := [(0, .ref (a0 0)), (1, .ref (a1 0)), (3, .int s0), (5, .int x5)]) [1, 2, 0, 5] rfl ?_
      exact cRuleReader_readSum_j81  (hk10) h
    · replace h := it_neg c8 h
      refine r_aload_n 2 dX7_readSum_73 rfl ?_
      refine r_iconst (x := (5 : Int32)) dX7_readSum_74 (by decide) ?_
      refine r_iload_n 3 dX7_readSum_75 rfl ?_
      refine r_iadd dX7_readSum_76 ?_
      refine r_iconst (x := (0 : Int32)) dX7_readSum_77 (by decide) ?_
      obtain ⟨q14, h14, h⟩ := bd_some h
      refine b_callVN (isC := [1]) (ci := 5)  (st := []) (bs1 := [bCursor K a0 z0_text z0_size z0_at z0_fault, bRule K a1 q14.1 q14.2.1 z1_sumFrom z1_testFrom z1_testTo z1_clauses z1_parts q14.2.2 z1_words z1_stack]) (cRule_add (a0 := a1) (z0_steps := z1_steps) (z0_size := z1_size) (z0_sumFrom := z1_sumFrom) (z0_testFrom := z1_testFrom) (z0_testTo := z1_testTo) (z0_clauses := z1_clauses) (z0_parts := z1_parts) (z0_readsTime := z1_readsTime) (z0_words := z1_words) (z0_stack := z1_stack) h14) rfl rfl (Nat.le_of_ble_eq_true rfl) kRule_add (List.mem_of_getElem? (i := 39) rfl) (by decide) (by decide) rfl rfl rfl rfl rfl rfl rfl dX7_readSum_78 ?_
      refine r_sub (lv' := [(0, .ref (a0 0)), (1, .ref (a1 0)), (3, .int s0), (5, .int x5)]) [1, 2, 0, 5] rfl ?_
      exact cRuleReader_readSum_j81  (hk10) h
  · replace h := it_neg c7 h
    refine r_goto 111 dX7_readSum_65 (by decide) ?_
    refine r_iinc (y := (x5 + (1 : Int32))) (lv' := [(5, .int (x5 + (1 : Int32))), (3, .int s0), (0, .ref (a0 0)), (1, .ref (a1 0)), (2, .int x2), (4, .int x4)]) 5 dX7_readSum_111 rfl rfl (Nat.le_of_ble_eq_true rfl) rfl ?_
    refine r_goto 10 dX7_readSum_114 (by decide) ?_
    refine r_sub (lv' := [(0, .ref (a0 0)), (1, .ref (a1 0)), (2, .int x2), (3, .int s0), (4, .int x4), (5, .int (x5 + (1 : Int32)))]) [2, 3, 4, 1, 5, 0] rfl ?_
    exact hk10 x2 s0 x4 (x5 + (1 : Int32)) z0_at z0_fault z1_steps z1_size z1_parts z1_readsTime h
def mRuleReader_readSum_j42 (k10 : Int32 → Int32 → Int32 → Int32 → Int32 → Int32 → (Nat → Int32) → Int32 → Int32 → Int32 → Option (Int32 × Int32 × (Nat → Int32) × Int32 × Int32 × Int32)) (x2 : Int32) (x4 : Int32) (x5 : Int32) (z0_text : Nat → Int32) (z0_size : Int32) (z0_at : Int32) (z0_fault : Int32) (z1_steps : Nat → Int32) (z1_size : Int32) (z1_parts : Int32) (z1_readsTime : Int32) : Option (Int32 × Int32 × (Nat → Int32) × Int32 × Int32 × Int32) := (mCursor_isFine z0_fault).bind (fun q5 => (if q5 = 0 then mRuleReader_readSum_j59 k10 x2 x4 x5 z0_text z0_size z0_at z0_fault z1_steps z1_size z1_parts z1_readsTime (-1 : Int32) else (mCursor_takeSign 4 z0_text z0_size z0_at).bind (fun q15 => mRuleReader_readSum_j59 k10 x2 x4 x5 z0_text z0_size q15.2 z0_fault z1_steps z1_size z1_parts z1_readsTime q15.1)))
set_option maxHeartbeats 4000000 in
set_option maxRecDepth 20000 in
theorem cRuleReader_readSum_j42 {q : Int32 × Int32 × (Nat → Int32) × Int32 × Int32 × Int32} {x2 : Int32} {x4 : Int32} {x5 : Int32} {k10 : Int32 → Int32 → Int32 → Int32 → Int32 → Int32 → (Nat → Int32) → Int32 → Int32 → Int32 → Option (Int32 × Int32 × (Nat → Int32) × Int32 × Int32 × Int32)} (hk10 : ∀ (x2 : Int32) (x3 : Int32) (x4 : Int32) (x5 : Int32) (z0_at : Int32) (z0_fault : Int32) (z1_steps : Nat → Int32) (z1_size : Int32) (z1_parts : Int32) (z1_readsTime : Int32), k10 x2 x3 x4 x5 z0_at z0_fault z1_steps z1_size z1_parts z1_readsTime = some q → rW l D Z (ty7 K) MRuleReader_readSum 10 [(0, .ref (a0 0)), (1, .ref (a1 0)), (2, .int x2), (3, .int x3), (4, .int x4), (5, .int x5)] [] (List.flatten [bCursor K a0 z0_text z0_size z0_at z0_fault, bRule K a1 z1_steps z1_size z1_sumFrom z1_testFrom z1_testTo z1_clauses z1_parts z1_readsTime z1_words z1_stack]) (List.flatten [bCursor K a0 z0_text z0_size q.1 q.2.1, bRule K a1 q.2.2.1 q.2.2.2.1 z1_sumFrom z1_testFrom z1_testTo z1_clauses q.2.2.2.2.1 q.2.2.2.2.2 z1_words z1_stack]) none) (h : mRuleReader_readSum_j42 k10 x2 x4 x5 z0_text z0_size z0_at z0_fault z1_steps z1_size z1_parts z1_readsTime = some q) : rW l D Z (ty7 K) MRuleReader_readSum 42 [(0, .ref (a0 0)), (1, .ref (a1 0)), (2, .int x2), (4, .int x4), (5, .int x5)] [] (List.flatten [bCursor K a0 z0_text z0_size z0_at z0_fault, bRule K a1 z1_steps z1_size z1_sumFrom z1_testFrom z1_testTo z1_clauses z1_parts z1_readsTime z1_words z1_stack]) (List.flatten [bCursor K a0 z0_text z0_size q.1 q.2.1, bRule K a1 q.2.2.1 q.2.2.2.1 z1_sumFrom z1_testFrom z1_testTo z1_clauses q.2.2.2.2.1 q.2.2.2.2.2 z1_words z1_stack]) none := by
  unfold mRuleReader_readSum_j42 at h
  refine r_aload_n 0 dX7_readSum_42 rfl ?_
  obtain ⟨q5, h5, h⟩ := bd_some h
  refine b_callVN (isC := [0]) (ci := 0)  (st := []) (bs1 := [bCursor K a0 z0_text z0_size z0_at z0_fault, bRule K a1 z1_steps z1_size z1_sumFrom z1_testFrom z1_testTo z1_clauses z1_parts z1_readsTime z1_words z1_stack]) (cCursor_isFine (a0 := a0) (z0_text := z0_text) (z0_size := z0_size) (z0_at := z0_at) (z0_fault := z0_fault) h5) rfl rfl (Nat.le_of_ble_eq_true rfl) kCursor_isFine (List.mem_of_getElem? (i := 38) rfl) (by decide) (by decide) rfl rfl rfl rfl rfl rfl rfl dX7_readSum_43 ?_
  refine r_if_eq 58 dX7_readSum_46 (by decide) (fun c6 => ?_) (fun c6 => ?_)
  · replace h := it_pos c6 h
    refine r_iconst (x := (-1 : Int32)) dX7_readSum_58 (by decide) ?_
    exact cRuleReader_readSum_j59  (hk10) h
  · replace h := it_neg c6 h
    refine r_aload_n 0 dX7_readSum_49 rfl ?_
    refine r_ldcS (tx := "*/%") (i := 4) (List.mem_of_getElem? (i := 4) rfl) dX7_readSum_50 ?_
    obtain ⟨q15, h15, h⟩ := bd_some h
    refine b_callVN (isC := [0]) (ci := 0)  (st := []) (bs1 := [bCursor K a0 z0_text z0_size q15.2 z0_fault, bRule K a1 z1_steps z1_size z1_sumFrom z1_testFrom z1_testTo z1_clauses z1_parts z1_readsTime z1_words z1_stack]) (cCursor_takeSign (a0 := a0) (z0_text := z0_text) (z0_size := z0_size) (z0_at := z0_at) (z0_fault := z0_fault) h15) rfl rfl (Nat.le_of_ble_eq_true rfl) kCursor_takeSign (List.mem_of_getElem? (i := 40) rfl) (by decide) (by decide) rfl rfl rfl rfl rfl rfl rfl dX7_readSum_52 ?_
    refine r_goto 59 dX7_readSum_55 (by decide) ?_
    exact cRuleReader_readSum_j59  (hk10) h
def mRuleReader_readSum_l10 (z0_text : Nat → Int32) (z0_size : Int32) : Nat → Int32 → Int32 → Int32 → Int32 → Int32 → Int32 → (Nat → Int32) → Int32 → Int32 → Int32 → Option (Int32 × Int32 × (Nat → Int32) × Int32 × Int32 × Int32)
  | 0, _, _, _, _, _, _, _, _, _, _ => none
  | n + 1, x2, x3, x4, x5, z0_at, z0_fault, z1_steps, z1_size, z1_parts, z1_readsTime => (if (400 : Int32) ≤ x5 then some (z0_at, z0_fault, z1_steps, z1_size, z1_parts, z1_readsTime) else (if x4 = 0 then some (z0_at, z0_fault, z1_steps, z1_size, z1_parts, z1_readsTime) else (mRuleReader_readValue z0_text z0_size z0_at z0_fault z1_steps z1_size z1_parts z1_readsTime).bind (fun q3 => (if x3 = (-1 : Int32) then mRuleReader_readSum_j42 (mRuleReader_readSum_l10 z0_text z0_size n) x2 x4 x5 z0_text z0_size q3.1 q3.2.1 q3.2.2.1 q3.2.2.2.1 q3.2.2.2.2.1 q3.2.2.2.2.2 else (mRule_add ((7 : Int32) + x3) (0 : Int32) q3.2.2.1 q3.2.2.2.1 q3.2.2.2.2.2).bind (fun q16 => mRuleReader_readSum_j42 (mRuleReader_readSum_l10 z0_text z0_size n) x2 x4 x5 z0_text z0_size q3.1 q3.2.1 q16.1 q16.2.1 q3.2.2.2.2.1 q16.2.2)))))
set_option maxHeartbeats 4000000 in
set_option maxRecDepth 20000 in
theorem cRuleReader_readSum_l10 {q : Int32 × Int32 × (Nat → Int32) × Int32 × Int32 × Int32}   : ∀ (n : Nat) (x2 : Int32) (x3 : Int32) (x4 : Int32) (x5 : Int32) (z0_at : Int32) (z0_fault : Int32) (z1_steps : Nat → Int32) (z1_size : Int32) (z1_parts : Int32) (z1_readsTime : Int32), mRuleReader_readSum_l10 z0_text z0_size n x2 x3 x4 x5 z0_at z0_fault z1_steps z1_size z1_parts z1_readsTime = some q → rW l D Z (ty7 K) MRuleReader_readSum 10 [(0, .ref (a0 0)), (1, .ref (a1 0)), (2, .int x2), (3, .int x3), (4, .int x4), (5, .int x5)] [] (List.flatten [bCursor K a0 z0_text z0_size z0_at z0_fault, bRule K a1 z1_steps z1_size z1_sumFrom z1_testFrom z1_testTo z1_clauses z1_parts z1_readsTime z1_words z1_stack]) (List.flatten [bCursor K a0 z0_text z0_size q.1 q.2.1, bRule K a1 q.2.2.1 q.2.2.2.1 z1_sumFrom z1_testFrom z1_testTo z1_clauses q.2.2.2.2.1 q.2.2.2.2.2 z1_words z1_stack]) none := by
  intro n
  induction n with
  | zero => intro x2 x3 x4 x5 z0_at z0_fault z1_steps z1_size z1_parts z1_readsTime h; unfold mRuleReader_readSum_l10 at h; cases h
  | succ n ih =>
    intro x2 x3 x4 x5 z0_at z0_fault z1_steps z1_size z1_parts z1_readsTime h
    unfold mRuleReader_readSum_l10 at h
    refine r_iload 5 dX7_readSum_10 rfl ?_
    refine r_sipush (x := (400 : Int32)) dX7_readSum_12 (by decide) ?_
    refine r_icmp_ge 117 dX7_readSum_15 (by decide) (fun c1 => ?_) (fun c1 => ?_)
    · replace h := it_pos c1 h
      have hq := Option.some.inj h
      subst hq
      exact r_vret rfl dX7_readSum_117
    · replace h := it_neg c1 h
      refine r_iload 4 dX7_readSum_18 rfl ?_
      refine r_if_eq 117 dX7_readSum_20 (by decide) (fun c2 => ?_) (fun c2 => ?_)
      · replace h := it_pos c2 h
        have hq := Option.some.inj h
        subst hq
        exact r_vret rfl dX7_readSum_117
      · replace h := it_neg c2 h
        refine r_aload_n 0 dX7_readSum_23 rfl ?_
        refine r_aload_n 1 dX7_readSum_24 rfl ?_
        obtain ⟨q3, h3, h⟩ := bd_some h
        refine b_callS (isC := [0, 1]) (st := []) (bs1 := [bCursor K a0 z0_text z0_size q3.1 q3.2.1, bRule K a1 q3.2.2.1 q3.2.2.2.1 z1_sumFrom z1_testFrom z1_testTo z1_clauses q3.2.2.2.2.1 q3.2.2.2.2.2 z1_words z1_stack]) (cRuleReader_readValue (a0 := a0) (a1 := a1) (z0_text := z0_text) (z0_size := z0_size) (z0_at := z0_at) (z0_fault := z0_fault) (z1_steps := z1_steps) (z1_size := z1_size) (z1_sumFrom := z1_sumFrom) (z1_testFrom := z1_testFrom) (z1_testTo := z1_testTo) (z1_clauses := z1_clauses) (z1_parts := z1_parts) (z1_readsTime := z1_readsTime) (z1_words := z1_words) (z1_stack := z1_stack) h3) rfl rfl (Nat.le_of_ble_eq_true rfl) kRuleReader_readValue (tb_in (i := 8) (j := 31) rfl rfl) (by decide) (by decide) rfl rfl rfl dX7_readSum_25 ?_
        refine r_iload_n 3 dX7_readSum_28 rfl ?_
        refine r_iconst (x := (-1 : Int32)) dX7_readSum_29 (by decide) ?_
        refine r_icmp_eq 42 dX7_readSum_30 (by decide) (fun c4 => ?_) (fun c4 => ?_)
        · replace h := it_pos c4 h
          refine r_sub (lv' := [(0, .ref (a0 0)), (1, .ref (a1 0)), (2, .int x2), (4, .int x4), (5, .int x5)]) [0, 1, 2, 4, 5] rfl ?_
          exact cRuleReader_readSum_j42  (ih) h
        · replace h := it_neg c4 h
          refine r_aload_n 1 dX7_readSum_33 rfl ?_
          refine r_bipush (x := (7 : Int32)) dX7_readSum_34 (by decide) ?_
          refine r_iload_n 3 dX7_readSum_36 rfl ?_
          refine r_iadd dX7_readSum_37 ?_
          refine r_iconst (x := (0 : Int32)) dX7_readSum_38 (by decide) ?_
          obtain ⟨q16, h16, h⟩ := bd_some h
          refine b_callVN (isC := [1]) (ci := 5)  (st := []) (bs1 := [bCursor K a0 z0_text z0_size q3.1 q3.2.1, bRule K a1 q16.1 q16.2.1 z1_sumFrom z1_testFrom z1_testTo z1_clauses q3.2.2.2.2.1 q16.2.2 z1_words z1_stack]) (cRule_add (a0 := a1) (z0_steps := q3.2.2.1) (z0_size := q3.2.2.2.1) (z0_sumFrom := z1_sumFrom) (z0_testFrom := z1_testFrom) (z0_testTo := z1_testTo) (z0_clauses := z1_clauses) (z0_parts := q3.2.2.2.2.1) (z0_readsTime := q3.2.2.2.2.2) (z0_words := z1_words) (z0_stack := z1_stack) h16) rfl rfl (Nat.le_of_ble_eq_true rfl) kRule_add (List.mem_of_getElem? (i := 39) rfl) (by decide) (by decide) rfl rfl rfl rfl rfl rfl rfl dX7_readSum_39 ?_
          refine r_sub (lv' := [(0, .ref (a0 0)), (1, .ref (a1 0)), (2, .int x2), (4, .int x4), (5, .int x5)]) [0, 1, 2, 4, 5] rfl ?_
          exact cRuleReader_readSum_j42  (ih) h
def mRuleReader_readSum (z0_text : Nat → Int32) (z0_size : Int32) (z0_at : Int32) (z0_fault : Int32) (z1_steps : Nat → Int32) (z1_size : Int32) (z1_parts : Int32) (z1_readsTime : Int32) : Option (Int32 × Int32 × (Nat → Int32) × Int32 × Int32 × Int32) := mRuleReader_readSum_l10 z0_text z0_size FU (-1 : Int32) (-1 : Int32) (1 : Int32) (0 : Int32) z0_at z0_fault z1_steps z1_size z1_parts z1_readsTime
set_option maxHeartbeats 4000000 in
set_option maxRecDepth 20000 in
theorem cRuleReader_readSum {q : Int32 × Int32 × (Nat → Int32) × Int32 × Int32 × Int32}  (h : mRuleReader_readSum z0_text z0_size z0_at z0_fault z1_steps z1_size z1_parts z1_readsTime = some q) : rMet l D Z (ty7 K) MRuleReader_readSum [.ref (a0 0), .ref (a1 0)] (List.flatten [bCursor K a0 z0_text z0_size z0_at z0_fault, bRule K a1 z1_steps z1_size z1_sumFrom z1_testFrom z1_testTo z1_clauses z1_parts z1_readsTime z1_words z1_stack]) (List.flatten [bCursor K a0 z0_text z0_size q.1 q.2.1, bRule K a1 q.2.2.1 q.2.2.2.1 z1_sumFrom z1_testFrom z1_testTo z1_clauses q.2.2.2.2.1 q.2.2.2.2.2 z1_words z1_stack]) none := by
  refine rMet.of (by decide) rfl (Nat.le_of_ble_eq_true rfl) ?_
  refine r_sub (lv' := [(0, .ref (a0 0)), (1, .ref (a1 0))]) [0, 1] rfl ?_
  unfold mRuleReader_readSum at h
  refine r_iconst (x := (-1 : Int32)) dX7_readSum_0 (by decide) ?_
  refine r_istore_n (lv' := [(2, .int (-1 : Int32)), (0, .ref (a0 0)), (1, .ref (a1 0))]) dX7_readSum_1 (Nat.le_of_ble_eq_true rfl) rfl ?_
  refine r_iconst (x := (-1 : Int32)) dX7_readSum_2 (by decide) ?_
  refine r_istore_n (lv' := [(3, .int (-1 : Int32)), (2, .int (-1 : Int32)), (0, .ref (a0 0)), (1, .ref (a1 0))]) dX7_readSum_3 (Nat.le_of_ble_eq_true rfl) rfl ?_
  refine r_iconst (x := (1 : Int32)) dX7_readSum_4 (by decide) ?_
  refine r_istore (lv' := [(4, .int (1 : Int32)), (3, .int (-1 : Int32)), (2, .int (-1 : Int32)), (0, .ref (a0 0)), (1, .ref (a1 0))]) dX7_readSum_5 (Nat.le_of_ble_eq_true rfl) rfl ?_
  refine r_iconst (x := (0 : Int32)) dX7_readSum_7 (by decide) ?_
  refine r_istore (lv' := [(5, .int (0 : Int32)), (4, .int (1 : Int32)), (3, .int (-1 : Int32)), (2, .int (-1 : Int32)), (0, .ref (a0 0)), (1, .ref (a1 0))]) dX7_readSum_8 (Nat.le_of_ble_eq_true rfl) rfl ?_
  refine r_sub (lv' := [(0, .ref (a0 0)), (1, .ref (a1 0)), (2, .int (-1 : Int32)), (3, .int (-1 : Int32)), (4, .int (1 : Int32)), (5, .int (0 : Int32))]) [4, 5, 3, 2, 1, 0] rfl ?_
  exact cRuleReader_readSum_l10   FU (-1 : Int32) (-1 : Int32) (1 : Int32) (0 : Int32) z0_at z0_fault z1_steps z1_size z1_parts z1_readsTime h
end
end PC5
