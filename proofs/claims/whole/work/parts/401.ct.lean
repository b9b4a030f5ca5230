theorem dX8_init_0 : decode cX8_init 0 = .ok (.aload_n 0, 1) := by decide +kernel
theorem dX8_init_1 : decode cX8_init 1 = .ok (.invokespecial 3, 3) := by decide +kernel
theorem dX8_init_4 : decode cX8_init 4 = .ok (.aload_n 0, 1) := by decide +kernel
theorem dX8_init_5 : decode cX8_init 5 = .ok (.sipush 400, 3) := by decide +kernel
theorem dX8_init_8 : decode cX8_init 8 = .ok (.newarray .byte, 2) := by decide +kernel
theorem dX8_init_10 : decode cX8_init 10 = .ok (.putfield 9, 3) := by decide +kernel
theorem dX8_init_13 : decode cX8_init 13 = .ok (.aload_n 0, 1) := by decide +kernel
theorem dX8_init_14 : decode cX8_init 14 = .ok (.iconst 0, 1) := by decide +kernel
theorem dX8_init_15 : decode cX8_init 15 = .ok (.putfield 15, 3) := by decide +kernel
theorem dX8_init_18 : decode cX8_init 18 = .ok (.return_, 1) := by decide +kernel
abbrev MTape_init : rx_M := (RX8, yX8_init, cX8_init, 1, none, 1)
theorem kTape_init : rKi MTape_init := ⟨tb_in (i := 13) (j := 6) rfl rfl, tb_in (i := 12) (j := 15) rfl rfl, tb_in (i := 9) (j := 16) rfl rfl, ⟨by decide, by decide, by decide +kernel⟩, by decide, rfl, rfl⟩
set_option maxHeartbeats 4000000 in
set_option maxRecDepth 20000 in
theorem cTape_init {l : Launch} {D : va_G} {Z : (Nat → Nat) × (Nat → Nat)} {K : Nat → ClassId} {h0 : Nat} : nMet l D Z K MTape_init [.ref h0] (List.flatten [[(h0, .inr (6, [.null, .int 0]))]]) (fun w => ∃ a : Nat → Nat, a 0 = h0 ∧ w = bTape K a (fun _ => 0) (0 : Int32)) 1 400 := by
  refine nMet.of (by decide) rfl rfl (Nat.le_of_ble_eq_true rfl) ?_
  refine n_sub (lv' := [(0, .ref h0)]) [0] rfl ?_
  refine n_aload_n 0 dX8_init_0 rfl ?_
  refine n_obj (tb_in (i := 9) (j := 17) rfl rfl) (tb_in (i := 0) (j := 2) rfl rfl) (tb_in (i := 0) (j := 3) rfl rfl) (by decide) (Nat.le_of_ble_eq_true rfl) dX8_init_1 ?_
  refine n_aload_n 0 dX8_init_4 rfl ?_
  refine n_sipush (x := (400 : Int32)) dX8_init_5 (by decide) ?_
  refine n_newa (n := (400 : Int32)) 0 (atype := .byte) (ty := .byte) (N := 400) (a0 := (400, .inl (fun _ => 0))) (tb_in (i := 0) (j := 4) rfl rfl) rfl rfl (by intro C h; cases h) (fun _ => rfl) (by decide) (by decide) (by decide) (Nat.le_of_ble_eq_true rfl) (Nat.le_of_ble_eq_true rfl) dX8_init_8 (fun q1 => ?_)
  refine n_putF (bs := [[(h0, .inr (6, [.null, .int 0]))], [(q1, .inl (K 0, 400, .inl (fun _ => 0)))]]) (bs1 := [[(h0, .inr (6, [.ref q1, .int 0]))], [(q1, .inl (K 0, 400, .inl (fun _ => 0)))]]) 0 0 6 0 (ty := .array .byte) (tb_u (i := 6) rfl) rfl (by decide) (tb_in (i := 9) (j := 18) rfl rfl) tyX8 tyX8_ok nmX8 rfl rfl rfl rfl rfl (by show 0 < 2; decide) rfl rfl rfl dX8_init_10 ?_
  refine n_aload_n 0 dX8_init_13 rfl ?_
  refine n_iconst (x := (0 : Int32)) dX8_init_14 (by decide) ?_
  refine n_put (bs := [[(h0, .inr (6, [.ref q1, .int 0]))], [(q1, .inl (K 0, 400, .inl (fun _ => 0)))]]) (bs1 := [[(h0, .inr (6, [.ref q1, .int (0 : Int32)]))], [(q1, .inl (K 0, 400, .inl (fun _ => 0)))]]) 0 0 6 1 (ty := .int) (tb_u (i := 6) rfl) rfl (by decide) (tb_in (i := 9) (j := 19) rfl rfl) tyX8 tyX8_ok nmX8 rfl rfl rfl rfl (by show 1 < 2; decide) rfl rfl rfl dX8_init_15 ?_
  exact n_vret rfl ⟨fun k => [h0, q1].getD k 0, rfl, rfl⟩ rfl rfl dX8_init_18
theorem dX0_init_0 : decode cX0_init 0 = .ok (.aload_n 0, 1) := by decide +kernel
theorem dX0_init_1 : decode cX0_init 1 = .ok (.invokespecial 3, 3) := by decide +kernel
theorem dX0_init_4 : decode cX0_init 4 = .ok (.aload_n 0, 1) := by decide +kernel
theorem dX0_init_5 : decode cX0_init 5 = .ok (.sipush 400, 3) := by decide +kernel
theorem dX0_init_8 : decode cX0_init 8 = .ok (.newarray .byte, 2) := by decide +kernel
theorem dX0_init_10 : decode cX0_init 10 = .ok (.putfield 9, 3) := by decide +kernel
theorem dX0_init_13 : decode cX0_init 13 = .ok (.aload_n 0, 1) := by decide +kernel
theorem dX0_init_14 : decode cX0_init 14 = .ok (.iconst 0, 1) := by decide +kernel
theorem dX0_init_15 : decode cX0_init 15 = .ok (.putfield 15, 3) := by decide +kernel
theorem dX0_init_18 : decode cX0_init 18 = .ok (.aload_n 0, 1) := by decide +kernel
theorem dX0_init_19 : decode cX0_init 19 = .ok (.iconst 0, 1) := by decide +kernel
theorem dX0_init_20 : decode cX0_init 20 = .ok (.putfield 19, 3) := by decide +kernel
theorem dX0_init_23 : decode cX0_init 23 = .ok (.aload_n 0, 1) := by decide +kernel
theorem dX0_init_24 : decode cX0_init 24 = .ok (.iconst 0, 1) := by decide +kernel
theorem dX0_init_25 : decode cX0_init 25 = .ok (.putfield 22, 3) := by decide +kernel
theorem dX0_init_28 : decode cX0_init 28 = .ok (.return_, 1) := by decide +kernel
abbrev MCursor_init : rx_M := (RX0, yX0_init, cX0_init, 1, none, 1)
theorem kCursor_init : rKi MCursor_init := ⟨tb_in (i := 13) (j := 7) rfl rfl, tb_in (i := 1) (j := 31) rfl rfl, tb_in (i := 0) (j := 0) rfl rfl, ⟨by decide, by decide, by decide +kernel⟩, by decide, rfl, rfl⟩
set_option maxHeartbeats 4000000 in
set_option maxRecDepth 20000 in
theorem cCursor_init {l : Launch} {D : va_G} {Z : (Nat → Nat) × (Nat → Nat)} {K : Nat → ClassId} {h0 : Nat} : nMet l D Z K MCursor_init [.ref h0] (List.flatten [[(h0, .inr (0, [.null, .int 0, .int 0, .int 0]))]]) (fun w => ∃ a : Nat → Nat, a 0 = h0 ∧ w = bCursor K a (fun _ => 0) (0 : Int32) (0 : Int32) (0 : Int32)) 1 400 := by
  refine nMet.of (by decide) rfl rfl (Nat.le_of_ble_eq_true rfl) ?_
  refine n_sub (lv' := [(0, .ref h0)]) [0] rfl ?_
  refine n_aload_n 0 dX0_init_0 rfl ?_
  refine n_obj (tb_in (i := 0) (j := 1) rfl rfl) (tb_in (i := 0) (j := 2) rfl rfl) (tb_in (i := 0) (j := 3) rfl rfl) (by decide) (Nat.le_of_ble_eq_true rfl) dX0_init_1 ?_
  refine n_aload_n 0 dX0_init_4 rfl ?_
  refine n_sipush (x := (400 : Int32)) dX0_init_5 (by decide) ?_
  refine n_newa (n := (400 : Int32)) 0 (atype := .byte) (ty := .byte) (N := 400) (a0 := (400, .inl (fun _ => 0))) (tb_in (i := 0) (j := 4) rfl rfl) rfl rfl (by intro C h; cases h) (fun _ => rfl) (by decide) (by decide) (by decide) (Nat.le_of_ble_eq_true rfl) (Nat.le_of_ble_eq_true rfl) dX0_init_8 (fun q1 => ?_)
  refine n_putF (bs := [[(h0, .inr (0, [.null, .int 0, .int 0, .int 0]))], [(q1, .inl (K 0, 400, .inl (fun _ => 0)))]]) (bs1 := [[(h0, .inr (0, [.ref q1, .int 0, .int 0, .int 0]))], [(q1, .inl (K 0, 400, .inl (fun _ => 0)))]]) 0 0 0 0 (ty := .array .byte) (tb_u (i := 0) rfl) rfl (by decide) (tb_in (i := 0) (j := 5) rfl rfl) tyX0 tyX0_ok nmX0 rfl rfl rfl rfl rfl (by show 0 < 4; decide) rfl rfl rfl dX0_init_10 ?_
  refine n_aload_n 0 dX0_init_13 rfl ?_
  refine n_iconst (x := (0 : Int32)) dX0_init_14 (by decide) ?_
  refine n_put (bs := [[(h0, .inr (0, [.ref q1, .int 0, .int 0, .int 0]))], [(q1, .inl (K 0, 400, .inl (fun _ => 0)))]]) (bs1 := [[(h0, .inr (0, [.ref q1, .int (0 : Int32), .int 0, .int 0]))], [(q1, .inl (K 0, 400, .inl (fun _ => 0)))]]) 0 0 0 1 (ty := .int) (tb_u (i := 0) rfl) rfl (by decide) (tb_in (i := 0) (j := 6) rfl rfl) tyX0 tyX0_ok nmX0 rfl rfl rfl rfl (by show 1 < 4; decide) rfl rfl rfl dX0_init_15 ?_
  refine n_aload_n 0 dX0_init_18 rfl ?_
  refine n_iconst (x := (0 : Int32)) dX0_init_19 (by decide) ?_
  refine n_put (bs := [[(h0, .inr (0, [.ref q1, .int (0 : Int32), .int 0, .int 0]))], [(q1, .inl (K 0, 400, .inl (fun _ => 0)))]]) (bs1 := [[(h0, .inr (0, [.ref q1, .int (0 : Int32), .int (0 : Int32), .int 0]))], [(q1, .inl (K 0, 400, .inl (fun _ => 0)))]]) 0 0 0 2 (ty := .int) (tb_u (i := 0) rfl) rfl (by decide) (tb_in (i := 0) (j := 7) rfl rfl) tyX0 tyX0_ok nmX0 rfl rfl rfl rfl (by show 2 < 4; decide) rfl rfl rfl dX0_init_20 ?_
  refine n_aload_n 0 dX0_init_23 rfl ?_
  refine n_iconst (x := (0 : Int32)) dX0_init_24 (by decide) ?_
  refine n_put (bs := [[(h0, .inr (0, [.ref q1, .int (0 : Int32), .int (0 : Int32), .int 0]))], [(q1, .inl (K 0, 400, .inl (fun _ => 0)))]]) (bs1 := [[(h0, .inr (0, [.ref q1, .int (0 : Int32), .int (0 : Int32), .int (0 : Int32)]))], [(q1, .inl (K 0, 400, .inl (fun _ => 0)))]]) 0 0 0 3 (ty := .int) (tb_u (i := 0) rfl) rfl (by decide) (tb_in (i := 0) (j := 8) rfl rfl) tyX0 tyX0_ok nmX0 rfl rfl rfl rfl (by show 3 < 4; decide) rfl rfl rfl dX0_init_25 ?_
  exact n_vret rfl ⟨fun k => [h0, q1].getD k 0, rfl, rfl⟩ rfl rfl dX0_init_28
theorem dX4_init_0 : decode cX4_init 0 = .ok (.aload_n 0, 1) := by decide +kernel
theorem dX4_init_1 : decode cX4_init 1 = .ok (.invokespecial 3, 3) := by decide +kernel
theorem dX4_init_4 : decode cX4_init 4 = .ok (.aload_n 0, 1) := by decide +kernel
theorem dX4_init_5 : decode cX4_init 5 = .ok (.bipush 6, 2) := by decide +kernel
theorem dX4_init_7 : decode cX4_init 7 = .ok (.newarray .int, 2) := by decide +kernel
theorem dX4_init_9 : decode cX4_init 9 = .ok (.putfield 9, 3) := by decide +kernel
theorem dX4_init_12 : decode cX4_init 12 = .ok (.aload_n 0, 1) := by decide +kernel
theorem dX4_init_13 : decode cX4_init 13 = .ok (.iconst 0, 1) := by decide +kernel
theorem dX4_init_14 : decode cX4_init 14 = .ok (.putfield 15, 3) := by decide +kernel
theorem dX4_init_17 : decode cX4_init 17 = .ok (.return_, 1) := by decide +kernel
abbrev MOrder_init : rx_M := (RX4, yX4_init, cX4_init, 1, none, 1)
theorem kOrder_init : rKi MOrder_init := ⟨tb_in (i := 10) (j := 1) rfl rfl, tb_in (i := 8) (j := 1) rfl rfl, tb_in (i := 7) (j := 20) rfl rfl, ⟨by decide, by decide, by decide +kernel⟩, by decide, rfl, rfl⟩
set_option maxHeartbeats 4000000 in
set_option maxRecDepth 20000 in
theorem cOrder_init {l : Launch} {D : va_G} {Z : (Nat → Nat) × (Nat → Nat)} {K : Nat → ClassId} {h0 : Nat} : nMet l D Z K MOrder_init [.ref h0] (List.flatten [[(h0, .inr (3, [.null, .int 0]))]]) (fun w => ∃ a : Nat → Nat, a 0 = h0 ∧ w = bOrder K a (fun _ => 0) (0 : Int32)) 1 6 := by
  refine nMet.of (by decide) rfl rfl (Nat.le_of_ble_eq_true rfl) ?_
  refine n_sub (lv' := [(0, .ref h0)]) [0] rfl ?_
  refine n_aload_n 0 dX4_init_0 rfl ?_
  refine n_obj (tb_in (i := 7) (j := 21) rfl rfl) (tb_in (i := 0) (j := 2) rfl rfl) (tb_in (i := 0) (j := 3) rfl rfl) (by decide) (Nat.le_of_ble_eq_true rfl) dX4_init_1 ?_
  refine n_aload_n 0 dX4_init_4 rfl ?_
  refine n_bipush (x := (6 : Int32)) dX4_init_5 (by decide) ?_
  refine n_newa (n := (6 : Int32)) 1 (atype := .int) (ty := .int) (N := 6) (a0 := (6, .inl (fun _ => 0))) (tb_in (i := 3) (j := 2) rfl rfl) rfl rfl (by intro C h; cases h) (fun _ => rfl) (by decide) (by decide) (by decide) (Nat.le_of_ble_eq_true rfl) (Nat.le_of_ble_eq_true rfl) dX4_init_7 (fun q1 => ?_)
  refine n_putF (bs := [[(h0, .inr (3, [.null, .int 0]))], [(q1, .inl (K 1, 6, .inl (fun _ => 0)))]]) (bs1 := [[(h0, .inr (3, [.ref q1, .int 0]))], [(q1, .inl (K 1, 6, .inl (fun _ => 0)))]]) 0 0 3 0 (ty := .array .int) (tb_u (i := 3) rfl) rfl (by decide) (tb_in (i := 7) (j := 22) rfl rfl) tyX4 tyX4_ok nmX4 rfl rfl rfl rfl rfl (by show 0 < 2; decide) rfl rfl rfl dX4_init_9 ?_
  refine n_aload_n 0 dX4_init_12 rfl ?_
  refine n_iconst (x := (0 : Int32)) dX4_init_13 (by decide) ?_
  refine n_put (bs := [[(h0, .inr (3, [.ref q1, .int 0]))], [(q1, .inl (K 1, 6, .inl (fun _ => 0)))]]) (bs1 := [[(h0, .inr (3, [.ref q1, .int (0 : Int32)]))], [(q1, .inl (K 1, 6, .inl (fun _ => 0)))]]) 0 0 3 1 (ty := .int) (tb_u (i := 3) rfl) rfl (by decide) (tb_in (i := 7) (j := 23) rfl rfl) tyX4 tyX4_ok nmX4 rfl rfl rfl rfl (by show 1 < 2; decide) rfl rfl rfl dX4_init_14 ?_
  exact n_vret rfl ⟨fun k => [h0, q1].getD k 0, rfl, rfl⟩ rfl rfl dX4_init_17
theorem dX3_init_0 : decode cX3_init 0 = .ok (.aload_n 0, 1) := by decide +kernel
theorem dX3_init_1 : decode cX3_init 1 = .ok (.invokespecial 3, 3) := by decide +kernel
theorem dX3_init_4 : decode cX3_init 4 = .ok (.aload_n 0, 1) := by decide +kernel
theorem dX3_init_5 : decode cX3_init 5 = .ok (.bipush 10, 2) := by decide +kernel
theorem dX3_init_7 : decode cX3_init 7 = .ok (.newarray .int, 2) := by decide +kernel
theorem dX3_init_9 : decode cX3_init 9 = .ok (.putfield 9, 3) := by decide +kernel
theorem dX3_init_12 : decode cX3_init 12 = .ok (.aload_n 0, 1) := by decide +kernel
theorem dX3_init_13 : decode cX3_init 13 = .ok (.bipush 10, 2) := by decide +kernel
theorem dX3_init_15 : decode cX3_init 15 = .ok (.newarray .int, 2) := by decide +kernel
theorem dX3_init_17 : decode cX3_init 17 = .ok (.putfield 15, 3) := by decide +kernel
theorem dX3_init_20 : decode cX3_init 20 = .ok (.aload_n 0, 1) := by decide +kernel
theorem dX3_init_21 : decode cX3_init 21 = .ok (.bipush 10, 2) := by decide +kernel
theorem dX3_init_23 : decode cX3_init 23 = .ok (.newarray .int, 2) := by decide +kernel
theorem dX3_init_25 : decode cX3_init 25 = .ok (.putfield 18, 3) := by decide +kernel
theorem dX3_init_28 : decode cX3_init 28 = .ok (.aload_n 0, 1) := by decide +kernel
theorem dX3_init_29 : decode cX3_init 29 = .ok (.iconst 0, 1) := by decide +kernel
theorem dX3_init_30 : decode cX3_init 30 = .ok (.putfield 21, 3) := by decide +kernel
theorem dX3_init_33 : decode cX3_init 33 = .ok (.return_, 1) := by decide +kernel
abbrev MNotes_init : rx_M := (RX3, yX3_init, cX3_init, 1, none, 1)
theorem kNotes_init : rKi MNotes_init := ⟨tb_in (i := 12) (j := 6) rfl rfl, tb_in (i := 7) (j := 16) rfl rfl, tb_in (i := 7) (j := 4) rfl rfl, ⟨by decide, by decide, by decide +kernel⟩, by decide, rfl, rfl⟩
set_option maxHeartbeats 4000000 in
set_option maxRecDepth 20000 in
theorem cNotes_init {l : Launch} {D : va_G} {Z : (Nat → Nat) × (Nat → Nat)} {K : Nat → ClassId} {h0 : Nat} : nMet l D Z K MNotes_init [.ref h0] (List.flatten [[(h0, .inr (2, [.null, .null, .null, .int 0]))]]) (fun w => ∃ a : Nat → Nat, a 0 = h0 ∧ w = bNotes K a (fun _ => 0) (fun _ => 0) (fun _ => 0) (0 : Int32)) 3 30 := by
  refine nMet.of (by decide) rfl rfl (Nat.le_of_ble_eq_true rfl) ?_
  refine n_sub (lv' := [(0, .ref h0)]) [0] rfl ?_
  refine n_aload_n 0 dX3_init_0 rfl ?_
  refine n_obj (tb_in (i := 7) (j := 5) rfl rfl) (tb_in (i := 0) (j := 2) rfl rfl) (tb_in (i := 0) (j := 3) rfl rfl) (by decide) (Nat.le_of_ble_eq_true rfl) dX3_init_1 ?_
  refine n_aload_n 0 dX3_init_4 rfl ?_
  refine n_bipush (x := (10 : Int32)) dX3_init_5 (by decide) ?_
  refine n_newa (n := (10 : Int32)) 1 (atype := .int) (ty := .int) (N := 10) (a0 := (10, .inl (fun _ => 0))) (tb_in (i := 3) (j := 2) rfl rfl) rfl rfl (by intro C h; cases h) (fun _ => rfl) (by decide) (by decide) (by decide) (Nat.le_of_ble_eq_true rfl) (Nat.le_of_ble_eq_true rfl) dX3_init_7 (fun q1 => ?_)
  refine n_putF (bs := [[(h0, .inr (2, [.null, .null, .null, .int 0]))], [(q1, .inl (K 1, 10, .inl (fun _ => 0)))]]) (bs1 := [[(h0, .inr (2, [.ref q1, .null, .null, .int 0]))], [(q1, .inl (K 1, 10, .inl (fun _ => 0)))]]) 0 0 2 0 (ty := .array .int) (tb_u (i := 2) rfl) rfl (by decide) (tb_in (i := 7) (j := 6) rfl rfl) tyX3 tyX3_ok nmX3 rfl rfl rfl rfl rfl (by show 0 < 4; decide) rfl rfl rfl dX3_init_9 ?_
  refine n_aload_n 0 dX3_init_12 rfl ?_
  refine n_bipush (x := (10 : Int32)) dX3_init_13 (by decide) ?_
  refine n_newa (n := (10 : Int32)) 1 (atype := .int) (ty := .int) (N := 10) (a0 := (10, .inl (fun _ => 0))) (tb_in (i := 3) (j := 2) rfl rfl) rfl rfl (by intro C h; cases h) (fun _ => rfl) (by decide) (by decide) (by decide) (Nat.le_of_ble_eq_true rfl) (Nat.le_of_ble_eq_true rfl) dX3_init_15 (fun q2 => ?_)
  refine n_putF (bs := [[(h0, .inr (2, [.ref q1, .null, .null, .int 0]))], [(q1, .inl (K 1, 10, .inl (fun _ => 0)))], [(q2, .inl (K 1, 10, .inl (fun _ => 0)))]]) (bs1 := [[(h0, .inr (2, [.ref q1, .ref q2, .null, .int 0]))], [(q1, .inl (K 1, 10, .inl (fun _ => 0)))], [(q2, .inl (K 1, 10, .inl (fun _ => 0)))]]) 0 0 2 1 (ty := .array .int) (tb_u (i := 2) rfl) rfl (by decide) (tb_in (i := 7) (j := 7) rfl rfl) tyX3 tyX3_ok nmX3 rfl rfl rfl rfl rfl (by show 1 < 4; decide) rfl rfl rfl dX3_init_17 ?_
  refine n_aload_n 0 dX3_init_20 rfl ?_
  refine n_bipush (x := (10 : Int32)) dX3_init_21 (by decide) ?_
  refine n_newa (n := (10 : Int32)) 1 (atype := .int) (ty := .int) (N := 10) (a0 := (10, .inl (fun _ => 0))) (tb_in (i := 3) (j := 2) rfl rfl) rfl rfl (by intro C h; cases h) (fun _ => rfl) (by decide) (by decide) (by decide) (Nat.le_of_ble_eq_true rfl) (Nat.le_of_ble_eq_true rfl) dX3_init_23 (fun q3 => ?_)
  refine n_putF (bs := [[(h0, .inr (2, [.ref q1, .ref q2, .null, .int 0]))], [(q1, .inl (K 1, 10, .inl (fun _ => 0)))], [(q2, .inl (K 1, 10, .inl (fun _ => 0)))], [(q3, .inl (K 1, 10, .inl (fun _ => 0)))]]) (bs1 := [[(h0, .inr (2, [.ref q1, .ref q2, .ref q3, .int 0]))], [(q1, .inl (K 1, 10, .inl (fun _ => 0)))], [(q2, .inl (K 1, 10, .inl (fun _ => 0)))], [(q3, .inl (K 1, 10, .inl (fun _ => 0)))]]) 0 0 2 2 (ty := .array .int) (tb_u (i := 2) rfl) rfl (by decide) (tb_in (i := 7) (j := 8) rfl rfl) tyX3 tyX3_ok nmX3 rfl rfl rfl rfl rfl (by show 2 < 4; decide) rfl rfl rfl dX3_init_25 ?_
  refine n_aload_n 0 dX3_init_28 rfl ?_
  refine n_iconst (x := (0 : Int32)) dX3_init_29 (by decide) ?_
  refine n_put (bs := [[(h0, .inr (2, [.ref q1, .ref q2, .ref q3, .int 0]))], [(q1, .inl (K 1, 10, .inl (fun _ => 0)))], [(q2, .inl (K 1, 10, .inl (fun _ => 0)))], [(q3, .inl (K 1, 10, .inl (fun _ => 0)))]]) (bs1 := [[(h0, .inr (2, [.ref q1, .ref q2, .ref q3, .int (0 : Int32)]))], [(q1, .inl (K 1, 10, .inl (fun _ => 0)))], [(q2, .inl (K 1, 10, .inl (fun _ => 0)))], [(q3, .inl (K 1, 10, .inl (fun _ => 0)))]]) 0 0 2 3 (ty := .int) (tb_u (i := 2) rfl) rfl (by decide) (tb_in (i := 7) (j := 9) rfl rfl) tyX3 tyX3_ok nmX3 rfl rfl rfl rfl (by show 3 < 4; decide) rfl rfl rfl dX3_init_30 ?_
  exact n_vret rfl ⟨fun k => [h0, q1, q2, q3].getD k 0, rfl, rfl⟩ rfl rfl dX3_init_33
theorem dX6_init_0 : decode cX6_init 0 = .ok (.aload_n 0, 1) := by decide +kernel
theorem dX6_init_1 : decode cX6_init 1 = .ok (.invokespecial 3, 3) := by decide +kernel
theorem dX6_init_4 : decode cX6_init 4 = .ok (.aload_n 0, 1) := by decide +kernel
theorem dX6_init_5 : decode cX6_init 5 = .ok (.sipush 400, 3) := by decide +kernel
theorem dX6_init_8 : decode cX6_init 8 = .ok (.newarray .int, 2) := by decide +kernel
theorem dX6_init_10 : decode cX6_init 10 = .ok (.putfield 9, 3) := by decide +kernel
theorem dX6_init_13 : decode cX6_init 13 = .ok (.aload_n 0, 1) := by decide +kernel
theorem dX6_init_14 : decode cX6_init 14 = .ok (.iconst 0, 1) := by decide +kernel
theorem dX6_init_15 : decode cX6_init 15 = .ok (.putfield 15, 3) := by decide +kernel
theorem dX6_init_18 : decode cX6_init 18 = .ok (.aload_n 0, 1) := by decide +kernel
theorem dX6_init_19 : decode cX6_init 19 = .ok (.bipush 12, 2) := by decide +kernel
theorem dX6_init_21 : decode cX6_init 21 = .ok (.newarray .int, 2) := by decide +kernel
theorem dX6_init_23 : decode cX6_init 23 = .ok (.putfield 21, 3) := by decide +kernel
theorem dX6_init_26 : decode cX6_init 26 = .ok (.aload_n 0, 1) := by decide +kernel
theorem dX6_init_27 : decode cX6_init 27 = .ok (.bipush 12, 2) := by decide +kernel
theorem dX6_init_29 : decode cX6_init 29 = .ok (.newarray .int, 2) := by decide +kernel
theorem dX6_init_31 : decode cX6_init 31 = .ok (.putfield 24, 3) := by decide +kernel
theorem dX6_init_34 : decode cX6_init 34 = .ok (.aload_n 0, 1) := by decide +kernel
theorem dX6_init_35 : decode cX6_init 35 = .ok (.bipush 12, 2) := by decide +kernel
theorem dX6_init_37 : decode cX6_init 37 = .ok (.newarray .int, 2) := by decide +kernel
theorem dX6_init_39 : decode cX6_init 39 = .ok (.putfield 27, 3) := by decide +kernel
theorem dX6_init_42 : decode cX6_init 42 = .ok (.aload_n 0, 1) := by decide +kernel
theorem dX6_init_43 : decode cX6_init 43 = .ok (.iconst 0, 1) := by decide +kernel
theorem dX6_init_44 : decode cX6_init 44 = .ok (.putfield 30, 3) := by decide +kernel
theorem dX6_init_47 : decode cX6_init 47 = .ok (.aload_n 0, 1) := by decide +kernel
theorem dX6_init_48 : decode cX6_init 48 = .ok (.iconst 0, 1) := by decide +kernel
theorem dX6_init_49 : decode cX6_init 49 = .ok (.putfield 33, 3) := by decide +kernel
theorem dX6_init_52 : decode cX6_init 52 = .ok (.aload_n 0, 1) := by decide +kernel
theorem dX6_init_53 : decode cX6_init 53 = .ok (.iconst 0, 1) := by decide +kernel
theorem dX6_init_54 : decode cX6_init 54 = .ok (.putfield 36, 3) := by decide +kernel
theorem dX6_init_57 : decode cX6_init 57 = .ok (.aload_n 0, 1) := by decide +kernel
theorem dX6_init_58 : decode cX6_init 58 = .ok (.bipush 12, 2) := by decide +kernel
theorem dX6_init_60 : decode cX6_init 60 = .ok (.newarray .long, 2) := by decide +kernel
theorem dX6_init_62 : decode cX6_init 62 = .ok (.putfield 40, 3) := by decide +kernel
theorem dX6_init_65 : decode cX6_init 65 = .ok (.aload_n 0, 1) := by decide +kernel
theorem dX6_init_66 : decode cX6_init 66 = .ok (.bipush 61, 2) := by decide +kernel
theorem dX6_init_68 : decode cX6_init 68 = .ok (.newarray .long, 2) := by decide +kernel
theorem dX6_init_70 : decode cX6_init 70 = .ok (.putfield 44, 3) := by decide +kernel
theorem dX6_init_73 : decode cX6_init 73 = .ok (.return_, 1) := by decide +kernel
abbrev MRule_init : rx_M := (RX6, yX6_init, cX6_init, 1, none, 1)
theorem kRule_init : rKi MRule_init := ⟨tb_in (i := 13) (j := 11) rfl rfl, tb_in (i := 5) (j := 1) rfl rfl, tb_in (i := 8) (j := 16) rfl rfl, ⟨by decide, by decide, by decide +kernel⟩, by decide, rfl, rfl⟩
set_option maxHeartbeats 4000000 in
set_option maxRecDepth 20000 in
theorem cRule_init {l : Launch} {D : va_G} {Z : (Nat → Nat) × (Nat → Nat)} {K : Nat → ClassId} {h0 : Nat} : nMet l D Z K MRule_init [.ref h0] (List.flatten [[(h0, .inr (5, [.null, .int 0, .null, .null, .null, .int 0, .int 0, .int 0, .null, .null]))]]) (fun w => ∃ a : Nat → Nat, a 0 = h0 ∧ w = bRule K a (fun _ => 0) (0 : Int32) (fun _ => 0) (fun _ => 0) (fun _ => 0) (0 : Int32) (0 : Int32) (0 : Int32) (fun _ => 0) (fun _ => 0)) 6 509 := by
  refine nMet.of (by decide) rfl rfl (Nat.le_of_ble_eq_true rfl) ?_
  refine n_sub (lv' := [(0, .ref h0)]) [0] rfl ?_
  refine n_aload_n 0 dX6_init_0 rfl ?_
  refine n_obj (tb_in (i := 8) (j := 17) rfl rfl) (tb_in (i := 0) (j := 2) rfl rfl) (tb_in (i := 0) (j := 3) rfl rfl) (by decide) (Nat.le_of_ble_eq_true rfl) dX6_init_1 ?_
  refine n_aload_n 0 dX6_init_4 rfl ?_
  refine n_sipush (x := (400 : Int32)) dX6_init_5 (by decide) ?_
  refine n_newa (n := (400 : Int32)) 1 (atype := .int) (ty := .int) (N := 400) (a0 := (400, .inl (fun _ => 0))) (tb_in (i := 3) (j := 2) rfl rfl) rfl rfl (by intro C h; cases h) (fun _ => rfl) (by decide) (by decide) (by decide) (Nat.le_of_ble_eq_true rfl) (Nat.le_of_ble_eq_true rfl) dX6_init_8 (fun q1 => ?_)
  refine n_putF (bs := [[(h0, .inr (5, [.null, .int 0, .null, .null, .null, .int 0, .int 0, .int 0, .null, .null]))], [(q1, .inl (K 1, 400, .inl (fun _ => 0)))]]) (bs1 := [[(h0, .inr (5, [.ref q1, .int 0, .null, .null, .null, .int 0, .int 0, .int 0, .null, .null]))], [(q1, .inl (K 1, 400, .inl (fun _ => 0)))]]) 0 0 5 0 (ty := .array .int) (tb_u (i := 5) rfl) rfl (by decide) (tb_in (i := 4) (j := 23) rfl rfl) tyX6 tyX6_ok nmX6 rfl rfl rfl rfl rfl (by show 0 < 10; decide) rfl rfl rfl dX6_init_10 ?_
  refine n_aload_n 0 dX6_init_13 rfl ?_
  refine n_iconst (x := (0 : Int32)) dX6_init_14 (by decide) ?_
  refine n_put (bs := [[(h0, .inr (5, [.ref q1, .int 0, .null, .null, .null, .int 0, .int 0, .int 0, .null, .null]))], [(q1, .inl (K 1, 400, .inl (fun _ => 0)))]]) (bs1 := [[(h0, .inr (5, [.ref q1, .int (0 : Int32), .null, .null, .null, .int 0, .int 0, .int 0, .null, .null]))], [(q1, .inl (K 1, 400, .inl (fun _ => 0)))]]) 0 0 5 1 (ty := .int) (tb_u (i := 5) rfl) rfl (by decide) (tb_in (i := 4) (j := 22) rfl rfl) tyX6 tyX6_ok nmX6 rfl rfl rfl rfl (by show 1 < 10; decide) rfl rfl rfl dX6_init_15 ?_
  refine n_aload_n 0 dX6_init_18 rfl ?_
  refine n_bipush (x := (12 : Int32)) dX6_init_19 (by decide) ?_
  refine n_newa (n := (12 : Int32)) 1 (atype := .int) (ty := .int) (N := 12) (a0 := (12, .inl (fun _ => 0))) (tb_in (i := 3) (j := 2) rfl rfl) rfl rfl (by intro C h; cases h) (fun _ => rfl) (by decide) (by decide) (by decide) (Nat.le_of_ble_eq_true rfl) (Nat.le_of_ble_eq_true rfl) dX6_init_21 (fun q2 => ?_)
  refine n_putF (bs := [[(h0, .inr (5, [.ref q1, .int (0 : Int32), .null, .null, .null, .int 0, .int 0, .int 0, .null, .null]))], [(q1, .inl (K 1, 400, .inl (fun _ => 0)))], [(q2, .inl (K 1, 12, .inl (fun _ => 0)))]]) (bs1 := [[(h0, .inr (5, [.ref q1, .int (0 : Int32), .ref q2, .null, .null, .int 0, .int 0, .int 0, .null, .null]))], [(q1, .inl (K 1, 400, .inl (fun _ => 0)))], [(q2, .inl (K 1, 12, .inl (fun _ => 0)))]]) 0 0 5 2 (ty := .array .int) (tb_u (i := 5) rfl) rfl (by decide) (tb_in (i := 4) (j := 29) rfl rfl) tyX6 tyX6_ok nmX6 rfl rfl rfl rfl rfl (by show 2 < 10; decide) rfl rfl rfl dX6_init_23 ?_
  refine n_aload_n 0 dX6_init_26 rfl ?_
  refine n_bipush (x := (12 : Int32)) dX6_init_27 (by decide) ?_
  refine n_newa (n := (12 : Int32)) 1 (atype := .int) (ty := .int) (N := 12) (a0 := (12, .inl (fun _ => 0))) (tb_in (i := 3) (j := 2) rfl rfl) rfl rfl (by intro C h; cases h) (fun _ => rfl) (by decide) (by decide) (by decide) (Nat.le_of_ble_eq_true rfl) (Nat.le_of_ble_eq_true rfl) dX6_init_29 (fun q3 => ?_)
  refine n_putF (bs := [[(h0, .inr (5, [.ref q1, .int (0 : Int32), .ref q2, .null, .null, .int 0, .int 0, .int 0, .null, .null]))], [(q1, .inl (K 1, 400, .inl (fun _ => 0)))], [(q2, .inl (K 1, 12, .inl (fun _ => 0)))], [(q3, .inl (K 1, 12, .inl (fun _ => 0)))]]) (bs1 := [[(h0, .inr (5, [.ref q1, .int (0 : Int32), .ref q2, .ref q3, .null, .int 0, .int 0, .int 0, .null, .null]))], [(q1, .inl (K 1, 400, .inl (fun _ => 0)))], [(q2, .inl (K 1, 12, .inl (fun _ => 0)))], [(q3, .inl (K 1, 12, .inl (fun _ => 0)))]]) 0 0 5 3 (ty := .array .int) (tb_u (i := 5) rfl) rfl (by decide) (tb_in (i := 4) (j := 27) rfl rfl) tyX6 tyX6_ok nmX6 rfl rfl rfl rfl rfl (by show 3 < 10; decide) rfl rfl rfl dX6_init_31 ?_
  refine n_aload_n 0 dX6_init_34 rfl ?_
  refine n_bipush (x := (12 : Int32)) dX6_init_35 (by decide) ?_
  refine n_newa (n := (12 : Int32)) 1 (atype := .int) (ty := .int) (N := 12) (a0 := (12, .inl (fun _ => 0))) (tb_in (i := 3) (j := 2) rfl rfl) rfl rfl (by intro C h; cases h) (fun _ => rfl) (by decide) (by decide) (by decide) (Nat.le_of_ble_eq_true rfl) (Nat.le_of_ble_eq_true rfl) dX6_init_37 (fun q4 => ?_)
  refine n_putF (bs := [[(h0, .inr (5, [.ref q1, .int (0 : Int32), .ref q2, .ref q3, .null, .int 0, .int 0, .int 0, .null, .null]))], [(q1, .inl (K 1, 400, .inl (fun _ => 0)))], [(q2, .inl (K 1, 12, .inl (fun _ => 0)))], [(q3, .inl (K 1, 12, .inl (fun _ => 0)))], [(q4, .inl (K 1, 12, .inl (fun _ => 0)))]]) (bs1 := [[(h0, .inr (5, [.ref q1, .int (0 : Int32), .ref q2, .ref q3, .ref q4, .int 0, .int 0, .int 0, .null, .null]))], [(q1, .inl (K 1, 400, .inl (fun _ => 0)))], [(q2, .inl (K 1, 12, .inl (fun _ => 0)))], [(q3, .inl (K 1, 12, .inl (fun _ => 0)))], [(q4, .inl (K 1, 12, .inl (fun _ => 0)))]]) 0 0 5 4 (ty := .array .int) (tb_u (i := 5) rfl) rfl (by decide) (tb_in (i := 4) (j := 28) rfl rfl) tyX6 tyX6_ok nmX6 rfl rfl rfl rfl rfl (by show 4 < 10; decide) rfl rfl rfl dX6_init_39 ?_
  refine n_aload_n 0 dX6_init_42 rfl ?_
  refine n_iconst (x := (0 : Int32)) dX6_init_43 (by decide) ?_
  refine n_put (bs := [[(h0, .inr (5, [.ref q1, .int (0 : Int32), .ref q2, .ref q3, .ref q4, .int 0, .int 0, .int 0, .null, .null]))], [(q1, .inl (K 1, 400, .inl (fun _ => 0)))], [(q2, .inl (K 1, 12, .inl (fun _ => 0)))], [(q3, .inl (K 1, 12, .inl (fun _ => 0)))], [(q4, .inl (K 1, 12, .inl (fun _ => 0)))]]) (bs1 := [[(h0, .inr (5, [.ref q1, .int (0 : Int32), .ref q2, .ref q3, .ref q4, .int (0 : Int32), .int 0, .int 0, .null, .null]))], [(q1, .inl (K 1, 400, .inl (fun _ => 0)))], [(q2, .inl (K 1, 12, .inl (fun _ => 0)))], [(q3, .inl (K 1, 12, .inl (fun _ => 0)))], [(q4, .inl (K 1, 12, .inl (fun _ => 0)))]]) 0 0 5 5 (ty := .int) (tb_u (i := 5) rfl) rfl (by decide) (tb_in (i := 4) (j := 26) rfl rfl) tyX6 tyX6_ok nmX6 rfl rfl rfl rfl (by show 5 < 10; decide) rfl rfl rfl dX6_init_44 ?_
  refine n_aload_n 0 dX6_init_47 rfl ?_
  refine n_iconst (x := (0 : Int32)) dX6_init_48 (by decide) ?_
  refine n_put (bs := [[(h0, .inr (5, [.ref q1, .int (0 : Int32), .ref q2, .ref q3, .ref q4, .int (0 : Int32), .int 0, .int 0, .null, .null]))], [(q1, .inl (K 1, 400, .inl (fun _ => 0)))], [(q2, .inl (K 1, 12, .inl (fun _ => 0)))], [(q3, .inl (K 1, 12, .inl (fun _ => 0)))], [(q4, .inl (K 1, 12, .inl (fun _ => 0)))]]) (bs1 := [[(h0, .inr (5, [.ref q1, .int (0 : Int32), .ref q2, .ref q3, .ref q4, .int (0 : Int32), .int (0 : Int32), .int 0, .null, .null]))], [(q1, .inl (K 1, 400, .inl (fun _ => 0)))], [(q2, .inl (K 1, 12, .inl (fun _ => 0)))], [(q3, .inl (K 1, 12, .inl (fun _ => 0)))], [(q4, .inl (K 1, 12, .inl (fun _ => 0)))]]) 0 0 5 6 (ty := .int) (tb_u (i := 5) rfl) rfl (by decide) (tb_in (i := 8) (j := 18) rfl rfl) tyX6 tyX6_ok nmX6 rfl rfl rfl rfl (by show 6 < 10; decide) rfl rfl rfl dX6_init_49 ?_
  refine n_aload_n 0 dX6_init_52 rfl ?_
  refine n_iconst (x := (0 : Int32)) dX6_init_53 (by decide) ?_
  refine n_put (bs := [[(h0, .inr (5, [.ref q1, .int (0 : Int32), .ref q2, .ref q3, .ref q4, .int (0 : Int32), .int (0 : Int32), .int 0, .null, .null]))], [(q1, .inl (K 1, 400, .inl (fun _ => 0)))], [(q2, .inl (K 1, 12, .inl (fun _ => 0)))], [(q3, .inl (K 1, 12, .inl (fun _ => 0)))], [(q4, .inl (K 1, 12, .inl (fun _ => 0)))]]) (bs1 := [[(h0, .inr (5, [.ref q1, .int (0 : Int32), .ref q2, .ref q3, .ref q4, .int (0 : Int32), .int (0 : Int32), .int (0 : Int32), .null, .null]))], [(q1, .inl (K 1, 400, .inl (fun _ => 0)))], [(q2, .inl (K 1, 12, .inl (fun _ => 0)))], [(q3, .inl (K 1, 12, .inl (fun _ => 0)))], [(q4, .inl (K 1, 12, .inl (fun _ => 0)))]]) 0 0 5 7 (ty := .boolean) (tb_u (i := 5) rfl) rfl (by decide) (tb_in (i := 8) (j := 19) rfl rfl) tyX6 tyX6_ok nmX6 rfl rfl rfl rfl (by show 7 < 10; decide) rfl rfl rfl dX6_init_54 ?_
  refine n_aload_n 0 dX6_init_57 rfl ?_
  refine n_bipush (x := (12 : Int32)) dX6_init_58 (by decide) ?_
  refine n_newa (n := (12 : Int32)) 2 (atype := .long) (ty := .long) (N := 12) (a0 := (12, .inr (.inl (fun _ => 0)))) (tb_in (i := 8) (j := 20) rfl rfl) rfl rfl (by intro C h; cases h) (fun _ => rfl) (by decide) (by decide) (by decide) (Nat.le_of_ble_eq_true rfl) (Nat.le_of_ble_eq_true rfl) dX6_init_60 (fun q5 => ?_)
  refine n_putF (bs := [[(h0, .inr (5, [.ref q1, .int (0 : Int32), .ref q2, .ref q3, .ref q4, .int (0 : Int32), .int (0 : Int32), .int (0 : Int32), .null, .null]))], [(q1, .inl (K 1, 400, .inl (fun _ => 0)))], [(q2, .inl (K 1, 12, .inl (fun _ => 0)))], [(q3, .inl (K 1, 12, .inl (fun _ => 0)))], [(q4, .inl (K 1, 12, .inl (fun _ => 0)))], [(q5, .inl (K 2, 12, .inr (.inl (fun _ => 0))))]]) (bs1 := [[(h0, .inr (5, [.ref q1, .int (0 : Int32), .ref q2, .ref q3, .ref q4, .int (0 : Int32), .int (0 : Int32), .int (0 : Int32), .ref q5, .null]))], [(q1, .inl (K 1, 400, .inl (fun _ => 0)))], [(q2, .inl (K 1, 12, .inl (fun _ => 0)))], [(q3, .inl (K 1, 12, .inl (fun _ => 0)))], [(q4, .inl (K 1, 12, .inl (fun _ => 0)))], [(q5, .inl (K 2, 12, .inr (.inl (fun _ => 0))))]]) 0 0 5 8 (ty := .array .long) (tb_u (i := 5) rfl) rfl (by decide) (tb_in (i := 4) (j := 20) rfl rfl) tyX6 tyX6_ok nmX6 rfl rfl rfl rfl rfl (by show 8 < 10; decide) rfl rfl rfl dX6_init_62 ?_
  refine n_aload_n 0 dX6_init_65 rfl ?_
  refine n_bipush (x := (61 : Int32)) dX6_init_66 (by decide) ?_
  refine n_newa (n := (61 : Int32)) 2 (atype := .long) (ty := .long) (N := 61) (a0 := (61, .inr (.inl (fun _ => 0)))) (tb_in (i := 8) (j := 20) rfl rfl) rfl rfl (by intro C h; cases h) (fun _ => rfl) (by decide) (by decide) (by decide) (Nat.le_of_ble_eq_true rfl) (Nat.le_of_ble_eq_true rfl) dX6_init_68 (fun q6 => ?_)
  refine n_putF (bs := [[(h0, .inr (5, [.ref q1, .int (0 : Int32), .ref q2, .ref q3, .ref q4, .int (0 : Int32), .int (0 : Int32), .int (0 : Int32), .ref q5, .null]))], [(q1, .inl (K 1, 400, .inl (fun _ => 0)))], [(q2, .inl (K 1, 12, .inl (fun _ => 0)))], [(q3, .inl (K 1, 12, .inl (fun _ => 0)))], [(q4, .inl (K 1, 12, .inl (fun _ => 0)))], [(q5, .inl (K 2, 12, .inr (.inl (fun _ => 0))))], [(q6, .inl (K 2, 61, .inr (.inl (fun _ => 0))))]]) (bs1 := [[(h0, .inr (5, [.ref q1, .int (0 : Int32), .ref q2, .ref q3, .ref q4, .int (0 : Int32), .int (0 : Int32), .int (0 : Int32), .ref q5, .ref q6]))], [(q1, .inl (K 1, 400, .inl (fun _ => 0)))], [(q2, .inl (K 1, 12, .inl (fun _ => 0)))], [(q3, .inl (K 1, 12, .inl (fun _ => 0)))], [(q4, .inl (K 1, 12, .inl (fun _ => 0)))], [(q5, .inl (K 2, 12, .inr (.inl (fun _ => 0))))], [(q6, .inl (K 2, 61, .inr (.inl (fun _ => 0))))]]) 0 0 5 9 (ty := .array .long) (tb_u (i := 5) rfl) rfl (by decide) (tb_in (i := 4) (j := 24) rfl rfl) tyX6 tyX6_ok nmX6 rfl rfl rfl rfl rfl (by show 9 < 10; decide) rfl rfl rfl dX6_init_70 ?_
  exact n_vret rfl ⟨fun k => [h0, q1, q2, q3, q4, q5, q6].getD k 0, rfl, rfl⟩ rfl rfl dX6_init_73
theorem dX1_init_0 : decode cX1_init 0 = .ok (.aload_n 0, 1) := by decide +kernel
theorem dX1_init_1 : decode cX1_init 1 = .ok (.invokespecial 3, 3) := by decide +kernel
theorem dX1_init_4 : decode cX1_init 4 = .ok (.aload_n 0, 1) := by decide +kernel
theorem dX1_init_5 : decode cX1_init 5 = .ok (.iconst 0, 1) := by decide +kernel
theorem dX1_init_6 : decode cX1_init 6 = .ok (.putfield 9, 3) := by decide +kernel
theorem dX1_init_9 : decode cX1_init 9 = .ok (.aload_n 0, 1) := by decide +kernel
theorem dX1_init_10 : decode cX1_init 10 = .ok (.iconst 0, 1) := by decide +kernel
theorem dX1_init_11 : decode cX1_init 11 = .ok (.putfield 15, 3) := by decide +kernel
theorem dX1_init_14 : decode cX1_init 14 = .ok (.aload_n 0, 1) := by decide +kernel
theorem dX1_init_15 : decode cX1_init 15 = .ok (.iconst 0, 1) := by decide +kernel
theorem dX1_init_16 : decode cX1_init 16 = .ok (.putfield 18, 3) := by decide +kernel
theorem dX1_init_19 : decode cX1_init 19 = .ok (.aload_n 0, 1) := by decide +kernel
theorem dX1_init_20 : decode cX1_init 20 = .ok (.iconst 0, 1) := by decide +kernel
theorem dX1_init_21 : decode cX1_init 21 = .ok (.putfield 21, 3) := by decide +kernel
theorem dX1_init_24 : decode cX1_init 24 = .ok (.aload_n 0, 1) := by decide +kernel
theorem dX1_init_25 : decode cX1_init 25 = .ok (.iconst 0, 1) := by decide +kernel
theorem dX1_init_26 : decode cX1_init 26 = .ok (.putfield 24, 3) := by decide +kernel
theorem dX1_init_29 : decode cX1_init 29 = .ok (.aload_n 0, 1) := by decide +kernel
theorem dX1_init_30 : decode cX1_init 30 = .ok (.bipush 6, 2) := by decide +kernel
theorem dX1_init_32 : decode cX1_init 32 = .ok (.newarray .int, 2) := by decide +kernel
theorem dX1_init_34 : decode cX1_init 34 = .ok (.putfield 27, 3) := by decide +kernel
theorem dX1_init_37 : decode cX1_init 37 = .ok (.aload_n 0, 1) := by decide +kernel
theorem dX1_init_38 : decode cX1_init 38 = .ok (.bipush 6, 2) := by decide +kernel
theorem dX1_init_40 : decode cX1_init 40 = .ok (.newarray .int, 2) := by decide +kernel
theorem dX1_init_42 : decode cX1_init 42 = .ok (.putfield 31, 3) := by decide +kernel
theorem dX1_init_45 : decode cX1_init 45 = .ok (.aload_n 0, 1) := by decide +kernel
theorem dX1_init_46 : decode cX1_init 46 = .ok (.bipush 6, 2) := by decide +kernel
theorem dX1_init_48 : decode cX1_init 48 = .ok (.newarray .int, 2) := by decide +kernel
theorem dX1_init_50 : decode cX1_init 50 = .ok (.putfield 34, 3) := by decide +kernel
theorem dX1_init_53 : decode cX1_init 53 = .ok (.aload_n 0, 1) := by decide +kernel
theorem dX1_init_54 : decode cX1_init 54 = .ok (.bipush 6, 2) := by decide +kernel
theorem dX1_init_56 : decode cX1_init 56 = .ok (.newarray .int, 2) := by decide +kernel
theorem dX1_init_58 : decode cX1_init 58 = .ok (.putfield 37, 3) := by decide +kernel
theorem dX1_init_61 : decode cX1_init 61 = .ok (.aload_n 0, 1) := by decide +kernel
theorem dX1_init_62 : decode cX1_init 62 = .ok (.bipush 6, 2) := by decide +kernel
theorem dX1_init_64 : decode cX1_init 64 = .ok (.newarray .int, 2) := by decide +kernel
theorem dX1_init_66 : decode cX1_init 66 = .ok (.putfield 40, 3) := by decide +kernel
theorem dX1_init_69 : decode cX1_init 69 = .ok (.aload_n 0, 1) := by decide +kernel
theorem dX1_init_70 : decode cX1_init 70 = .ok (.bipush 6, 2) := by decide +kernel
theorem dX1_init_72 : decode cX1_init 72 = .ok (.newarray .int, 2) := by decide +kernel
theorem dX1_init_74 : decode cX1_init 74 = .ok (.putfield 43, 3) := by decide +kernel
theorem dX1_init_77 : decode cX1_init 77 = .ok (.aload_n 0, 1) := by decide +kernel
theorem dX1_init_78 : decode cX1_init 78 = .ok (.bipush 6, 2) := by decide +kernel
theorem dX1_init_80 : decode cX1_init 80 = .ok (.newarray .int, 2) := by decide +kernel
theorem dX1_init_82 : decode cX1_init 82 = .ok (.putfield 46, 3) := by decide +kernel
theorem dX1_init_85 : decode cX1_init 85 = .ok (.aload_n 0, 1) := by decide +kernel
theorem dX1_init_86 : decode cX1_init 86 = .ok (.bipush 6, 2) := by decide +kernel
theorem dX1_init_88 : decode cX1_init 88 = .ok (.newarray .int, 2) := by decide +kernel
theorem dX1_init_90 : decode cX1_init 90 = .ok (.putfield 49, 3) := by decide +kernel
theorem dX1_init_93 : decode cX1_init 93 = .ok (.aload_n 0, 1) := by decide +kernel
theorem dX1_init_94 : decode cX1_init 94 = .ok (.bipush 6, 2) := by decide +kernel
theorem dX1_init_96 : decode cX1_init 96 = .ok (.newarray .int, 2) := by decide +kernel
theorem dX1_init_98 : decode cX1_init 98 = .ok (.putfield 52, 3) := by decide +kernel
theorem dX1_init_101 : decode cX1_init 101 = .ok (.aload_n 0, 1) := by decide +kernel
theorem dX1_init_102 : decode cX1_init 102 = .ok (.bipush 6, 2) := by decide +kernel
theorem dX1_init_104 : decode cX1_init 104 = .ok (.newarray .int, 2) := by decide +kernel
theorem dX1_init_106 : decode cX1_init 106 = .ok (.putfield 55, 3) := by decide +kernel
theorem dX1_init_109 : decode cX1_init 109 = .ok (.aload_n 0, 1) := by decide +kernel
theorem dX1_init_110 : decode cX1_init 110 = .ok (.bipush 36, 2) := by decide +kernel
theorem dX1_init_112 : decode cX1_init 112 = .ok (.newarray .int, 2) := by decide +kernel
theorem dX1_init_114 : decode cX1_init 114 = .ok (.putfield 58, 3) := by decide +kernel
theorem dX1_init_117 : decode cX1_init 117 = .ok (.aload_n 0, 1) := by decide +kernel
theorem dX1_init_118 : decode cX1_init 118 = .ok (.bipush 6, 2) := by decide +kernel
theorem dX1_init_120 : decode cX1_init 120 = .ok (.newarray .int, 2) := by decide +kernel
theorem dX1_init_122 : decode cX1_init 122 = .ok (.putfield 61, 3) := by decide +kernel
theorem dX1_init_125 : decode cX1_init 125 = .ok (.aload_n 0, 1) := by decide +kernel
theorem dX1_init_126 : decode cX1_init 126 = .ok (.bipush 6, 2) := by decide +kernel
theorem dX1_init_128 : decode cX1_init 128 = .ok (.newarray .int, 2) := by decide +kernel
theorem dX1_init_130 : decode cX1_init 130 = .ok (.putfield 64, 3) := by decide +kernel
theorem dX1_init_133 : decode cX1_init 133 = .ok (.aload_n 0, 1) := by decide +kernel
theorem dX1_init_134 : decode cX1_init 134 = .ok (.bipush 6, 2) := by decide +kernel
theorem dX1_init_136 : decode cX1_init 136 = .ok (.newarray .int, 2) := by decide +kernel
theorem dX1_init_138 : decode cX1_init 138 = .ok (.putfield 67, 3) := by decide +kernel
theorem dX1_init_141 : decode cX1_init 141 = .ok (.return_, 1) := by decide +kernel
abbrev MFair_init : rx_M := (RX1, yX1_init, cX1_init, 1, none, 1)
theorem kFair_init : rKi MFair_init := ⟨tb_in (i := 8) (j := 8) rfl rfl, tb_in (i := 3) (j := 26) rfl rfl, tb_in (i := 2) (j := 27) rfl rfl, ⟨by decide, by decide, by decide +kernel⟩, by decide, rfl, rfl⟩
set_option maxHeartbeats 4000000 in
set_option maxRecDepth 20000 in
theorem cFair_init {l : Launch} {D : va_G} {Z : (Nat → Nat) × (Nat → Nat)} {K : Nat → ClassId} {h0 : Nat} : nMet l D Z K MFair_init [.ref h0] (List.flatten [[(h0, .inr (1, [.int 0, .int 0, .int 0, .int 0, .int 0, .null, .null, .null, .null, .null, .null, .null, .null, .null, .null, .null, .null, .null, .null]))]]) (fun w => ∃ a : Nat → Nat, a 0 = h0 ∧ w = bFair K a (0 : Int32) (0 : Int32) (0 : Int32) (0 : Int32) (0 : Int32) (fun _ => 0) (fun _ => 0) (fun _ => 0) (fun _ => 0) (fun _ => 0) (fun _ => 0) (fun _ => 0) (fun _ => 0) (fun _ => 0) (fun _ => 0) (fun _ => 0) (fun _ => 0) (fun _ => 0) (fun _ => 0)) 14 114 := by
  refine nMet.of (by decide) rfl rfl (Nat.le_of_ble_eq_true rfl) ?_
  refine n_sub (lv' := [(0, .ref h0)]) [0] rfl ?_
  refine n_aload_n 0 dX1_init_0 rfl ?_
  refine n_obj (tb_in (i := 2) (j := 28) rfl rfl) (tb_in (i := 0) (j := 2) rfl rfl) (tb_in (i := 0) (j := 3) rfl rfl) (by decide) (Nat.le_of_ble_eq_true rfl) dX1_init_1 ?_
  refine n_aload_n 0 dX1_init_4 rfl ?_
  refine n_iconst (x := (0 : Int32)) dX1_init_5 (by decide) ?_
  refine n_put (bs := [[(h0, .inr (1, [.int 0, .int 0, .int 0, .int 0, .int 0, .null, .null, .null, .null, .null, .null, .null, .null, .null, .null, .null, .null, .null, .null]))]]) (bs1 := [[(h0, .inr (1, [.int (0 : Int32), .int 0, .int 0, .int 0, .int 0, .null, .null, .null, .null, .null, .null, .null, .null, .null, .null, .null, .null, .null, .null]))]]) 0 0 1 0 (ty := .int) (tb_u (i := 1) rfl) rfl (by decide) (tb_in (i := 2) (j := 29) rfl rfl) tyX1 tyX1_ok nmX1 rfl rfl rfl rfl (by show 0 < 19; decide) rfl rfl rfl dX1_init_6 ?_
  refine n_aload_n 0 dX1_init_9 rfl ?_
  refine n_iconst (x := (0 : Int32)) dX1_init_10 (by decide) ?_
  refine n_put (bs := [[(h0, .inr (1, [.int (0 : Int32), .int 0, .int 0, .int 0, .int 0, .null, .null, .null, .null, .null, .null, .null, .null, .null, .null, .null, .null, .null, .null]))]]) (bs1 := [[(h0, .inr (1, [.int (0 : Int32), .int (0 : Int32), .int 0, .int 0, .int 0, .null, .null, .null, .null, .null, .null, .null, .null, .null, .null, .null, .null, .null, .null]))]]) 0 0 1 1 (ty := .int) (tb_u (i := 1) rfl) rfl (by decide) (tb_in (i := 2) (j := 30) rfl rfl) tyX1 tyX1_ok nmX1 rfl rfl rfl rfl (by show 1 < 19; decide) rfl rfl rfl dX1_init_11 ?_
  refine n_aload_n 0 dX1_init_14 rfl ?_
  refine n_iconst (x := (0 : Int32)) dX1_init_15 (by decide) ?_
  refine n_put (bs := [[(h0, .inr (1, [.int (0 : Int32), .int (0 : Int32), .int 0, .int 0, .int 0, .null, .null, .null, .null, .null, .null, .null, .null, .null, .null, .null, .null, .null, .null]))]]) (bs1 := [[(h0, .inr (1, [.int (0 : Int32), .int (0 : Int32), .int (0 : Int32), .int 0, .int 0, .null, .null, .null, .null, .null, .null, .null, .null, .null, .null, .null, .null, .null, .null]))]]) 0 0 1 2 (ty := .int) (tb_u (i := 1) rfl) rfl (by decide) (tb_in (i := 2) (j := 31) rfl rfl) tyX1 tyX1_ok nmX1 rfl rfl rfl rfl (by show 2 < 19; decide) rfl rfl rfl dX1_init_16 ?_
  refine n_aload_n 0 dX1_init_19 rfl ?_
  refine n_iconst (x := (0 : Int32)) dX1_init_20 (by decide) ?_
  refine n_put (bs := [[(h0, .inr (1, [.int (0 : Int32), .int (0 : Int32), .int (0 : Int32), .int 0, .int 0, .null, .null, .null, .null, .null, .null, .null, .null, .null, .null, .null, .null, .null, .null]))]]) (bs1 := [[(h0, .inr (1, [.int (0 : Int32), .int (0 : Int32), .int (0 : Int32), .int (0 : Int32), .int 0, .null, .null, .null, .null, .null, .null, .null, .null, .null, .null, .null, .null, .null, .null]))]]) 0 0 1 3 (ty := .int) (tb_u (i := 1) rfl) rfl (by decide) (tb_in (i := 3) (j := 0) rfl rfl) tyX1 tyX1_ok nmX1 rfl rfl rfl rfl (by show 3 < 19; decide) rfl rfl rfl dX1_init_21 ?_
  refine n_aload_n 0 dX1_init_24 rfl ?_
  refine n_iconst (x := (0 : Int32)) dX1_init_25 (by decide) ?_
  refine n_put (bs := [[(h0, .inr (1, [.int (0 : Int32), .int (0 : Int32), .int (0 : Int32), .int (0 : Int32), .int 0, .null, .null, .null, .null, .null, .null, .null, .null, .null, .null, .null, .null, .null, .null]))]]) (bs1 := [[(h0, .inr (1, [.int (0 : Int32), .int (0 : Int32), .int (0 : Int32), .int (0 : Int32), .int (0 : Int32), .null, .null, .null, .null, .null, .null, .null, .null, .null, .null, .null, .null, .null, .null]))]]) 0 0 1 4 (ty := .int) (tb_u (i := 1) rfl) rfl (by decide) (tb_in (i := 3) (j := 1) rfl rfl) tyX1 tyX1_ok nmX1 rfl rfl rfl rfl (by show 4 < 19; decide) rfl rfl rfl dX1_init_26 ?_
  refine n_aload_n 0 dX1_init_29 rfl ?_
  refine n_bipush (x := (6 : Int32)) dX1_init_30 (by decide) ?_
  refine n_newa (n := (6 : Int32)) 1 (atype := .int) (ty := .int) (N := 6) (a0 := (6, .inl (fun _ => 0))) (tb_in (i := 3) (j := 2) rfl rfl) rfl rfl (by intro C h; cases h) (fun _ => rfl) (by decide) (by decide) (by decide) (Nat.le_of_ble_eq_true rfl) (Nat.le_of_ble_eq_true rfl) dX1_init_32 (fun q1 => ?_)
  refine n_putF (bs := [[(h0, .inr (1, [.int (0 : Int32), .int (0 : Int32), .int (0 : Int32), .int (0 : Int32), .int (0 : Int32), .null, .null, .null, .null, .null, .null, .null, .null, .null, .null, .null, .null, .null, .null]))], [(q1, .inl (K 1, 6, .inl (fun _ => 0)))]]) (bs1 := [[(h0, .inr (1, [.int (0 : Int32), .int (0 : Int32), .int (0 : Int32), .int (0 : Int32), .int (0 : Int32), .ref q1, .null, .null, .null, .null, .null, .null, .null, .null, .null, .null, .null, .null, .null]))], [(q1, .inl (K 1, 6, .inl (fun _ => 0)))]]) 0 0 1 5 (ty := .array .int) (tb_u (i := 1) rfl) rfl (by decide) (tb_in (i := 3) (j := 3) rfl rfl) tyX1 tyX1_ok nmX1 rfl rfl rfl rfl rfl (by show 5 < 19; decide) rfl rfl rfl dX1_init_34 ?_
  refine n_aload_n 0 dX1_init_37 rfl ?_
  refine n_bipush (x := (6 : Int32)) dX1_init_38 (by decide) ?_
  refine n_newa (n := (6 : Int32)) 1 (atype := .int) (ty := .int) (N := 6) (a0 := (6, .inl (fun _ => 0))) (tb_in (i := 3) (j := 2) rfl rfl) rfl rfl (by intro C h; cases h) (fun _ => rfl) (by decide) (by decide) (by decide) (Nat.le_of_ble_eq_true rfl) (Nat.le_of_ble_eq_true rfl) dX1_init_40 (fun q2 => ?_)
  refine n_putF (bs := [[(h0, .inr (1, [.int (0 : Int32), .int (0 : Int32), .int (0 : Int32), .int (0 : Int32), .int (0 : Int32), .ref q1, .null, .null, .null, .null, .null, .null, .null, .null, .null, .null, .null, .null, .null]))], [(q1, .inl (K 1, 6, .inl (fun _ => 0)))], [(q2, .inl (K 1, 6, .inl (fun _ => 0)))]]) (bs1 := [[(h0, .inr (1, [.int (0 : Int32), .int (0 : Int32), .int (0 : Int32), .int (0 : Int32), .int (0 : Int32), .ref q1, .ref q2, .null, .null, .null, .null, .null, .null, .null, .null, .null, .null, .null, .null]))], [(q1, .inl (K 1, 6, .inl (fun _ => 0)))], [(q2, .inl (K 1, 6, .inl (fun _ => 0)))]]) 0 0 1 6 (ty := .array .int) (tb_u (i := 1) rfl) rfl (by decide) (tb_in (i := 3) (j := 4) rfl rfl) tyX1 tyX1_ok nmX1 rfl rfl rfl rfl rfl (by show 6 < 19; decide) rfl rfl rfl dX1_init_42 ?_
  refine n_aload_n 0 dX1_init_45 rfl ?_
  refine n_bipush (x := (6 : Int32)) dX1_init_46 (by decide) ?_
  refine n_newa (n := (6 : Int32)) 1 (atype := .int) (ty := .int) (N := 6) (a0 := (6, .inl (fun _ => 0))) (tb_in (i := 3) (j := 2) rfl rfl) rfl rfl (by intro C h; cases h) (fun _ => rfl) (by decide) (by decide) (by decide) (Nat.le_of_ble_eq_true rfl) (Nat.le_of_ble_eq_true rfl) dX1_init_48 (fun q3 => ?_)
  refine n_putF (bs := [[(h0, .inr (1, [.int (0 : Int32), .int (0 : Int32), .int (0 : Int32), .int (0 : Int32), .int (0 : Int32), .ref q1, .ref q2, .null, .null, .null, .null, .null, .null, .null, .null, .null, .null, .null, .null]))], [(q1, .inl (K 1, 6, .inl (fun _ => 0)))], [(q2, .inl (K 1, 6, .inl (fun _ => 0)))], [(q3, .inl (K 1, 6, .inl (fun _ => 0)))]]) (bs1 := [[(h0, .inr (1, [.int (0 : Int32), .int (0 : Int32), .int (0 : Int32), .int (0 : Int32), .int (0 : Int32), .ref q1, .ref q2, .ref q3, .null, .null, .null, .null, .null, .null, .null, .null, .null, .null, .null]))], [(q1, .inl (K 1, 6, .inl (fun _ => 0)))], [(q2, .inl (K 1, 6, .inl (fun _ => 0)))], [(q3, .inl (K 1, 6, .inl (fun _ => 0)))]]) 0 0 1 7 (ty := .array .int) (tb_u (i := 1) rfl) rfl (by decide) (tb_in (i := 3) (j := 5) rfl rfl) tyX1 tyX1_ok nmX1 rfl rfl rfl rfl rfl (by show 7 < 19; decide) rfl rfl rfl dX1_init_50 ?_
  refine n_aload_n 0 dX1_init_53 rfl ?_
  refine n_bipush (x := (6 : Int32)) dX1_init_54 (by decide) ?_
  refine n_newa (n := (6 : Int32)) 1 (atype := .int) (ty := .int) (N := 6) (a0 := (6, .inl (fun _ => 0))) (tb_in (i := 3) (j := 2) rfl rfl) rfl rfl (by intro C h; cases h) (fun _ => rfl) (by decide) (by decide) (by decide) (Nat.le_of_ble_eq_true rfl) (Nat.le_of_ble_eq_true rfl) dX1_init_56 (fun q4 => ?_)
  refine n_putF (bs := [[(h0, .inr (1, [.int (0 : Int32), .int (0 : Int32), .int (0 : Int32), .int (0 : Int32), .int (0 : Int32), .ref q1, .ref q2, .ref q3, .null, .null, .null, .null, .null, .null, .null, .null, .null, .null, .null]))], [(q1, .inl (K 1, 6, .inl (fun _ => 0)))], [(q2, .inl (K 1, 6, .inl (fun _ => 0)))], [(q3, .inl (K 1, 6, .inl (fun _ => 0)))], [(q4, .inl (K 1, 6, .inl (fun _ => 0)))]]) (bs1 := [[(h0, .inr (1, [.int (0 : Int32), .int (0 : Int32), .int (0 : Int32), .int (0 : Int32), .int (0 : Int32), .ref q1, .ref q2, .ref q3, .ref q4, .null, .null, .null, .null, .null, .null, .null, .null, .null, .null]))], [(q1, .inl (K 1, 6, .inl (fun _ => 0)))], [(q2, .inl (K 1, 6, .inl (fun _ => 0)))], [(q3, .inl (K 1, 6, .inl (fun _ => 0)))], [(q4, .inl (K 1, 6, .inl (fun _ => 0)))]]) 0 0 1 8 (ty := .array .int) (tb_u (i := 1) rfl) rfl (by decide) (tb_in (i := 3) (j := 6) rfl rfl) tyX1 tyX1_ok nmX1 rfl rfl rfl rfl rfl (by show 8 < 19; decide) rfl rfl rfl dX1_init_58 ?_
  refine n_aload_n 0 dX1_init_61 rfl ?_
  refine n_bipush (x := (6 : Int32)) dX1_init_62 (by decide) ?_
  refine n_newa (n := (6 : Int32)) 1 (atype := .int) (ty := .int) (N := 6) (a0 := (6, .inl (fun _ => 0))) (tb_in (i := 3) (j := 2) rfl rfl) rfl rfl (by intro C h; cases h) (fun _ => rfl) (by decide) (by decide) (by decide) (Nat.le_of_ble_eq_true rfl) (Nat.le_of_ble_eq_true rfl) dX1_init_64 (fun q5 => ?_)
  refine n_putF (bs := [[(h0, .inr (1, [.int (0 : Int32), .int (0 : Int32), .int (0 : Int32), .int (0 : Int32), .int (0 : Int32), .ref q1, .ref q2, .ref q3, .ref q4, .null, .null, .null, .null, .null, .null, .null, .null, .null, .null]))], [(q1, .inl (K 1, 6, .inl (fun _ => 0)))], [(q2, .inl (K 1, 6, .inl (fun _ => 0)))], [(q3, .inl (K 1, 6, .inl (fun _ => 0)))], [(q4, .inl (K 1, 6, .inl (fun _ => 0)))], [(q5, .inl (K 1, 6, .inl (fun _ => 0)))]]) (bs1 := [[(h0, .inr (1, [.int (0 : Int32), .int (0 : Int32), .int (0 : Int32), .int (0 : Int32), .int (0 : Int32), .ref q1, .ref q2, .ref q3, .ref q4, .ref q5, .null, .null, .null, .null, .null, .null, .null, .null, .null]))], [(q1, .inl (K 1, 6, .inl (fun _ => 0)))], [(q2, .inl (K 1, 6, .inl (fun _ => 0)))], [(q3, .inl (K 1, 6, .inl (fun _ => 0)))], [(q4, .inl (K 1, 6, .inl (fun _ => 0)))], [(q5, .inl (K 1, 6, .inl (fun _ => 0)))]]) 0 0 1 9 (ty := .array .int) (tb_u (i := 1) rfl) rfl (by decide) (tb_in (i := 3) (j := 7) rfl rfl) tyX1 tyX1_ok nmX1 rfl rfl rfl rfl rfl (by show 9 < 19; decide) rfl rfl rfl dX1_init_66 ?_
  refine n_aload_n 0 dX1_init_69 rfl ?_
  refine n_bipush (x := (6 : Int32)) dX1_init_70 (by decide) ?_
  refine n_newa (n := (6 : Int32)) 1 (atype := .int) (ty := .int) (N := 6) (a0 := (6, .inl (fun _ => 0))) (tb_in (i := 3) (j := 2) rfl rfl) rfl rfl (by intro C h; cases h) (fun _ => rfl) (by decide) (by decide) (by decide) (Nat.le_of_ble_eq_true rfl) (Nat.le_of_ble_eq_true rfl) dX1_init_72 (fun q6 => ?_)
  refine n_putF (bs := [[(h0, .inr (1, [.int (0 : Int32), .int (0 : Int32), .int (0 : Int32), .int (0 : Int32), .int (0 : Int32), .ref q1, .ref q2, .ref q3, .ref q4, .ref q5, .null, .null, .null, .null, .null, .null, .null, .null, .null]))], [(q1, .inl (K 1, 6, .inl (fun _ => 0)))], [(q2, .inl (K 1, 6, .inl (fun _ => 0)))], [(q3, .inl (K 1, 6, .inl (fun _ => 0)))], [(q4, .inl (K 1, 6, .inl (fun _ => 0)))], [(q5, .inl (K 1, 6, .inl (fun _ => 0)))], [(q6, .inl (K 1, 6, .inl (fun _ => 0)))]]) (bs1 := [[(h0, .inr (1, [.int (0 : Int32), .int (0 : Int32), .int (0 : Int32), .int (0 : Int32), .int (0 : Int32), .ref q1, .ref q2, .ref q3, .ref q4, .ref q5, .ref q6, .null, .null, .null, .null, .null, .null, .null, .null]))], [(q1, .inl (K 1, 6, .inl (fun _ => 0)))], [(q2, .inl (K 1, 6, .inl (fun _ => 0)))], [(q3, .inl (K 1, 6, .inl (fun _ => 0)))], [(q4, .inl (K 1, 6, .inl (fun _ => 0)))], [(q5, .inl (K 1, 6, .inl (fun _ => 0)))], [(q6, .inl (K 1, 6, .inl (fun _ => 0)))]]) 0 0 1 10 (ty := .array .int) (tb_u (i := 1) rfl) rfl (by decide) (tb_in (i := 3) (j := 8) rfl rfl) tyX1 tyX1_ok nmX1 rfl rfl rfl rfl rfl (by show 10 < 19; decide) rfl rfl rfl dX1_init_74 ?_
  refine n_aload_n 0 dX1_init_77 rfl ?_
  refine n_bipush (x := (6 : Int32)) dX1_init_78 (by decide) ?_
  refine n_newa (n := (6 : Int32)) 1 (atype := .int) (ty := .int) (N := 6) (a0 := (6, .inl (fun _ => 0))) (tb_in (i := 3) (j := 2) rfl rfl) rfl rfl (by intro C h; cases h) (fun _ => rfl) (by decide) (by decide) (by decide) (Nat.le_of_ble_eq_true rfl) (Nat.le_of_ble_eq_true rfl) dX1_init_80 (fun q7 => ?_)
  refine n_putF (bs := [[(h0, .inr (1, [.int (0 : Int32), .int (0 : Int32), .int (0 : Int32), .int (0 : Int32), .int (0 : Int32), .ref q1, .ref q2, .ref q3, .ref q4, .ref q5, .ref q6, .null, .null, .null, .null, .null, .null, .null, .null]))], [(q1, .inl (K 1, 6, .inl (fun _ => 0)))], [(q2, .inl (K 1, 6, .inl (fun _ => 0)))], [(q3, .inl (K 1, 6, .inl (fun _ => 0)))], [(q4, .inl (K 1, 6, .inl (fun _ => 0)))], [(q5, .inl (K 1, 6, .inl (fun _ => 0)))], [(q6, .inl (K 1, 6, .inl (fun _ => 0)))], [(q7, .inl (K 1, 6, .inl (fun _ => 0)))]]) (bs1 := [[(h0, .inr (1, [.int (0 : Int32), .int (0 : Int32), .int (0 : Int32), .int (0 : Int32), .int (0 : Int32), .ref q1, .ref q2, .ref q3, .ref q4, .ref q5, .ref q6, .ref q7, .null, .null, .null, .null, .null, .null, .null]))], [(q1, .inl (K 1, 6, .inl (fun _ => 0)))], [(q2, .inl (K 1, 6, .inl (fun _ => 0)))], [(q3, .inl (K 1, 6, .inl (fun _ => 0)))], [(q4, .inl (K 1, 6, .inl (fun _ => 0)))], [(q5, .inl (K 1, 6, .inl (fun _ => 0)))], [(q6, .inl (K 1, 6, .inl (fun _ => 0)))], [(q7, .inl (K 1, 6, .inl (fun _ => 0)))]]) 0 0 1 11 (ty := .array .int) (tb_u (i := 1) rfl) rfl (by decide) (tb_in (i := 3) (j := 9) rfl rfl) tyX1 tyX1_ok nmX1 rfl rfl rfl rfl rfl (by show 11 < 19; decide) rfl rfl rfl dX1_init_82 ?_
  refine n_aload_n 0 dX1_init_85 rfl ?_
  refine n_bipush (x := (6 : Int32)) dX1_init_86 (by decide) ?_
  refine n_newa (n := (6 : Int32)) 1 (atype := .int) (ty := .int) (N := 6) (a0 := (6, .inl (fun _ => 0))) (tb_in (i := 3) (j := 2) rfl rfl) rfl rfl (by intro C h; cases h) (fun _ => rfl) (by decide) (by decide) (by decide) (Nat.le_of_ble_eq_true rfl) (Nat.le_of_ble_eq_true rfl) dX1_init_88 (fun q8 => ?_)
  refine n_putF (bs := [[(h0, .inr (1, [.int (0 : Int32), .int (0 : Int32), .int (0 : Int32), .int (0 : Int32), .int (0 : Int32), .ref q1, .ref q2, .ref q3, .ref q4, .ref q5, .ref q6, .ref q7, .null, .null, .null, .null, .null, .null, .null]))], [(q1, .inl (K 1, 6, .inl (fun _ => 0)))], [(q2, .inl (K 1, 6, .inl (fun _ => 0)))], [(q3, .inl (K 1, 6, .inl (fun _ => 0)))], [(q4, .inl (K 1, 6, .inl (fun _ => 0)))], [(q5, .inl (K 1, 6, .inl (fun _ => 0)))], [(q6, .inl (K 1, 6, .inl (fun _ => 0)))], [(q7, .inl (K 1, 6, .inl (fun _ => 0)))], [(q8, .inl (K 1, 6, .inl (fun _ => 0)))]]) (bs1 := [[(h0, .inr (1, [.int (0 : Int32), .int (0 : Int32), .int (0 : Int32), .int (0 : Int32), .int (0 : Int32), .ref q1, .ref q2, .ref q3, .ref q4, .ref q5, .ref q6, .ref q7, .ref q8, .null, .null, .null, .null, .null, .null]))], [(q1, .inl (K 1, 6, .inl (fun _ => 0)))], [(q2, .inl (K 1, 6, .inl (fun _ => 0)))], [(q3, .inl (K 1, 6, .inl (fun _ => 0)))], [(q4, .inl (K 1, 6, .inl (fun _ => 0)))], [(q5, .inl (K 1, 6, .inl (fun _ => 0)))], [(q6, .inl (K 1, 6, .inl (fun _ => 0)))], [(q7, .inl (K 1, 6, .inl (fun _ => 0)))], [(q8, .inl (K 1, 6, .inl (fun _ => 0)))]]) 0 0 1 12 (ty := .array .int) (tb_u (i := 1) rfl) rfl (by decide) (tb_in (i := 3) (j := 10) rfl rfl) tyX1 tyX1_ok nmX1 rfl rfl rfl rfl rfl (by show 12 < 19; decide) rfl rfl rfl dX1_init_90 ?_
  refine n_aload_n 0 dX1_init_93 rfl ?_
  refine n_bipush (x := (6 : Int32)) dX1_init_94 (by decide) ?_
  refine n_newa (n := (6 : Int32)) 1 (atype := .int) (ty := .int) (N := 6) (a0 := (6, .inl (fun _ => 0))) (tb_in (i := 3) (j := 2) rfl rfl) rfl rfl (by intro C h; cases h) (fun _ => rfl) (by decide) (by decide) (by decide) (Nat.le_of_ble_eq_true rfl) (Nat.le_of_ble_eq_true rfl) dX1_init_96 (fun q9 => ?_)
  refine n_putF (bs := [[(h0, .inr (1, [.int (0 : Int32), .int (0 : Int32), .int (0 : Int32), .int (0 : Int32), .int (0 : Int32), .ref q1, .ref q2, .ref q3, .ref q4, .ref q5, .ref q6, .ref q7, .ref q8, .null, .null, .null, .null, .null, .null]))], [(q1, .inl (K 1, 6, .inl (fun _ => 0)))], [(q2, .inl (K 1, 6, .inl (fun _ => 0)))], [(q3, .inl (K 1, 6, .inl (fun _ => 0)))], [(q4, .inl (K 1, 6, .inl (fun _ => 0)))], [(q5, .inl (K 1, 6, .inl (fun _ => 0)))], [(q6, .inl (K 1, 6, .inl (fun _ => 0)))], [(q7, .inl (K 1, 6, .inl (fun _ => 0)))], [(q8, .inl (K 1, 6, .inl (fun _ => 0)))], [(q9, .inl (K 1, 6, .inl (fun _ => 0)))]]) (bs1 := [[(h0, .inr (1, [.int (0 : Int32), .int (0 : Int32), .int (0 : Int32), .int (0 : Int32), .int (0 : Int32), .ref q1, .ref q2, .ref q3, .ref q4, .ref q5, .ref q6, .ref q7, .ref q8, .ref q9, .null, .null, .null, .null, .null]))], [(q1, .inl (K 1, 6, .inl (fun _ => 0)))], [(q2, .inl (K 1, 6, .inl (fun _ => 0)))], [(q3, .inl (K 1, 6, .inl (fun _ => 0)))], [(q4, .inl (K 1, 6, .inl (fun _ => 0)))], [(q5, .inl (K 1, 6, .inl (fun _ => 0)))], [(q6, .inl (K 1, 6, .inl (fun _ => 0)))], [(q7, .inl (K 1, 6, .inl (fun _ => 0)))], [(q8, .inl (K 1, 6, .inl (fun _ => 0)))], [(q9, .inl (K 1, 6, .inl (fun _ => 0)))]]) 0 0 1 13 (ty := .array .int) (tb_u (i := 1) rfl) rfl (by decide) (tb_in (i := 3) (j := 11) rfl rfl) tyX1 tyX1_ok nmX1 rfl rfl rfl rfl rfl (by show 13 < 19; decide) rfl rfl rfl dX1_init_98 ?_
  refine n_aload_n 0 dX1_init_101 rfl ?_
  refine n_bipush (x := (6 : Int32)) dX1_init_102 (by decide) ?_
  refine n_newa (n := (6 : Int32)) 1 (atype := .int) (ty := .int) (N := 6) (a0 := (6, .inl (fun _ => 0))) (tb_in (i := 3) (j := 2) rfl rfl) rfl rfl (by intro C h; cases h) (fun _ => rfl) (by decide) (by decide) (by decide) (Nat.le_of_ble_eq_true rfl) (Nat.le_of_ble_eq_true rfl) dX1_init_104 (fun q10 => ?_)
  refine n_putF (bs := [[(h0, .inr (1, [.int (0 : Int32), .int (0 : Int32), .int (0 : Int32), .int (0 : Int32), .int (0 : Int32), .ref q1, .ref q2, .ref q3, .ref q4, .ref q5, .ref q6, .ref q7, .ref q8, .ref q9, .null, .null, .null, .null, .null]))], [(q1, .inl (K 1, 6, .inl (fun _ => 0)))], [(q2, .inl (K 1, 6, .inl (fun _ => 0)))], [(q3, .inl (K 1, 6, .inl (fun _ => 0)))], [(q4, .inl (K 1, 6, .inl (fun _ => 0)))], [(q5, .inl (K 1, 6, .inl (fun _ => 0)))], [(q6, .inl (K 1, 6, .inl (fun _ => 0)))], [(q7, .inl (K 1, 6, .inl (fun _ => 0)))], [(q8, .inl (K 1, 6, .inl (fun _ => 0)))], [(q9, .inl (K 1, 6, .inl (fun _ => 0)))], [(q10, .inl (K 1, 6, .inl (fun _ => 0)))]]) (bs1 := [[(h0, .inr (1, [.int (0 : Int32), .int (0 : Int32), .int (0 : Int32), .int (0 : Int32), .int (0 : Int32), .ref q1, .ref q2, .ref q3, .ref q4, .ref q5, .ref q6, .ref q7, .ref q8, .ref q9, .ref q10, .null, .null, .null, .null]))], [(q1, .inl (K 1, 6, .inl (fun _ => 0)))], [(q2, .inl (K 1, 6, .inl (fun _ => 0)))], [(q3, .inl (K 1, 6, .inl (fun _ => 0)))], [(q4, .inl (K 1, 6, .inl (fun _ => 0)))], [(q5, .inl (K 1, 6, .inl (fun _ => 0)))], [(q6, .inl (K 1, 6, .inl (fun _ => 0)))], [(q7, .inl (K 1, 6, .inl (fun _ => 0)))], [(q8, .inl (K 1, 6, .inl (fun _ => 0)))], [(q9, .inl (K 1, 6, .inl (fun _ => 0)))], [(q10, .inl (K 1, 6, .inl (fun _ => 0)))]]) 0 0 1 14 (ty := .array .int) (tb_u (i := 1) rfl) rfl (by decide) (tb_in (i := 3) (j := 12) rfl rfl) tyX1 tyX1_ok nmX1 rfl rfl rfl rfl rfl (by show 14 < 19; decide) rfl rfl rfl dX1_init_106 ?_
  refine n_aload_n 0 dX1_init_109 rfl ?_
  refine n_bipush (x := (36 : Int32)) dX1_init_110 (by decide) ?_
  refine n_newa (n := (36 : Int32)) 1 (atype := .int) (ty := .int) (N := 36) (a0 := (36, .inl (fun _ => 0))) (tb_in (i := 3) (j := 2) rfl rfl) rfl rfl (by intro C h; cases h) (fun _ => rfl) (by decide) (by decide) (by decide) (Nat.le_of_ble_eq_true rfl) (Nat.le_of_ble_eq_true rfl) dX1_init_112 (fun q11 => ?_)
  refine n_putF (bs := [[(h0, .inr (1, [.int (0 : Int32), .int (0 : Int32), .int (0 : Int32), .int (0 : Int32), .int (0 : Int32), .ref q1, .ref q2, .ref q3, .ref q4, .ref q5, .ref q6, .ref q7, .ref q8, .ref q9, .ref q10, .null, .null, .null, .null]))], [(q1, .inl (K 1, 6, .inl (fun _ => 0)))], [(q2, .inl (K 1, 6, .inl (fun _ => 0)))], [(q3, .inl (K 1, 6, .inl (fun _ => 0)))], [(q4, .inl (K 1, 6, .inl (fun _ => 0)))], [(q5, .inl (K 1, 6, .inl (fun _ => 0)))], [(q6, .inl (K 1, 6, .inl (fun _ => 0)))], [(q7, .inl (K 1, 6, .inl (fun _ => 0)))], [(q8, .inl (K 1, 6, .inl (fun _ => 0)))], [(q9, .inl (K 1, 6, .inl (fun _ => 0)))], [(q10, .inl (K 1, 6, .inl (fun _ => 0)))], [(q11, .inl (K 1, 36, .inl (fun _ => 0)))]]) (bs1 := [[(h0, .inr (1, [.int (0 : Int32), .int (0 : Int32), .int (0 : Int32), .int (0 : Int32), .int (0 : Int32), .ref q1, .ref q2, .ref q3, .ref q4, .ref q5, .ref q6, .ref q7, .ref q8, .ref q9, .ref q10, .ref q11, .null, .null, .null]))], [(q1, .inl (K 1, 6, .inl (fun _ => 0)))], [(q2, .inl (K 1, 6, .inl (fun _ => 0)))], [(q3, .inl (K 1, 6, .inl (fun _ => 0)))], [(q4, .inl (K 1, 6, .inl (fun _ => 0)))], [(q5, .inl (K 1, 6, .inl (fun _ => 0)))], [(q6, .inl (K 1, 6, .inl (fun _ => 0)))], [(q7, .inl (K 1, 6, .inl (fun _ => 0)))], [(q8, .inl (K 1, 6, .inl (fun _ => 0)))], [(q9, .inl (K 1, 6, .inl (fun _ => 0)))], [(q10, .inl (K 1, 6, .inl (fun _ => 0)))], [(q11, .inl (K 1, 36, .inl (fun _ => 0)))]]) 0 0 1 15 (ty := .array .int) (tb_u (i := 1) rfl) rfl (by decide) (tb_in (i := 3) (j := 13) rfl rfl) tyX1 tyX1_ok nmX1 rfl rfl rfl rfl rfl (by show 15 < 19; decide) rfl rfl rfl dX1_init_114 ?_
  refine n_aload_n 0 dX1_init_117 rfl ?_
  refine n_bipush (x := (6 : Int32)) dX1_init_118 (by decide) ?_
  refine n_newa (n := (6 : Int32)) 1 (atype := .int) (ty := .int) (N := 6) (a0 := (6, .inl (fun _ => 0))) (tb_in (i := 3) (j := 2) rfl rfl) rfl rfl (by intro C h; cases h) (fun _ => rfl) (by decide) (by decide) (by decide) (Nat.le_of_ble_eq_true rfl) (Nat.le_of_ble_eq_true rfl) dX1_init_120 (fun q12 => ?_)
  refine n_putF (bs := [[(h0, .inr (1, [.int (0 : Int32), .int (0 : Int32), .int (0 : Int32), .int (0 : Int32), .int (0 : Int32), .ref q1, .ref q2, .ref q3, .ref q4, .ref q5, .ref q6, .ref q7, .ref q8, .ref q9, .ref q10, .ref q11, .null, .null, .null]))], [(q1, .inl (K 1, 6, .inl (fun _ => 0)))], [(q2, .inl (K 1, 6, .inl (fun _ => 0)))], [(q3, .inl (K 1, 6, .inl (fun _ => 0)))], [(q4, .inl (K 1, 6, .inl (fun _ => 0)))], [(q5, .inl (K 1, 6, .inl (fun _ => 0)))], [(q6, .inl (K 1, 6, .inl (fun _ => 0)))], [(q7, .inl (K 1, 6, .inl (fun _ => 0)))], [(q8, .inl (K 1, 6, .inl (fun _ => 0)))], [(q9, .inl (K 1, 6, .inl (fun _ => 0)))], [(q10, .inl (K 1, 6, .inl (fun _ => 0)))], [(q11, .inl (K 1, 36, .inl (fun _ => 0)))], [(q12, .inl (K 1, 6, .inl (fun _ => 0)))]]) (bs1 := [[(h0, .inr (1, [.int (0 : Int32), .int (0 : Int32), .int (0 : Int32), .int (0 : Int32), .int (0 : Int32), .ref q1, .ref q2, .ref q3, .ref q4, .ref q5, .ref q6, .ref q7, .ref q8, .ref q9, .ref q10, .ref q11, .ref q12, .null, .null]))], [(q1, .inl (K 1, 6, .inl (fun _ => 0)))], [(q2, .inl (K 1, 6, .inl (fun _ => 0)))], [(q3, .inl (K 1, 6, .inl (fun _ => 0)))], [(q4, .inl (K 1, 6, .inl (fun _ => 0)))], [(q5, .inl (K 1, 6, .inl (fun _ => 0)))], [(q6, .inl (K 1, 6, .inl (fun _ => 0)))], [(q7, .inl (K 1, 6, .inl (fun _ => 0)))], [(q8, .inl (K 1, 6, .inl (fun _ => 0)))], [(q9, .inl (K 1, 6, .inl (fun _ => 0)))], [(q10, .inl (K 1, 6, .inl (fun _ => 0)))], [(q11, .inl (K 1, 36, .inl (fun _ => 0)))], [(q12, .inl (K 1, 6, .inl (fun _ => 0)))]]) 0 0 1 16 (ty := .array .int) (tb_u (i := 1) rfl) rfl (by decide) (tb_in (i := 3) (j := 14) rfl rfl) tyX1 tyX1_ok nmX1 rfl rfl rfl rfl rfl (by show 16 < 19; decide) rfl rfl rfl dX1_init_122 ?_
  refine n_aload_n 0 dX1_init_125 rfl ?_
  refine n_bipush (x := (6 : Int32)) dX1_init_126 (by decide) ?_
  refine n_newa (n := (6 : Int32)) 1 (atype := .int) (ty := .int) (N := 6) (a0 := (6, .inl (fun _ => 0))) (tb_in (i := 3) (j := 2) rfl rfl) rfl rfl (by intro C h; cases h) (fun _ => rfl) (by decide) (by decide) (by decide) (Nat.le_of_ble_eq_true rfl) (Nat.le_of_ble_eq_true rfl) dX1_init_128 (fun q13 => ?_)
  refine n_putF (bs := [[(h0, .inr (1, [.int (0 : Int32), .int (0 : Int32), .int (0 : Int32), .int (0 : Int32), .int (0 : Int32), .ref q1, .ref q2, .ref q3, .ref q4, .ref q5, .ref q6, .ref q7, .ref q8, .ref q9, .ref q10, .ref q11, .ref q12, .null, .null]))], [(q1, .inl (K 1, 6, .inl (fun _ => 0)))], [(q2, .inl (K 1, 6, .inl (fun _ => 0)))], [(q3, .inl (K 1, 6, .inl (fun _ => 0)))], [(q4, .inl (K 1, 6, .inl (fun _ => 0)))], [(q5, .inl (K 1, 6, .inl (fun _ => 0)))], [(q6, .inl (K 1, 6, .inl (fun _ => 0)))], [(q7, .inl (K 1, 6, .inl (fun _ => 0)))], [(q8, .inl (K 1, 6, .inl (fun _ => 0)))], [(q9, .inl (K 1, 6, .inl (fun _ => 0)))], [(q10, .inl (K 1, 6, .inl (fun _ => 0)))], [(q11, .inl (K 1, 36, .inl (fun _ => 0)))], [(q12, .inl (K 1, 6, .inl (fun _ => 0)))], [(q13, .inl (K 1, 6, .inl (fun _ => 0)))]]) (bs1 := [[(h0, .inr (1, [.int (0 : Int32), .int (0 : Int32), .int (0 : Int32), .int (0 : Int32), .int (0 : Int32), .ref q1, .ref q2, .ref q3, .ref q4, .ref q5, .ref q6, .ref q7, .ref q8, .ref q9, .ref q10, .ref q11, .ref q12, .ref q13, .null]))], [(q1, .inl (K 1, 6, .inl (fun _ => 0)))], [(q2, .inl (K 1, 6, .inl (fun _ => 0)))], [(q3, .inl (K 1, 6, .inl (fun _ => 0)))], [(q4, .inl (K 1, 6, .inl (fun _ => 0)))], [(q5, .inl (K 1, 6, .inl (fun _ => 0)))], [(q6, .inl (K 1, 6, .inl (fun _ => 0)))], [(q7, .inl (K 1, 6, .inl (fun _ => 0)))], [(q8, .inl (K 1, 6, .inl (fun _ => 0)))], [(q9, .inl (K 1, 6, .inl (fun _ => 0)))], [(q10, .inl (K 1, 6, .inl (fun _ => 0)))], [(q11, .inl (K 1, 36, .inl (fun _ => 0)))], [(q12, .inl (K 1, 6, .inl (fun _ => 0)))], [(q13, .inl (K 1, 6, .inl (fun _ => 0)))]]) 0 0 1 17 (ty := .array .int) (tb_u (i := 1) rfl) rfl (by decide) (tb_in (i := 3) (j := 15) rfl rfl) tyX1 tyX1_ok nmX1 rfl rfl rfl rfl rfl (by show 17 < 19; decide) rfl rfl rfl dX1_init_130 ?_
  refine n_aload_n 0 dX1_init_133 rfl ?_
  refine n_bipush (x := (6 : Int32)) dX1_init_134 (by decide) ?_
  refine n_newa (n := (6 : Int32)) 1 (atype := .int) (ty := .int) (N := 6) (a0 := (6, .inl (fun _ => 0))) (tb_in (i := 3) (j := 2) rfl rfl) rfl rfl (by intro C h; cases h) (fun _ => rfl) (by decide) (by decide) (by decide) (Nat.le_of_ble_eq_true rfl) (Nat.le_of_ble_eq_true rfl) dX1_init_136 (fun q14 => ?_)
  refine n_putF (bs := [[(h0, .inr (1, [.int (0 : Int32), .int (0 : Int32), .int (0 : Int32), .int (0 : Int32), .int (0 : Int32), .ref q1, .ref q2, .ref q3, .ref q4, .ref q5, .ref q6, .ref q7, .ref q8, .ref q9, .ref q10, .ref q11, .ref q12, .ref q13, .null]))], [(q1, .inl (K 1, 6, .inl (fun _ => 0)))], [(q2, .inl (K 1, 6, .inl (fun _ => 0)))], [(q3, .inl (K 1, 6, .inl (fun _ => 0)))], [(q4, .inl (K 1, 6, .inl (fun _ => 0)))], [(q5, .inl (K 1, 6, .inl (fun _ => 0)))], [(q6, .inl (K 1, 6, .inl (fun _ => 0)))], [(q7, .inl (K 1, 6, .inl (fun _ => 0)))], [(q8, .inl (K 1, 6, .inl (fun _ => 0)))], [(q9, .inl (K 1, 6, .inl (fun _ => 0)))], [(q10, .inl (K 1, 6, .inl (fun _ => 0)))], [(q11, .inl (K 1, 36, .inl (fun _ => 0)))], [(q12, .inl (K 1, 6, .inl (fun _ => 0)))], [(q13, .inl (K 1, 6, .inl (fun _ => 0)))], [(q14, .inl (K 1, 6, .inl (fun _ => 0)))]]) (bs1 := [[(h0, .inr (1, [.int (0 : Int32), .int (0 : Int32), .int (0 : Int32), .int (0 : Int32), .int (0 : Int32), .ref q1, .ref q2, .ref q3, .ref q4, .ref q5, .ref q6, .ref q7, .ref q8, .ref q9, .ref q10, .ref q11, .ref q12, .ref q13, .ref q14]))], [(q1, .inl (K 1, 6, .inl (fun _ => 0)))], [(q2, .inl (K 1, 6, .inl (fun _ => 0)))], [(q3, .inl (K 1, 6, .inl (fun _ => 0)))], [(q4, .inl (K 1, 6, .inl (fun _ => 0)))], [(q5, .inl (K 1, 6, .inl (fun _ => 0)))], [(q6, .inl (K 1, 6, .inl (fun _ => 0)))], [(q7, .inl (K 1, 6, .inl (fun _ => 0)))], [(q8, .inl (K 1, 6, .inl (fun _ => 0)))], [(q9, .inl (K 1, 6, .inl (fun _ => 0)))], [(q10, .inl (K 1, 6, .inl (fun _ => 0)))], [(q11, .inl (K 1, 36, .inl (fun _ => 0)))], [(q12, .inl (K 1, 6, .inl (fun _ => 0)))], [(q13, .inl (K 1, 6, .inl (fun _ => 0)))], [(q14, .inl (K 1, 6, .inl (fun _ => 0)))]]) 0 0 1 18 (ty := .array .int) (tb_u (i := 1) rfl) rfl (by decide) (tb_in (i := 3) (j := 16) rfl rfl) tyX1 tyX1_ok nmX1 rfl rfl rfl rfl rfl (by show 18 < 19; decide) rfl rfl rfl dX1_init_138 ?_
  exact n_vret rfl ⟨fun k => [h0, q1, q2, q3, q4, q5, q6, q7, q8, q9, q10, q11, q12, q13, q14].getD k 0, rfl, rfl⟩ rfl rfl dX1_init_141
