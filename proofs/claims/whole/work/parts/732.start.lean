/-! the law from its start -/
theorem INV_0 : INV zNextStall zTape zWorld zFair zFair zNotes zPast (fun _ => zRule) (fun _ => zFair) (fun _ => zWorld) (fun _ => zFair) (fun _ => zFair) (fun _ => zNotes) (fun _ => 0) 0 0 (fun _ => 0) (fun _ => 0) (fun _ => 0) (fun _ => 0) (-1) 0 (-1) 0 (fun _ => 0) 0 (fun _ => 0) (fun _ => 0) (fun _ => 0) (fun _ => 0) := by
  refine ⟨⟨0, by omega, rfl, rfl, fun i hi => absurd hi (by omega), fun i hi => absurd hi (by omega)⟩, by decide, rfl, 0, ⟨by omega, rfl, rfl, fun t ht => absurd ht (by omega)⟩, ⟨rfl, rfl, ⟨0, by omega, rfl⟩, Or.inl (by decide), Or.inl ⟨rfl, rfl, ⟨rfl, rfl, rfl, rfl, rfl, rfl⟩, ⟨rfl, rfl, rfl, rfl, rfl⟩, rfl⟩⟩, ⟨0, 0, by omega, by omega, rfl, rfl, rfl, fun i hi => absurd hi (by omega)⟩, fun k hk => Or.inl ⟨rfl, rfl⟩⟩
set_option maxHeartbeats 4000000 in
set_option maxRecDepth 20000 in
theorem law_start {D : va_G} {Z : (Nat → Nat) × (Nat → Nat)} {K : Nat → ClassId} {p : Program} {l : Launch} {e : Env} {s : State} {m : MethodId} {below : List Frame} {meth : Method} {c : Code} {b L : Nat} {xs : Nat → Int32} (C : lC D Z K p s m meth c b L xs) (hL : L ≤ 3072) : lW D p l e s m below meth c b 0 0 0 [(0, .ref b)] [] [] := by
  refine lz_new C 9 (fs := [.null, .null, .null, .int 0, .null, .null, .null, .null, .null]) inNextStall rfl tyX11 tyX11_ok (tb_in (i := 30) (j := 8) rfl rfl) (tb_in (i := 30) (j := 9) rfl rfl) (tb_in (i := 2) (j := 22) rfl rfl) (fun j hj => by rcases (show j = 0 ∨ j = 1 ∨ j = 2 ∨ j = 3 ∨ j = 4 ∨ j = 5 ∨ j = 6 ∨ j = 7 ∨ j = 8 by omega) with rfl | rfl | rfl | rfl | rfl | rfl | rfl | rfl | rfl <;> rfl) (Nat.le_of_ble_eq_true rfl) (Nat.le_of_ble_eq_true rfl) dL_law_0 (fun q1 => ?_)
  refine lz_dup C dL_law_3 rfl ?_
  refine lz_ctor C 0 (cNextStall_init (h0 := q1)) rfl kNextStall_init (tb_in (i := 30) (j := 12) rfl rfl) (by decide) (Nat.le_of_ble_eq_true rfl) (Nat.le_of_ble_eq_true rfl) (Nat.le_of_ble_eq_true rfl) dL_law_4 (fun w hw => ?_)
  obtain ⟨a0, ff, fr, fi, ha, rfl⟩ := hw
  subst ha
  refine lz_split (cs := [lwA K a0 ff fr fi zNextStall zTape zCursor zWorld zFair zFair zNotes zPast zTrials zFair zOrder zOrder, lwF K ff (fun _ => zFair), lwR K fr (fun _ => zRule), lwI K fi (fun _ => zWorld) (fun _ => zFair) (fun _ => zFair) (fun _ => zNotes)]) (bs := []) rfl ?_
  refine lz_astore_n C (lv' := [(1, .ref (a0 0 0)), (0, .ref b)]) dL_law_7 (by decide) rfl ?_
  refine lz_new (bs := [lwA K a0 ff fr fi zNextStall zTape zCursor zWorld zFair zFair zNotes zPast zTrials zFair zOrder zOrder, lwF K ff (fun _ => zFair), lwR K fr (fun _ => zRule), lwI K fi (fun _ => zWorld) (fun _ => zFair) (fun _ => zFair) (fun _ => zNotes)]) C 10 (fs := (.null :: .int 0 :: .int 0 :: .null :: .null :: .null :: .null :: .null :: .int 0 :: .int 0 :: .int 0 :: .int 0 :: .int 0 :: .int 0 :: .int 0 :: .null :: .int 0 :: .null :: .int 0 :: .null :: .null :: .int 0 :: .int 0 :: .int 0 :: .int 0 :: .null :: .int 0 :: .null :: .null :: .null :: .null :: .null :: .null :: .null :: .long 0 :: .null :: .null :: .null :: .null :: [])) inM rfl tyX12 tyX12_ok (tb_in (i := 30) (j := 10) rfl rfl) (tb_in (i := 30) (j := 11) rfl rfl) (tb_in (i := 17) (j := 21) rfl rfl) (fun j hj => by rcases (show j = 0 ∨ j = 1 ∨ j = 2 ∨ j = 3 ∨ j = 4 ∨ j = 5 ∨ j = 6 ∨ j = 7 ∨ j = 8 ∨ j = 9 ∨ j = 10 ∨ j = 11 ∨ j = 12 ∨ j = 13 ∨ j = 14 ∨ j = 15 ∨ j = 16 ∨ j = 17 ∨ j = 18 ∨ j = 19 ∨ j = 20 ∨ j = 21 ∨ j = 22 ∨ j = 23 ∨ j = 24 ∨ j = 25 ∨ j = 26 ∨ j = 27 ∨ j = 28 ∨ j = 29 ∨ j = 30 ∨ j = 31 ∨ j = 32 ∨ j = 33 ∨ j = 34 ∨ j = 35 ∨ j = 36 ∨ j = 37 ∨ j = 38 by omega) with rfl | rfl | rfl | rfl | rfl | rfl | rfl | rfl | rfl | rfl | rfl | rfl | rfl | rfl | rfl | rfl | rfl | rfl | rfl | rfl | rfl | rfl | rfl | rfl | rfl | rfl | rfl | rfl | rfl | rfl | rfl | rfl | rfl | rfl | rfl | rfl | rfl | rfl | rfl <;> rfl) (Nat.le_of_ble_eq_true rfl) (Nat.le_of_ble_eq_true rfl) dL_law_8 (fun q2 => ?_)
  refine lz_dup C dL_law_11 rfl ?_
  refine lz_ctor C 4 (cm_init (h0 := q2)) rfl km_init (tb_in (i := 30) (j := 14) rfl rfl) (by decide) (Nat.le_of_ble_eq_true rfl) (Nat.le_of_ble_eq_true rfl) (Nat.le_of_ble_eq_true rfl) dL_law_12 (fun w hw => ?_)
  obtain ⟨ad, ha, rfl⟩ := hw
  subst ha
  refine lz_astore_n C (lv' := [(2, .ref (ad 0)), (1, .ref (a0 0 0)), (0, .ref b)]) dL_law_15 (by decide) rfl ?_
  refine lz_iconst C (x := nI 0) dL_law_16 (by decide) ?_
  refine lz_istore_n C (lv' := [(3, .int (nI 0)), (2, .ref (ad 0)), (1, .ref (a0 0 0)), (0, .ref b)]) dL_law_17 (by decide) rfl ?_
  refine lz_sub (lv' := [(0, .ref b), (1, .ref (a0 0 0)), (2, .ref (ad 0)), (3, .int (nI 0))]) [3, 2, 1, 0] rfl ?_
  exact law_loop C (Nat.le_of_ble_eq_true rfl) (Nat.le_of_ble_eq_true rfl) hL (L + 1) 0 (by omega) (by omega) zNextStall zTape zCursor zWorld zFair zFair zNotes zPast zTrials zFair zOrder zOrder (fun _ => zFair) (fun _ => zRule) (fun _ => zWorld) (fun _ => zFair) (fun _ => zFair) (fun _ => zNotes) (fun _ => 0) 0 0 (fun _ => 0) (fun _ => 0) (fun _ => 0) (fun _ => 0) (fun _ => 0) 0 0 0 0 0 0 0 (fun _ => 0) 0 (fun _ => 0) 0 (fun _ => 0) (fun _ => 0) (-1) 0 (-1) 0 (fun _ => 0) 0 (fun _ => 0) (fun _ => 0) (fun _ => 0) (fun _ => 0) (fun _ => 0) (fun _ => 0) (fun _ => 0) 0 (fun _ => 0) (fun _ => 0) (fun _ => 0) (fun _ => 0) INV_0
/-- the law, from its entry -/
theorem whole_start {p : Program} {e : Env} {s : State} {m : MethodId} {below : List Frame} {meth : Method} {c : Code} (l : Launch) (hflags : l.flags = flags0) {b L : Nat} {xs : Nat → Int32} (hL : L ≤ 3072) (C0 : lw_At p s m meth c b L xs) : W p l e room_1 s m #[Value.ref b] below meth c s.heap [] 0 0 (lw_Z below #[Value.ref b] s) (entryFrame m ([Value.ref b] : List Value).toArray 4) := by
  obtain ⟨Z, hX⟩ := start_rX C0
  obtain ⟨D, K, hK⟩ := start_K C0
  have hl := lv_entry ([.ref b]) (n := 4) (Nat.le_of_ble_eq_true rfl)
  rw [lg_entry_eq]
  exact law_start (Z := Z) (K := K) (xs := xs) (L := L) ⟨C0, hK, hX, start_nAO C0⟩ hL s.heap [] _ (fun k q h => by simp at h) ⟨fun i j p q h => by simp at h, fun k q h => by simp at h⟩ va_S.rf hl
