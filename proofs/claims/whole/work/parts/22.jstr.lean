/-! String.length, String.charAt on String constants -/
theorem dJ0_length_8abf5_0 : decode cJ0_length_8abf5 0 = .ok (.aload_n 0, 1) := by decide +kernel
theorem dJ0_length_8abf5_1 : decode cJ0_length_8abf5 1 = .ok (.getfield 9, 3) := by decide +kernel
theorem dJ0_length_8abf5_4 : decode cJ0_length_8abf5 4 = .ok (.arraylength, 1) := by decide +kernel
theorem dJ0_length_8abf5_5 : decode cJ0_length_8abf5 5 = .ok (.aload_n 0, 1) := by decide +kernel
theorem dJ0_length_8abf5_6 : decode cJ0_length_8abf5 6 = .ok (.invokevirtual 335, 3) := by decide +kernel
theorem dJ0_length_8abf5_9 : decode cJ0_length_8abf5 9 = .ok (.ishr, 1) := by decide +kernel
theorem dJ0_length_8abf5_10 : decode cJ0_length_8abf5 10 = .ok (.ireturn, 1) := by decide +kernel
theorem dJ0_charAt_5068e_0 : decode cJ0_charAt_5068e 0 = .ok (.aload_n 0, 1) := by decide +kernel
theorem dJ0_charAt_5068e_1 : decode cJ0_charAt_5068e 1 = .ok (.invokevirtual 492, 3) := by decide +kernel
theorem dJ0_charAt_5068e_4 : decode cJ0_charAt_5068e 4 = .ok (.ifCond .eq 12, 3) := by decide +kernel
theorem dJ0_charAt_5068e_7 : decode cJ0_charAt_5068e 7 = .ok (.aload_n 0, 1) := by decide +kernel
theorem dJ0_charAt_5068e_8 : decode cJ0_charAt_5068e 8 = .ok (.getfield 9, 3) := by decide +kernel
theorem dJ0_charAt_5068e_11 : decode cJ0_charAt_5068e 11 = .ok (.iload_n 1, 1) := by decide +kernel
theorem dJ0_charAt_5068e_12 : decode cJ0_charAt_5068e 12 = .ok (.invokestatic 495, 3) := by decide +kernel
theorem dJ0_charAt_5068e_15 : decode cJ0_charAt_5068e 15 = .ok (.ireturn, 1) := by decide +kernel
theorem dJ0_charAt_5068e_16 : decode cJ0_charAt_5068e 16 = .ok (.aload_n 0, 1) := by decide +kernel
theorem dJ0_charAt_5068e_17 : decode cJ0_charAt_5068e 17 = .ok (.getfield 9, 3) := by decide +kernel
theorem dJ0_charAt_5068e_20 : decode cJ0_charAt_5068e 20 = .ok (.iload_n 1, 1) := by decide +kernel
theorem dJ0_charAt_5068e_21 : decode cJ0_charAt_5068e 21 = .ok (.invokestatic 498, 3) := by decide +kernel
theorem dJ0_charAt_5068e_24 : decode cJ0_charAt_5068e 24 = .ok (.ireturn, 1) := by decide +kernel
theorem dJ0_coder_7d493_0 : decode cJ0_coder_7d493 0 = .ok (.getstatic 38, 3) := by decide +kernel
theorem dJ0_coder_7d493_3 : decode cJ0_coder_7d493 3 = .ok (.ifCond .eq 10, 3) := by decide +kernel
theorem dJ0_coder_7d493_6 : decode cJ0_coder_7d493 6 = .ok (.aload_n 0, 1) := by decide +kernel
theorem dJ0_coder_7d493_7 : decode cJ0_coder_7d493 7 = .ok (.getfield 15, 3) := by decide +kernel
theorem dJ0_coder_7d493_10 : decode cJ0_coder_7d493 10 = .ok (.goto 4, 3) := by decide +kernel
theorem dJ0_coder_7d493_13 : decode cJ0_coder_7d493 13 = .ok (.iconst 1, 1) := by decide +kernel
theorem dJ0_coder_7d493_14 : decode cJ0_coder_7d493 14 = .ok (.ireturn, 1) := by decide +kernel
theorem dJ0_isLatin1_aae02_0 : decode cJ0_isLatin1_aae02 0 = .ok (.getstatic 38, 3) := by decide +kernel
theorem dJ0_isLatin1_aae02_3 : decode cJ0_isLatin1_aae02 3 = .ok (.ifCond .eq 14, 3) := by decide +kernel
theorem dJ0_isLatin1_aae02_6 : decode cJ0_isLatin1_aae02 6 = .ok (.aload_n 0, 1) := by decide +kernel
theorem dJ0_isLatin1_aae02_7 : decode cJ0_isLatin1_aae02 7 = .ok (.getfield 15, 3) := by decide +kernel
theorem dJ0_isLatin1_aae02_10 : decode cJ0_isLatin1_aae02 10 = .ok (.ifCond .ne 7, 3) := by decide +kernel
theorem dJ0_isLatin1_aae02_13 : decode cJ0_isLatin1_aae02 13 = .ok (.iconst 1, 1) := by decide +kernel
theorem dJ0_isLatin1_aae02_14 : decode cJ0_isLatin1_aae02 14 = .ok (.goto 4, 3) := by decide +kernel
theorem dJ0_isLatin1_aae02_17 : decode cJ0_isLatin1_aae02 17 = .ok (.iconst 0, 1) := by decide +kernel
theorem dJ0_isLatin1_aae02_18 : decode cJ0_isLatin1_aae02 18 = .ok (.ireturn, 1) := by decide +kernel
theorem dJ0_checkIndex_df160_0 : decode cJ0_checkIndex_df160 0 = .ok (.iload_n 0, 1) := by decide +kernel
theorem dJ0_checkIndex_df160_1 : decode cJ0_checkIndex_df160 1 = .ok (.iload_n 1, 1) := by decide +kernel
theorem dJ0_checkIndex_df160_2 : decode cJ0_checkIndex_df160 2 = .ok (.getstatic 1053, 3) := by decide +kernel
theorem dJ0_checkIndex_df160_5 : decode cJ0_checkIndex_df160 5 = .ok (.invokestatic 1059, 3) := by decide +kernel
theorem dJ0_checkIndex_df160_8 : decode cJ0_checkIndex_df160 8 = .ok (.pop, 1) := by decide +kernel
theorem dJ0_checkIndex_df160_9 : decode cJ0_checkIndex_df160 9 = .ok (.return_, 1) := by decide +kernel
theorem dJ1_charAt_3b067_0 : decode cJ1_charAt_3b067 0 = .ok (.iload_n 1, 1) := by decide +kernel
theorem dJ1_charAt_3b067_1 : decode cJ1_charAt_3b067 1 = .ok (.aload_n 0, 1) := by decide +kernel
theorem dJ1_charAt_3b067_2 : decode cJ1_charAt_3b067 2 = .ok (.arraylength, 1) := by decide +kernel
theorem dJ1_charAt_3b067_3 : decode cJ1_charAt_3b067 3 = .ok (.invokestatic 9, 3) := by decide +kernel
theorem dJ1_charAt_3b067_6 : decode cJ1_charAt_3b067 6 = .ok (.aload_n 0, 1) := by decide +kernel
theorem dJ1_charAt_3b067_7 : decode cJ1_charAt_3b067 7 = .ok (.iload_n 1, 1) := by decide +kernel
theorem dJ1_charAt_3b067_8 : decode cJ1_charAt_3b067 8 = .ok (.baload, 1) := by decide +kernel
theorem dJ1_charAt_3b067_9 : decode cJ1_charAt_3b067 9 = .ok (.sipush 255, 3) := by decide +kernel
theorem dJ1_charAt_3b067_12 : decode cJ1_charAt_3b067 12 = .ok (.iand, 1) := by decide +kernel
theorem dJ1_charAt_3b067_13 : decode cJ1_charAt_3b067 13 = .ok (.i2c, 1) := by decide +kernel
theorem dJ1_charAt_3b067_14 : decode cJ1_charAt_3b067 14 = .ok (.ireturn, 1) := by decide +kernel
theorem dJ3_checkIndex_8e157_0 : decode cJ3_checkIndex_8e157 0 = .ok (.iload_n 0, 1) := by decide +kernel
theorem dJ3_checkIndex_8e157_1 : decode cJ3_checkIndex_8e157 1 = .ok (.ifCond .lt 8, 3) := by decide +kernel
theorem dJ3_checkIndex_8e157_4 : decode cJ3_checkIndex_8e157 4 = .ok (.iload_n 0, 1) := by decide +kernel
theorem dJ3_checkIndex_8e157_5 : decode cJ3_checkIndex_8e157 5 = .ok (.iload_n 1, 1) := by decide +kernel
theorem dJ3_checkIndex_8e157_6 : decode cJ3_checkIndex_8e157 6 = .ok (.if_icmp .lt 10, 3) := by decide +kernel
theorem dJ3_checkIndex_8e157_9 : decode cJ3_checkIndex_8e157 9 = .ok (.aload_n 2, 1) := by decide +kernel
theorem dJ3_checkIndex_8e157_10 : decode cJ3_checkIndex_8e157 10 = .ok (.iload_n 0, 1) := by decide +kernel
theorem dJ3_checkIndex_8e157_11 : decode cJ3_checkIndex_8e157 11 = .ok (.iload_n 1, 1) := by decide +kernel
theorem dJ3_checkIndex_8e157_12 : decode cJ3_checkIndex_8e157 12 = .ok (.invokestatic 95, 3) := by decide +kernel
theorem dJ3_checkIndex_8e157_15 : decode cJ3_checkIndex_8e157 15 = .ok (.athrow, 1) := by decide +kernel
theorem dJ3_checkIndex_8e157_16 : decode cJ3_checkIndex_8e157 16 = .ok (.iload_n 0, 1) := by decide +kernel
theorem dJ3_checkIndex_8e157_17 : decode cJ3_checkIndex_8e157 17 = .ok (.ireturn, 1) := by decide +kernel
abbrev MJcoder : rx_M := (RJ0, yJ0_coder_7d493, cJ0_coder_7d493, 1, (some .byte), 1)
theorem kJcoder : rKv MJcoder 0 := ⟨tb_in (i := 0) (j := 23) rfl rfl, tb_in (i := 0) (j := 24) rfl rfl, tb_in (i := 0) (j := 25) rfl rfl, tb_in (i := 0) (j := 17) rfl rfl, ⟨by decide, by decide, by decide +kernel⟩, by decide⟩
abbrev MJlength : rx_M := (RJ0, yJ0_length_8abf5, cJ0_length_8abf5, 1, (some .int), 2)
theorem kJlength : rKv MJlength 0 := ⟨tb_in (i := 2) (j := 1) rfl rfl, tb_in (i := 2) (j := 2) rfl rfl, tb_in (i := 0) (j := 25) rfl rfl, tb_in (i := 0) (j := 20) rfl rfl, ⟨by decide, by decide, by decide +kernel⟩, by decide⟩
abbrev MJisLatin1 : rx_M := (RJ0, yJ0_isLatin1_aae02, cJ0_isLatin1_aae02, 1, (some .boolean), 1)
theorem kJisLatin1 : rKv MJisLatin1 0 := ⟨tb_in (i := 1) (j := 20) rfl rfl, tb_in (i := 1) (j := 21) rfl rfl, tb_in (i := 0) (j := 25) rfl rfl, tb_in (i := 0) (j := 26) rfl rfl, ⟨by decide, by decide, by decide +kernel⟩, by decide⟩
abbrev MJpre : rx_M := (RJ3, yJ3_checkIndex_8e157, cJ3_checkIndex_8e157, 3, (some .int), 1)
theorem kJpre : rKs MJpre 3 := ⟨tb_in (i := 0) (j := 31) rfl rfl, tb_in (i := 1) (j := 0) rfl rfl, tb_in (i := 0) (j := 27) rfl rfl, ⟨by decide, by decide, by decide +kernel⟩, by decide⟩
abbrev MJcheck : rx_M := (RJ0, yJ0_checkIndex_df160, cJ0_checkIndex_df160, 2, none, 2)
theorem kJcheck : rKs MJcheck 2 := ⟨tb_in (i := 1) (j := 3) rfl rfl, tb_in (i := 0) (j := 25) rfl rfl, tb_in (i := 0) (j := 28) rfl rfl, ⟨by decide, by decide, by decide +kernel⟩, by decide⟩
abbrev MJlatAt : rx_M := (RJ1, yJ1_charAt_3b067, cJ1_charAt_3b067, 2, (some .char), 3)
theorem kJlatAt : rKs MJlatAt 2 := ⟨tb_in (i := 1) (j := 23) rfl rfl, tb_in (i := 1) (j := 24) rfl rfl, tb_in (i := 1) (j := 1) rfl rfl, ⟨by decide, by decide, by decide +kernel⟩, by decide⟩
abbrev MJcharAt : rx_M := (RJ0, yJ0_charAt_5068e, cJ0_charAt_5068e, 2, (some .char), 4)
theorem kJcharAt : rKv MJcharAt 1 := ⟨tb_in (i := 2) (j := 4) rfl rfl, tb_in (i := 2) (j := 5) rfl rfl, tb_in (i := 0) (j := 25) rfl rfl, tb_in (i := 1) (j := 27) rfl rfl, ⟨by decide, by decide, by decide +kernel⟩, by decide⟩
def chJS (i : Nat) (k : Int32) : Int32 := (bytJS.getD i []).getD k.toNatClampNeg 0 &&& 255
theorem lenJS_small : ∀ i, i < nJS → lenJS.getD i 0 < 2 ^ 31 := by decide +kernel
section JS
variable {l : Launch} {D : va_G} {Z : (Nat → Nat) × (Nat → Nat)} {tys : List (ClassId × FieldType)} {M : rx_M} {pc : Nat} {lv lv' : List (Nat × Value)} {st : List Value} {ws ws' ws1 : va_W} {v : Option Value}
theorem r_i2c {x y : Int32} (hdg : decode M.2.2.1 pc = .ok (.i2c, 1)) (hv : (x.toUInt32 % 65536).toInt32 = y) (k : rW l D Z tys M (pc + 1) lv (.int y :: st) ws ws' v) : rW l D Z tys M pc lv (.int x :: st) ws ws' v :=
  fun p e s m args below meth c A C H locs ls hP hD hS hl => lv_i2c C.1 C.2.1 hdg hv (k p e s m args below meth c A C H locs ls hP hD hS hl)
theorem r_ldcS {index : Nat} {tx : String} {i : Nat} (hw : (M.1, index, tx, i) ∈ SRs) (hdg : decode M.2.2.1 pc = .ok (.ldc index, 2)) (k : rW l D Z tys M (pc + 2) lv (.ref (Z.1 i) :: st) ws ws' v) : rW l D Z tys M pc lv st ws ws' v :=
  fun p e s m args below meth c A C H locs ls hP hD hS hl => va_ldcS (tx := tx) C.1 C.2.1 C.2.2.2.2.1 (C.2.2.2.2.2.2.2.2.2.2.2.2.2.2 _ hw) hdg (k p e s m args below meth c A C H locs ls hP hD hS hl)
theorem r_compact {index : Nat} (hw : Cond.fieldLink M.1 index "java/lang/String" "COMPACT_STRINGS" "Z" ∈ TB) (hdg : decode M.2.2.1 pc = .ok (.getstatic index, 3)) (k : rW l D Z tys M (pc + 3) lv (.int 1 :: st) ws ws' v) : rW l D Z tys M pc lv st ws ws' v :=
  fun p e s m args below meth c A C H locs ls hP hD hS hl => va_gets C.1 C.2.1 C.2.2.2.2.2.2.2.2.2.2.2.2.1 hS C.2.2.2.2.1 (C.2.2.2.2.2.1 _ (List.mem_cons_of_mem _ hw)) (fun _ h => h) hdg (k p e s m args below meth c A C H locs ls hP hD hS hl)
theorem r_form {index : Nat} (hw : Cond.fieldLink M.1 index "jdk/internal/util/Preconditions" "SIOOBE_FORMATTER" "Ljava/util/function/BiFunction;" ∈ TB) (hdg : decode M.2.2.1 pc = .ok (.getstatic index, 3)) (k1 : rW l D Z tys M (pc + 3) lv (.null :: st) ws ws' v) (k2 : ∀ t : Nat, rW l D Z tys M (pc + 3) lv (.ref t :: st) ws ws' v) : rW l D Z tys M pc lv st ws ws' v := by
  intro p e s m args below meth c A C H locs ls hP hD hS hl
  rcases C.2.2.2.2.2.2.2.2.2.2.2.2.2.1 with h | ⟨t, h⟩
  · exact va_gets C.1 C.2.1 h hS C.2.2.2.2.1 (C.2.2.2.2.2.1 _ (List.mem_cons_of_mem _ hw)) (fun _ h => h) hdg (k1 p e s m args below meth c A C H locs ls hP hD hS hl)
  · exact va_gets C.1 C.2.1 h hS C.2.2.2.2.1 (C.2.2.2.2.2.1 _ (List.mem_cons_of_mem _ hw)) (fun _ h => h) hdg (k2 t p e s m args below meth c A C H locs ls hP hD hS hl)
theorem r_scoder {i index : Nat} (hi : i < nJS) (hw : Cond.fieldLink M.1 index "java/lang/String" "coder" "B" ∈ TB) (hdg : decode M.2.2.1 pc = .ok (.getfield index, 3)) (k : rW l D Z tys M (pc + 3) lv (.int 0 :: st) ws ws' v) : rW l D Z tys M pc lv (.ref (Z.1 i) :: st) ws ws' v :=
  fun p e s m args below meth c A C H locs ls hP hD hS hl => vk_getf C.1 C.2.1 (C.2.2.2.2.2.2.2.2.2.2.2.1.1 i hi).2.1 hS C.2.2.2.2.1 (C.2.2.2.2.2.1 _ (List.mem_cons_of_mem _ hw)) (fun _ h => h) hdg (k p e s m args below meth c A C H locs ls hP hD hS hl)
theorem r_svalue {i index : Nat} (hi : i < nJS) (hw : Cond.fieldLink M.1 index "java/lang/String" "value" "[B" ∈ TB) (hdg : decode M.2.2.1 pc = .ok (.getfield index, 3)) (k : rW l D Z tys M (pc + 3) lv (.ref (Z.2 i) :: st) ws ws' v) : rW l D Z tys M pc lv (.ref (Z.1 i) :: st) ws ws' v :=
  fun p e s m args below meth c A C H locs ls hP hD hS hl => vk_getf C.1 C.2.1 (C.2.2.2.2.2.2.2.2.2.2.2.1.1 i hi).2.2.1 hS C.2.2.2.2.1 (C.2.2.2.2.2.1 _ (List.mem_cons_of_mem _ hw)) (fun _ h => h) hdg (k p e s m args below meth c A C H locs ls hP hD hS hl)
theorem r_vlen {i : Nat} (hi : i < nJS) (hdg : decode M.2.2.1 pc = .ok (.arraylength, 1)) (k : rW l D Z tys M (pc + 1) lv (.int (nI (lenJS.getD i 0)) :: st) ws ws' v) : rW l D Z tys M pc lv (.ref (Z.2 i) :: st) ws ws' v :=
  fun p e s m args below meth c A C H locs ls hP hD hS hl => va_tlen C.1 C.2.1 (C.2.2.2.2.2.2.2.2.2.2.2.1.1 i hi).2.2.2 hS rfl hdg (k p e s m args below meth c A C H locs ls hP hD hS hl)
theorem r_vald {i : Nat} {j : Int32} (hi : i < nJS) (hj : vp_in j (lenJS.getD i 0)) (hdg : decode M.2.2.1 pc = .ok (.baload, 1)) (k : rW l D Z tys M (pc + 1) lv (.int ((bytJS.getD i []).getD j.toNatClampNeg 0) :: st) ws ws' v) : rW l D Z tys M pc lv (.int j :: .ref (Z.2 i) :: st) ws ws' v :=
  fun p e s m args below meth c A C H locs ls hP hD hS hl => va_tb C.1 C.2.1 (C.2.2.2.2.2.2.2.2.2.2.2.1.1 i hi).2.2.2 hS hj rfl hdg (k p e s m args below meth c A C H locs ls hP hD hS hl)
theorem r_callK {Mc : rx_M} {n index i : Nat} {As : List Value} {stk : List Value} {rv : Option Value} (hi : i < nJS) (hM : rMet l D Z tys Mc (.ref (Z.1 i) :: As) ws ws rv) (hst : stk = As.reverse ++ .ref (Z.1 i) :: st) (hlen : As.length = n) (hcat : (st.map fun v => v.category).sum ≤ 8) (hK : rKv Mc n) (hlink : Cond.methodLink M.1 index Mc.2.1 ∈ TB) (hrank : Mc.2.2.2.2.2 < M.2.2.2.2.2) (hcl : Mc.2.1.cls = "java/lang/String") (hdg : decode M.2.2.1 pc = .ok (.invokevirtual index, 3)) (k : rW l D Z tys M (pc + 3) lv (rv.toList ++ st) ws ws' v) : rW l D Z tys M pc lv stk ws ws' v := by
  intro p e s m args below meth c A C H locs ls hP hD hS hl
  have hF := r_self hD hS C.2.2.2.2.2.2.2.2.1
  obtain ⟨k1, k2, k3, k4, k5, k6⟩ := hK
  have hts := C.2.2.2.2.2.1
  have hr := vk_recv C.2.2.2.2.2.2.2.2.2.2.2.1 hi hS
  rw [← hcl] at hr
  refine r_back (wc := ws) (w1 := ws) (a := (Value.ref (Z.1 i) :: As).toArray) (rv := rv) ?_ C hP hD hS hl hF (fun H1 _ h1 h2 => ⟨h1, h2.weaken (fun _ q _ z => hF q.1 z)⟩) k
  refine va_runV (As := As) (rest := st) (cc := M.2.2.1) (nL := M.2.2.2.1) (Ts := rTs M) (own := M.1) ⟨C.1, C.2.1, C.2.2.2.1, C.2.2.2.2.1, hts⟩ (hM H.size) (C := Mc.2.1.cls) (index := index) (bytes := Mc.2.2.1) (maxL := Mc.2.2.2.1) (ret := Mc.2.2.2.2.1) (n := n) ?_ ⟨r_blind, hr, fun U hU hW => ⟨rfl, by rw [hU], by rw [hU]; exact hP, va_K.moved hW.alike C.2.2.2.2.2.2.2.1, hD.weaken (fun _ _ _ _ => trivial), C.2.2.2.2.2.2.2.2.2.call hW hU hS.2.1 hF⟩⟩ rfl hlen hl.1 hst (lv_room hcat) hdg ⟨Nat.le_refl 0, Nat.le_refl 0⟩
  exact ⟨callB_of n hts (r_good k4) rfl rfl rfl (hts _ (List.mem_cons_of_mem _ k3)) (hts _ (List.mem_cons_of_mem _ hlink)) k5 (r_fits hrank k6), hts _ (List.mem_cons_of_mem _ k1), hts _ (List.mem_cons_of_mem _ k2)⟩
theorem cJcoder {i : Nat} (hi : i < nJS) : rMet l D Z tys MJcoder [.ref (Z.1 i)] ws ws (some (.int 0)) := by
  refine rMet.of (by decide) rfl (Nat.le_of_ble_eq_true rfl) ?_
  refine r_sub (lv' := [(0, .ref (Z.1 i))]) [0] rfl ?_
  refine r_compact (tb_in (i := 0) (j := 18) rfl rfl) dJ0_coder_7d493_0 ?_
  refine r_if_eq 13 dJ0_coder_7d493_3 (by decide) (fun c => absurd c (by decide)) (fun _ => ?_)
  refine r_aload_n 0 dJ0_coder_7d493_6 rfl ?_
  refine r_scoder hi (tb_in (i := 0) (j := 19) rfl rfl) dJ0_coder_7d493_7 ?_
  refine r_goto 14 dJ0_coder_7d493_10 (by decide) ?_
  exact r_zret (ty := .byte) rfl rfl dJ0_coder_7d493_14
theorem cJisLatin1 {i : Nat} (hi : i < nJS) : rMet l D Z tys MJisLatin1 [.ref (Z.1 i)] ws ws (some (.int 1)) := by
  refine rMet.of (by decide) rfl (Nat.le_of_ble_eq_true rfl) ?_
  refine r_sub (lv' := [(0, .ref (Z.1 i))]) [0] rfl ?_
  refine r_compact (tb_in (i := 0) (j := 18) rfl rfl) dJ0_isLatin1_aae02_0 ?_
  refine r_if_eq 17 dJ0_isLatin1_aae02_3 (by decide) (fun c => absurd c (by decide)) (fun _ => ?_)
  refine r_aload_n 0 dJ0_isLatin1_aae02_6 rfl ?_
  refine r_scoder hi (tb_in (i := 0) (j := 19) rfl rfl) dJ0_isLatin1_aae02_7 ?_
  refine r_if_ne 17 dJ0_isLatin1_aae02_10 (by decide) (fun c => absurd rfl c) (fun _ => ?_)
  refine r_iconst (x := 1) dJ0_isLatin1_aae02_13 (by decide) ?_
  refine r_goto 18 dJ0_isLatin1_aae02_14 (by decide) ?_
  exact r_zret (ty := .boolean) rfl rfl dJ0_isLatin1_aae02_18
theorem cJlength {i : Nat} (hi : i < nJS) : rMet l D Z tys MJlength [.ref (Z.1 i)] ws ws (some (.int (nI (lenJS.getD i 0)))) := by
  refine rMet.of (by decide) rfl (Nat.le_of_ble_eq_true rfl) ?_
  refine r_sub (lv' := [(0, .ref (Z.1 i))]) [0] rfl ?_
  refine r_aload_n 0 dJ0_length_8abf5_0 rfl ?_
  refine r_svalue hi (tb_in (i := 0) (j := 21) rfl rfl) dJ0_length_8abf5_1 ?_
  refine r_vlen hi dJ0_length_8abf5_4 ?_
  refine r_aload_n 0 dJ0_length_8abf5_5 rfl ?_
  refine r_callK (st := [.int (nI (lenJS.getD i 0))]) hi (cJcoder hi) rfl rfl (Nat.le_of_ble_eq_true rfl) kJcoder (tb_in (i := 0) (j := 22) rfl rfl) (by decide) rfl dJ0_length_8abf5_6 ?_
  refine r_ishr dJ0_length_8abf5_9 ?_
  refine r_st (st' := [.int (nI (lenJS.getD i 0))]) (by rw [show (nI (lenJS.getD i 0)) >>> ((0 : Int32) &&& 31) = nI (lenJS.getD i 0) by rw [show ((0 : Int32) &&& 31) = 0 from rfl, Int32.shiftRight_zero]]) ?_
  exact r_iret rfl dJ0_length_8abf5_10
theorem cJpre {x y : Int32} {f : Value} (hf : f = .null ∨ ∃ t, f = .ref t) (h0 : ¬ x < 0) (h1 : x < y) : rMet l D Z tys MJpre [.int x, .int y, f] ws ws (some (.int x)) := by
  refine rMet.of (by decide) rfl ?_ ?_
  · rcases hf with rfl | ⟨t, rfl⟩ <;> exact Nat.le_of_ble_eq_true rfl
  refine r_sub (lv' := [(0, .int x), (1, .int y)]) [0, 1] rfl ?_
  refine r_iload_n 0 dJ3_checkIndex_8e157_0 rfl ?_
  refine r_if_lt 9 dJ3_checkIndex_8e157_1 (by decide) (fun c => absurd c h0) (fun _ => ?_)
  refine r_iload_n 0 dJ3_checkIndex_8e157_4 rfl ?_
  refine r_iload_n 1 dJ3_checkIndex_8e157_5 rfl ?_
  refine r_icmp_lt 16 dJ3_checkIndex_8e157_6 (by decide) (fun _ => ?_) (fun c => absurd h1 c)
  refine r_iload_n 0 dJ3_checkIndex_8e157_16 rfl ?_
  exact r_iret rfl dJ3_checkIndex_8e157_17
theorem cJcheck {x y : Int32} (h0 : ¬ x < 0) (h1 : x < y) : rMet l D Z tys MJcheck [.int x, .int y] ws ws none := by
  refine rMet.of (by decide) rfl (Nat.le_of_ble_eq_true rfl) ?_
  refine r_sub (lv' := [(0, .int x), (1, .int y)]) [0, 1] rfl ?_
  refine r_iload_n 0 dJ0_checkIndex_df160_0 rfl ?_
  refine r_iload_n 1 dJ0_checkIndex_df160_1 rfl ?_
  refine r_form (tb_in (i := 0) (j := 29) rfl rfl) dJ0_checkIndex_df160_2 ?_ (fun t => ?_)
  · refine r_callS (st := []) (cJpre (f := .null) (Or.inl rfl) h0 h1) rfl rfl (Nat.le_of_ble_eq_true rfl) kJpre (tb_in (i := 0) (j := 30) rfl rfl) (by decide) dJ0_checkIndex_df160_5 ?_
    refine r_pop dJ0_checkIndex_df160_8 rfl ?_
    exact r_vret rfl dJ0_checkIndex_df160_9
  · refine r_callS (st := []) (cJpre (f := .ref t) (Or.inr ⟨t, rfl⟩) h0 h1) rfl rfl (Nat.le_of_ble_eq_true rfl) kJpre (tb_in (i := 0) (j := 30) rfl rfl) (by decide) dJ0_checkIndex_df160_5 ?_
    refine r_pop dJ0_checkIndex_df160_8 rfl ?_
    exact r_vret rfl dJ0_checkIndex_df160_9
theorem vpin_lt {k : Int32} {n : Nat} (hn : n < 2 ^ 31) (h : vp_in k n) : ¬ k < 0 ∧ k < nI n := by
  obtain ⟨j, hj, rfl⟩ := vp_in_of h hn
  exact ⟨nI_pos (by omega), nI_lt hj hn⟩
theorem cJlatAt {i : Nat} {k : Int32} (hi : i < nJS) (hk : vp_in k (lenJS.getD i 0)) : rMet l D Z tys MJlatAt [.ref (Z.2 i), .int k] ws ws (some (.int (chJS i k))) := by
  obtain ⟨h0, h1⟩ := vpin_lt (lenJS_small i hi) hk
  refine rMet.of (by decide) rfl (Nat.le_of_ble_eq_true rfl) ?_
  refine r_sub (lv' := [(0, .ref (Z.2 i)), (1, .int k)]) [0, 1] rfl ?_
  refine r_iload_n 1 dJ1_charAt_3b067_0 rfl ?_
  refine r_aload_n 0 dJ1_charAt_3b067_1 rfl ?_
  refine r_vlen hi dJ1_charAt_3b067_2 ?_
  refine r_callS (st := []) (cJcheck h0 h1) rfl rfl (Nat.le_of_ble_eq_true rfl) kJcheck (tb_in (i := 1) (j := 2) rfl rfl) (by decide) dJ1_charAt_3b067_3 ?_
  refine r_aload_n 0 dJ1_charAt_3b067_6 rfl ?_
  refine r_iload_n 1 dJ1_charAt_3b067_7 rfl ?_
  refine r_vald hi hk dJ1_charAt_3b067_8 ?_
  refine r_sipush (x := 255) dJ1_charAt_3b067_9 (by decide) ?_
  refine r_iand dJ1_charAt_3b067_12 ?_
  refine r_i2c (y := chJS i k) dJ1_charAt_3b067_13 (sc_c2 _) ?_
  exact r_zret (ty := .char) rfl (sc_nar _) dJ1_charAt_3b067_14
theorem cJcharAt {i : Nat} {k : Int32} (hi : i < nJS) (hk : vp_in k (lenJS.getD i 0)) : rMet l D Z tys MJcharAt [.ref (Z.1 i), .int k] ws ws (some (.int (chJS i k))) := by
  refine rMet.of (by decide) rfl (Nat.le_of_ble_eq_true rfl) ?_
  refine r_sub (lv' := [(0, .ref (Z.1 i)), (1, .int k)]) [0, 1] rfl ?_
  refine r_aload_n 0 dJ0_charAt_5068e_0 rfl ?_
  refine r_callK (st := []) hi (cJisLatin1 hi) rfl rfl (Nat.le_of_ble_eq_true rfl) kJisLatin1 (tb_in (i := 1) (j := 19) rfl rfl) (by decide) rfl dJ0_charAt_5068e_1 ?_
  refine r_if_eq 16 dJ0_charAt_5068e_4 (by decide) (fun c => absurd c (by decide)) (fun _ => ?_)
  refine r_aload_n 0 dJ0_charAt_5068e_7 rfl ?_
  refine r_svalue hi (tb_in (i := 0) (j := 21) rfl rfl) dJ0_charAt_5068e_8 ?_
  refine r_iload_n 1 dJ0_charAt_5068e_11 rfl ?_
  refine r_callS (st := []) (cJlatAt hi hk) rfl rfl (Nat.le_of_ble_eq_true rfl) kJlatAt (tb_in (i := 1) (j := 22) rfl rfl) (by decide) dJ0_charAt_5068e_12 ?_
  exact r_zret (ty := .char) rfl (sc_nar _) dJ0_charAt_5068e_15
theorem r_slen {i index : Nat} (hi : i < nJS) (hlink : Cond.methodLink M.1 index yJ0_length_8abf5 ∈ TB) (hrank : 6 ≤ M.2.2.2.2.2) (hcat : (st.map fun v => v.category).sum ≤ 8) (hdg : decode M.2.2.1 pc = .ok (.invokevirtual index, 3)) (k : rW l D Z tys M (pc + 3) lv (.int (nI (lenJS.getD i 0)) :: st) ws ws' v) : rW l D Z tys M pc lv (.ref (Z.1 i) :: st) ws ws' v :=
  r_callK (st := st) hi (cJlength hi) rfl rfl hcat kJlength hlink (by show 2 < M.2.2.2.2.2; omega) rfl hdg k
theorem r_schar {i index : Nat} {j : Int32} (hi : i < nJS) (hj : vp_in j (lenJS.getD i 0)) (hlink : Cond.methodLink M.1 index yJ0_charAt_5068e ∈ TB) (hrank : 6 ≤ M.2.2.2.2.2) (hcat : (st.map fun v => v.category).sum ≤ 8) (hdg : decode M.2.2.1 pc = .ok (.invokevirtual index, 3)) (k : rW l D Z tys M (pc + 3) lv (.int (chJS i j) :: st) ws ws' v) : rW l D Z tys M pc lv (.int j :: .ref (Z.1 i) :: st) ws ws' v :=
  r_callK (st := st) hi (cJcharAt hi hj) rfl rfl hcat kJcharAt hlink (by show 4 < M.2.2.2.2.2; omega) rfl hdg k
end JS
