/-! what holds at the law's start -/
def FLT : List Cond := flatC (Cond.and given_1 narrow_1)
def tmS (i : Nat) : Term := Term.string (SRs.getD i ("", 0, "", 0)).1 (SRs.getD i ("", 0, "", 0)).2.1
theorem of_places {T : List Cond} {is : List Nat} {n : Nat} {f : Nat → Cond} (h : is.map (fun i => T[i]?) = (List.range n).map (fun i => some (f i))) : ∀ i, i < n → f i ∈ T := by
  intro i hi
  have h1 : some (f i) ∈ (List.range n).map (fun i => some (f i)) := List.mem_map.mpr ⟨i, List.mem_range.mpr hi, rfl⟩
  rw [← h] at h1
  obtain ⟨k, _, hk⟩ := List.mem_map.mp h1
  exact List.mem_of_getElem? hk
theorem of_placesL {α : Type} {T : List Cond} {is : List Nat} {l : List α} {f : α → Cond} (h : is.map (fun i => T[i]?) = l.map (fun q => some (f q))) : ∀ q ∈ l, f q ∈ T := by
  intro q hq
  have h1 : some (f q) ∈ l.map (fun q => some (f q)) := List.mem_map.mpr ⟨q, hq, rfl⟩
  rw [← h] at h1
  obtain ⟨k, _, hk⟩ := List.mem_map.mp h1
  exact List.mem_of_getElem? hk
theorem fl_ex : ∀ i, i < 12 → Cond.exactly (tmS i) "java/lang/String" ∈ FLT := of_places (is := [42, 70, 76, 86, 162, 173, 184, 197, 212, 225, 241, 259]) (by decide +kernel)
theorem fl_co : ∀ i, i < 12 → Cond.eq (.field (tmS i) "java/lang/String" "coder" "B") (.int 0) ∈ FLT := of_places (f := fun i => Cond.eq (.field (tmS i) "java/lang/String" "coder" "B") (.int 0)) (is := [43, 71, 77, 87, 163, 174, 185, 198, 213, 226, 242, 260]) (by decide +kernel)
theorem fl_ar : ∀ i, i < 12 → Cond.arrayOf (.field (tmS i) "java/lang/String" "value" "[B") .byte ∈ FLT := of_places (f := fun i => Cond.arrayOf (.field (tmS i) "java/lang/String" "value" "[B") .byte) (is := [44, 72, 78, 88, 164, 175, 186, 199, 214, 227, 243, 261]) (by decide +kernel)
theorem fl_le : ∀ i, i < 12 → Cond.eq (.length (.field (tmS i) "java/lang/String" "value" "[B")) (.int (Int32.ofNat (lenJS.getD i 0))) ∈ FLT := of_places (f := fun i => Cond.eq (.length (.field (tmS i) "java/lang/String" "value" "[B")) (.int (Int32.ofNat (lenJS.getD i 0)))) (is := [45, 73, 79, 89, 165, 176, 187, 200, 215, 228, 244, 262]) (by decide +kernel)
theorem fl_el0 : ∀ j, j < 24 → Cond.eq (.elem (.field (tmS 0) "java/lang/String" "value" "[B") (.int (Int32.ofNat j))) (.int ((bytJS.getD 0 []).getD j 0)) ∈ FLT := of_places (f := fun j => Cond.eq (.elem (.field (tmS 0) "java/lang/String" "value" "[B") (.int (Int32.ofNat j))) (.int ((bytJS.getD 0 []).getD j 0))) (is := [46, 47, 48, 49, 50, 51, 52, 53, 54, 55, 56, 57, 58, 59, 60, 61, 62, 63, 64, 65, 66, 67, 68, 69]) (by decide +kernel)
theorem fl_el1 : ∀ j, j < 1 → Cond.eq (.elem (.field (tmS 1) "java/lang/String" "value" "[B") (.int (Int32.ofNat j))) (.int ((bytJS.getD 1 []).getD j 0)) ∈ FLT := of_places (f := fun j => Cond.eq (.elem (.field (tmS 1) "java/lang/String" "value" "[B") (.int (Int32.ofNat j))) (.int ((bytJS.getD 1 []).getD j 0))) (is := [74]) (by decide +kernel)
theorem fl_el2 : ∀ j, j < 4 → Cond.eq (.elem (.field (tmS 2) "java/lang/String" "value" "[B") (.int (Int32.ofNat j))) (.int ((bytJS.getD 2 []).getD j 0)) ∈ FLT := of_places (f := fun j => Cond.eq (.elem (.field (tmS 2) "java/lang/String" "value" "[B") (.int (Int32.ofNat j))) (.int ((bytJS.getD 2 []).getD j 0))) (is := [80, 81, 82, 83]) (by decide +kernel)
theorem fl_el3 : ∀ j, j < 69 → Cond.eq (.elem (.field (tmS 3) "java/lang/String" "value" "[B") (.int (Int32.ofNat j))) (.int ((bytJS.getD 3 []).getD j 0)) ∈ FLT := of_places (f := fun j => Cond.eq (.elem (.field (tmS 3) "java/lang/String" "value" "[B") (.int (Int32.ofNat j))) (.int ((bytJS.getD 3 []).getD j 0))) (is := [90, 91, 92, 93, 94, 95, 96, 97, 98, 99, 100, 101, 102, 103, 104, 105, 106, 107, 108, 109, 110, 111, 112, 113, 114, 115, 116, 117, 118, 119, 120, 121, 122, 123, 124, 125, 126, 127, 128, 129, 130, 131, 132, 133, 134, 135, 136, 137, 138, 139, 140, 141, 142, 143, 144, 145, 146, 147, 148, 149, 150, 151, 152, 153, 154, 155, 156, 157, 158]) (by decide +kernel)
theorem fl_el4 : ∀ j, j < 3 → Cond.eq (.elem (.field (tmS 4) "java/lang/String" "value" "[B") (.int (Int32.ofNat j))) (.int ((bytJS.getD 4 []).getD j 0)) ∈ FLT := of_places (f := fun j => Cond.eq (.elem (.field (tmS 4) "java/lang/String" "value" "[B") (.int (Int32.ofNat j))) (.int ((bytJS.getD 4 []).getD j 0))) (is := [166, 167, 168]) (by decide +kernel)
theorem fl_el5 : ∀ j, j < 2 → Cond.eq (.elem (.field (tmS 5) "java/lang/String" "value" "[B") (.int (Int32.ofNat j))) (.int ((bytJS.getD 5 []).getD j 0)) ∈ FLT := of_places (f := fun j => Cond.eq (.elem (.field (tmS 5) "java/lang/String" "value" "[B") (.int (Int32.ofNat j))) (.int ((bytJS.getD 5 []).getD j 0))) (is := [177, 178]) (by decide +kernel)
theorem fl_el6 : ∀ j, j < 3 → Cond.eq (.elem (.field (tmS 6) "java/lang/String" "value" "[B") (.int (Int32.ofNat j))) (.int ((bytJS.getD 6 []).getD j 0)) ∈ FLT := of_places (f := fun j => Cond.eq (.elem (.field (tmS 6) "java/lang/String" "value" "[B") (.int (Int32.ofNat j))) (.int ((bytJS.getD 6 []).getD j 0))) (is := [188, 189, 190]) (by decide +kernel)
theorem fl_el7 : ∀ j, j < 4 → Cond.eq (.elem (.field (tmS 7) "java/lang/String" "value" "[B") (.int (Int32.ofNat j))) (.int ((bytJS.getD 7 []).getD j 0)) ∈ FLT := of_places (f := fun j => Cond.eq (.elem (.field (tmS 7) "java/lang/String" "value" "[B") (.int (Int32.ofNat j))) (.int ((bytJS.getD 7 []).getD j 0))) (is := [201, 202, 203, 204]) (by decide +kernel)
theorem fl_el8 : ∀ j, j < 1 → Cond.eq (.elem (.field (tmS 8) "java/lang/String" "value" "[B") (.int (Int32.ofNat j))) (.int ((bytJS.getD 8 []).getD j 0)) ∈ FLT := of_places (f := fun j => Cond.eq (.elem (.field (tmS 8) "java/lang/String" "value" "[B") (.int (Int32.ofNat j))) (.int ((bytJS.getD 8 []).getD j 0))) (is := [216]) (by decide +kernel)
theorem fl_el9 : ∀ j, j < 3 → Cond.eq (.elem (.field (tmS 9) "java/lang/String" "value" "[B") (.int (Int32.ofNat j))) (.int ((bytJS.getD 9 []).getD j 0)) ∈ FLT := of_places (f := fun j => Cond.eq (.elem (.field (tmS 9) "java/lang/String" "value" "[B") (.int (Int32.ofNat j))) (.int ((bytJS.getD 9 []).getD j 0))) (is := [229, 230, 231]) (by decide +kernel)
theorem fl_el10 : ∀ j, j < 4 → Cond.eq (.elem (.field (tmS 10) "java/lang/String" "value" "[B") (.int (Int32.ofNat j))) (.int ((bytJS.getD 10 []).getD j 0)) ∈ FLT := of_places (f := fun j => Cond.eq (.elem (.field (tmS 10) "java/lang/String" "value" "[B") (.int (Int32.ofNat j))) (.int ((bytJS.getD 10 []).getD j 0))) (is := [245, 246, 247, 248]) (by decide +kernel)
theorem fl_el11 : ∀ j, j < 3 → Cond.eq (.elem (.field (tmS 11) "java/lang/String" "value" "[B") (.int (Int32.ofNat j))) (.int ((bytJS.getD 11 []).getD j 0)) ∈ FLT := of_places (f := fun j => Cond.eq (.elem (.field (tmS 11) "java/lang/String" "value" "[B") (.int (Int32.ofNat j))) (.int ((bytJS.getD 11 []).getD j 0))) (is := [263, 264, 265]) (by decide +kernel)
theorem fl_el : ∀ i, i < 12 → ∀ j, j < lenJS.getD i 0 → Cond.eq (.elem (.field (tmS i) "java/lang/String" "value" "[B") (.int (Int32.ofNat j))) (.int ((bytJS.getD i []).getD j 0)) ∈ FLT := by
  intro i hi
  rcases (show i = 0 ∨ i = 1 ∨ i = 2 ∨ i = 3 ∨ i = 4 ∨ i = 5 ∨ i = 6 ∨ i = 7 ∨ i = 8 ∨ i = 9 ∨ i = 10 ∨ i = 11 by omega) with rfl | rfl | rfl | rfl | rfl | rfl | rfl | rfl | rfl | rfl | rfl | rfl
  · exact fl_el0
  · exact fl_el1
  · exact fl_el2
  · exact fl_el3
  · exact fl_el4
  · exact fl_el5
  · exact fl_el6
  · exact fl_el7
  · exact fl_el8
  · exact fl_el9
  · exact fl_el10
  · exact fl_el11
theorem fl_ne0 : ∀ j, j < 11 → Cond.not (Cond.eq (tmS 0) (tmS (1 + j))) ∈ FLT := of_places (f := fun j => Cond.not (Cond.eq (tmS 0) (tmS (1 + j)))) (is := [75, 84, 159, 169, 179, 191, 205, 217, 232, 249, 266]) (by decide +kernel)
theorem fl_ne1 : ∀ j, j < 10 → Cond.not (Cond.eq (tmS 1) (tmS (2 + j))) ∈ FLT := of_places (f := fun j => Cond.not (Cond.eq (tmS 1) (tmS (2 + j)))) (is := [85, 160, 170, 180, 192, 206, 218, 233, 250, 267]) (by decide +kernel)
theorem fl_ne2 : ∀ j, j < 9 → Cond.not (Cond.eq (tmS 2) (tmS (3 + j))) ∈ FLT := of_places (f := fun j => Cond.not (Cond.eq (tmS 2) (tmS (3 + j)))) (is := [161, 171, 181, 193, 207, 219, 234, 251, 268]) (by decide +kernel)
theorem fl_ne3 : ∀ j, j < 8 → Cond.not (Cond.eq (tmS 3) (tmS (4 + j))) ∈ FLT := of_places (f := fun j => Cond.not (Cond.eq (tmS 3) (tmS (4 + j)))) (is := [172, 182, 194, 208, 220, 235, 252, 269]) (by decide +kernel)
theorem fl_ne4 : ∀ j, j < 7 → Cond.not (Cond.eq (tmS 4) (tmS (5 + j))) ∈ FLT := of_places (f := fun j => Cond.not (Cond.eq (tmS 4) (tmS (5 + j)))) (is := [183, 195, 209, 221, 236, 253, 270]) (by decide +kernel)
theorem fl_ne5 : ∀ j, j < 6 → Cond.not (Cond.eq (tmS 5) (tmS (6 + j))) ∈ FLT := of_places (f := fun j => Cond.not (Cond.eq (tmS 5) (tmS (6 + j)))) (is := [196, 210, 222, 237, 254, 271]) (by decide +kernel)
theorem fl_ne6 : ∀ j, j < 5 → Cond.not (Cond.eq (tmS 6) (tmS (7 + j))) ∈ FLT := of_places (f := fun j => Cond.not (Cond.eq (tmS 6) (tmS (7 + j)))) (is := [211, 223, 238, 255, 272]) (by decide +kernel)
theorem fl_ne7 : ∀ j, j < 4 → Cond.not (Cond.eq (tmS 7) (tmS (8 + j))) ∈ FLT := of_places (f := fun j => Cond.not (Cond.eq (tmS 7) (tmS (8 + j)))) (is := [224, 239, 256, 273]) (by decide +kernel)
theorem fl_ne8 : ∀ j, j < 3 → Cond.not (Cond.eq (tmS 8) (tmS (9 + j))) ∈ FLT := of_places (f := fun j => Cond.not (Cond.eq (tmS 8) (tmS (9 + j)))) (is := [240, 257, 274]) (by decide +kernel)
theorem fl_ne9 : ∀ j, j < 2 → Cond.not (Cond.eq (tmS 9) (tmS (10 + j))) ∈ FLT := of_places (f := fun j => Cond.not (Cond.eq (tmS 9) (tmS (10 + j)))) (is := [258, 275]) (by decide +kernel)
theorem fl_ne10 : ∀ j, j < 1 → Cond.not (Cond.eq (tmS 10) (tmS (11 + j))) ∈ FLT := of_places (f := fun j => Cond.not (Cond.eq (tmS 10) (tmS (11 + j)))) (is := [276]) (by decide +kernel)
theorem fl_lt : ∀ i j, i < j → j < 12 → Cond.not (Cond.eq (tmS i) (tmS j)) ∈ FLT := by
  intro i j h1 h2
  rcases (show i = 0 ∨ i = 1 ∨ i = 2 ∨ i = 3 ∨ i = 4 ∨ i = 5 ∨ i = 6 ∨ i = 7 ∨ i = 8 ∨ i = 9 ∨ i = 10 by omega) with rfl | rfl | rfl | rfl | rfl | rfl | rfl | rfl | rfl | rfl | rfl
  · have := fl_ne0 (j - 1) (by omega); rw [show 1 + (j - 1) = j by omega] at this; exact this
  · have := fl_ne1 (j - 2) (by omega); rw [show 2 + (j - 2) = j by omega] at this; exact this
  · have := fl_ne2 (j - 3) (by omega); rw [show 3 + (j - 3) = j by omega] at this; exact this
  · have := fl_ne3 (j - 4) (by omega); rw [show 4 + (j - 4) = j by omega] at this; exact this
  · have := fl_ne4 (j - 5) (by omega); rw [show 5 + (j - 5) = j by omega] at this; exact this
  · have := fl_ne5 (j - 6) (by omega); rw [show 6 + (j - 6) = j by omega] at this; exact this
  · have := fl_ne6 (j - 7) (by omega); rw [show 7 + (j - 7) = j by omega] at this; exact this
  · have := fl_ne7 (j - 8) (by omega); rw [show 8 + (j - 8) = j by omega] at this; exact this
  · have := fl_ne8 (j - 9) (by omega); rw [show 9 + (j - 9) = j by omega] at this; exact this
  · have := fl_ne9 (j - 10) (by omega); rw [show 10 + (j - 10) = j by omega] at this; exact this
  · have := fl_ne10 (j - 11) (by omega); rw [show 11 + (j - 11) = j by omega] at this; exact this
theorem fl_z : Cond.eq (.static "java/lang/String" "COMPACT_STRINGS" "Z") (.int 1) ∈ FLT := List.mem_of_getElem? (i := 4) (by decide +kernel)
theorem fl_q : Cond.isRef (.static "jdk/internal/util/Preconditions" "SIOOBE_FORMATTER" "Ljava/util/function/BiFunction;") ∈ FLT := List.mem_of_getElem? (i := 5) (by decide +kernel)
theorem tl_z0 : Cond.laysStatic "java/lang/String" "COMPACT_STRINGS" "Z" ∈ lw_tbl := List.mem_of_getElem? (i := 577) (by decide +kernel)
theorem tl_z1 : Cond.initialized "java/lang/String" ∈ lw_tbl := List.mem_of_getElem? (i := 161) (by decide +kernel)
theorem tl_z2 : Cond.laysStatic "jdk/internal/util/Preconditions" "SIOOBE_FORMATTER" "Ljava/util/function/BiFunction;" ∈ lw_tbl := List.mem_of_getElem? (i := 593) (by decide +kernel)
theorem tl_z3 : Cond.initialized "jdk/internal/util/Preconditions" ∈ lw_tbl := List.mem_of_getElem? (i := 163) (by decide +kernel)
theorem tl_a0 : Cond.arrayClass .byte ∈ lw_tbl := List.mem_of_getElem? (i := 191) (by decide +kernel)
theorem tl_a1 : Cond.arrayClass .int ∈ lw_tbl := List.mem_of_getElem? (i := 328) (by decide +kernel)
theorem tl_a2 : Cond.arrayClass .long ∈ lw_tbl := List.mem_of_getElem? (i := 493) (by decide +kernel)
theorem tl_a3 : Cond.arrayClass .boolean ∈ lw_tbl := List.mem_of_getElem? (i := 422) (by decide +kernel)
theorem tl_a4 : Cond.arrayOver (.object "NextStall$Fair") ∈ lw_tbl := List.mem_of_getElem? (i := 385) (by decide +kernel)
theorem tl_a5 : Cond.arrayOver (.object "NextStall$Rule") ∈ lw_tbl := List.mem_of_getElem? (i := 217) (by decide +kernel)
theorem tl_a6 : Cond.arrayOver (.object "NextStall$World") ∈ lw_tbl := List.mem_of_getElem? (i := 398) (by decide +kernel)
theorem tl_sr : ∀ q ∈ SRs, Cond.stringRef q.1 q.2.1 q.2.2.1 ∈ lw_tbl := of_placesL (f := fun q : String × Nat × String × Nat => Cond.stringRef q.1 q.2.1 q.2.2.1) (is := [562, 675, 713, 725, 734, 736, 737, 744, 745, 749, 750, 751]) (by decide +kernel)
theorem tl_nf : ∀ q ∈ NBf, Cond.fieldLinkNest q.1 q.2.1 q.2.2.1 q.2.2.2.1 q.2.2.2.2.1 q.2.2.2.2.2 ∈ lw_tbl := of_placesL (f := fun q : String × Nat × String × String × String × String => Cond.fieldLinkNest q.1 q.2.1 q.2.2.1 q.2.2.2.1 q.2.2.2.2.1 q.2.2.2.2.2) (is := [182, 184, 185, 199, 201, 203, 204, 206, 231, 232, 233, 235, 236, 237, 239, 240, 241, 243, 244, 245, 247, 248, 249, 251, 252, 253, 255, 256, 257, 260, 261, 262, 264, 265, 267, 268, 271, 273, 274, 276, 277, 279, 280, 282, 284, 285, 287, 288, 339, 340, 351, 353, 355, 356, 358, 360, 361, 363, 364, 390, 414, 416, 424, 428, 457, 459, 461, 463, 465, 467, 469]) (by decide +kernel)
theorem tl_nm : ∀ q ∈ NBm, Cond.methodLinkNest q.1 q.2.1 q.2.2.1 q.2.2.2 ∈ lw_tbl := of_placesL (f := fun q : String × Nat × MethodName × String => Cond.methodLinkNest q.1 q.2.1 q.2.2.1 q.2.2.2) (is := [177, 194, 220, 226, 331, 380, 386, 401, 406, 409, 451, 526, 541, 548, 551, 558, 563, 620, 627, 636, 640, 644, 651, 655, 667, 671, 680, 681, 682, 686, 697, 705, 708, 712, 714, 715, 722, 724, 729, 730, 735, 752, 765, 777, 793, 797, 803, 815, 848, 861, 862, 872, 880, 884, 900, 904, 910, 914, 915, 920, 928, 932, 937, 941, 949, 961, 976, 984, 988, 989, 994, 1002, 1007, 1012, 1021, 1029, 1036, 1043, 1048, 1052, 1064, 1076, 1085, 1086, 1091, 1096, 1100]) (by decide +kernel)
theorem tl_in : ∀ q ∈ vwCl, Cond.instantiable q.1 q.2.2 ∈ lw_tbl := of_placesL (f := fun q : vw_C => Cond.instantiable q.1 q.2.2) (is := [193, 225, 330, 408, 379, 450, 176, 400, 219, 168, 1110]) (by decide +kernel)
theorem sr_ix : ∀ q ∈ SRs, q.2.2.2 < 12 ∧ SRs.getD q.2.2.2 ("", 0, "", 0) = q := by decide +kernel
/-- array classes -/
theorem ar_of {s : State} {A : Array Value} {ty : FieldType} (hob : ∀ C, ty ≠ .object C) (h : (Cond.arrayClass ty).before A s = true) : ∃ cA : ClassId, ArrOfT s cA ty ∧ va_RA s cA ty := by
  obtain ⟨cA, k, comp, h1, h2, h3⟩ := Cond.arrayClass_spec (args := A) (first := s) (o := none) (s := s) (idx := []) h
  refine ⟨cA, fun n z => ⟨(fun k h => by cases h), k, h2, comp, h3⟩, ?_⟩
  cases ty with
  | object C => exact absurd rfl (hob C)
  | _ => exact h1
theorem ao_of {s : State} {C : String} (h : va_AO C s) : ∃ cA : ClassId, ArrOfT s cA (.object C) ∧ va_RA s cA (.object C) := by
  obtain ⟨comp, cA, k, h1, h2, h3, h4, h5⟩ := Cond.arrayOver_spec h
  exact ⟨cA, fun n z => ⟨(fun k h => by cases h), k, h3, comp, h4⟩, k, comp, h3, h4, h1, h5⟩
theorem start_rX {p : Program} {s : State} {m : MethodId} {meth : Method} {c : Code} {b L : Nat} {xs : Nat → Int32} (C0 : lw_At p s m meth c b L xs) : ∃ Z : (Nat → Nat) × (Nat → Nat), rX Z (lA s) s s.heap := by
  obtain ⟨hx, hb, hr, hml, hown, hts, hX, hbl, hlocks, hgv⟩ := C0
  have hs : ∀ w ∈ FLT, w.before #[Value.ref b] s = true := flat_of_before _ hgv
  have hA : ∀ a : Nat, a < s.heap.size → ¬ lA s a := fun a h => Nat.not_le.mpr h
  obtain ⟨adK, adV, hS, hev⟩ := vk_Sof (args := #[Value.ref b]) (s := s) (N := nJS) (tm := tmS) (len := lenJS) (byt := bytJS) (A := lA s) (by decide) (fun i hi => hs _ (fl_ex i hi)) (fun i hi => hs _ (fl_co i hi)) (fun i hi => hs _ (fl_ar i hi)) (fun i hi => hs _ (fl_le i hi)) (fun i hi j hj => hs _ (fl_el i hi j hj)) (fun i j hi hj hij => by
    rcases Nat.lt_or_gt_of_ne hij with h | h
    · exact Or.inl (hs _ (fl_lt i j h hj))
    · exact Or.inr (hs _ (fl_lt j i h hi))) hA
  refine ⟨(adK, adV), fun q hq => va_Nw.of rfl (hts _ (tl_nf q hq)), fun q hq => va_Nw.of rfl (hts _ (tl_nm q hq)), hS, va_Zof (hts _ tl_z0) (hts _ tl_z1) (va_eqi (hs _ fl_z)) hA, va_Zqof (hts _ tl_z2) (hts _ tl_z3) (hs _ fl_q) hA, fun q hq => ?_⟩
  obtain ⟨h1, h2⟩ := sr_ix q hq
  refine vk_R.of (hts _ (tl_sr q hq)) ?_
  have := hev q.2.2.2 h1
  unfold tmS at this
  rw [h2] at this
  exact this
theorem start_nAO {p : Program} {s : State} {m : MethodId} {meth : Method} {c : Code} {b L : Nat} {xs : Nat → Int32} (C0 : lw_At p s m meth c b L xs) : nAO s :=
  ⟨va_AO.of (C0.2.2.2.2.2.1 _ tl_a4), va_AO.of (C0.2.2.2.2.2.1 _ tl_a5), va_AO.of (C0.2.2.2.2.2.1 _ tl_a6)⟩
theorem start_K {p : Program} {s : State} {m : MethodId} {meth : Method} {c : Code} {b L : Nat} {xs : Nat → Int32} (C0 : lw_At p s m meth c b L xs) : ∃ (D : va_G) (K : Nat → ClassId), va_K D vwCl (ty7 K) s := by
  have hts := C0.2.2.2.2.2.1
  obtain ⟨c0, i0, k0⟩ := u_known (C := RX0) (T := TX0) (N := 4) (n := 4) hts (fun w h => tb_sub w (tb_u (i := 0) rfl w h)) (hts _ (tl_in (RX0, TX0, 4) (List.mem_of_getElem? (i := 0) rfl)))
  obtain ⟨c1, i1, k1⟩ := u_known (C := RX1) (T := TX1) (N := 19) (n := 19) hts (fun w h => tb_sub w (tb_u (i := 1) rfl w h)) (hts _ (tl_in (RX1, TX1, 19) (List.mem_of_getElem? (i := 1) rfl)))
  obtain ⟨c2, i2, k2⟩ := u_known (C := RX3) (T := TX3) (N := 4) (n := 4) hts (fun w h => tb_sub w (tb_u (i := 2) rfl w h)) (hts _ (tl_in (RX3, TX3, 4) (List.mem_of_getElem? (i := 2) rfl)))
  obtain ⟨c3, i3, k3⟩ := u_known (C := RX4) (T := TX4) (N := 2) (n := 2) hts (fun w h => tb_sub w (tb_u (i := 3) rfl w h)) (hts _ (tl_in (RX4, TX4, 2) (List.mem_of_getElem? (i := 3) rfl)))
  obtain ⟨c4, i4, k4⟩ := u_known (C := RX5) (T := TX5) (N := 3) (n := 3) hts (fun w h => tb_sub w (tb_u (i := 4) rfl w h)) (hts _ (tl_in (RX5, TX5, 3) (List.mem_of_getElem? (i := 4) rfl)))
  obtain ⟨c5, i5, k5⟩ := u_known (C := RX6) (T := TX6) (N := 10) (n := 10) hts (fun w h => tb_sub w (tb_u (i := 5) rfl w h)) (hts _ (tl_in (RX6, TX6, 10) (List.mem_of_getElem? (i := 5) rfl)))
  obtain ⟨c6, i6, k6⟩ := u_known (C := RX8) (T := TX8) (N := 2) (n := 2) hts (fun w h => tb_sub w (tb_u (i := 6) rfl w h)) (hts _ (tl_in (RX8, TX8, 2) (List.mem_of_getElem? (i := 6) rfl)))
  obtain ⟨c7, i7, k7⟩ := u_known (C := RX9) (T := TX9) (N := 8) (n := 8) hts (fun w h => tb_sub w (tb_u (i := 7) rfl w h)) (hts _ (tl_in (RX9, TX9, 8) (List.mem_of_getElem? (i := 7) rfl)))
  obtain ⟨c8, i8, k8⟩ := u_known (C := RX10) (T := TX10) (N := 6) (n := 6) hts (fun w h => tb_sub w (tb_u (i := 8) rfl w h)) (hts _ (tl_in (RX10, TX10, 6) (List.mem_of_getElem? (i := 8) rfl)))
  obtain ⟨c9, i9, k9⟩ := u_known (C := RX11) (T := TX11) (N := 9) (n := 9) hts (fun w h => tb_sub w (tb_u (i := 9) rfl w h)) (hts _ (tl_in (RX11, TX11, 9) (List.mem_of_getElem? (i := 9) rfl)))
  obtain ⟨c10, i10, k10⟩ := u_known (C := RX12) (T := TX12) (N := 39) (n := 39) hts (fun w h => tb_sub w (tb_u (i := 10) rfl w h)) (hts _ (tl_in (RX12, TX12, 39) (List.mem_of_getElem? (i := 10) rfl)))
  obtain ⟨a0, b0⟩ := ar_of (by intro C h; cases h) (hts _ tl_a0)
  obtain ⟨a1, b1⟩ := ar_of (by intro C h; cases h) (hts _ tl_a1)
  obtain ⟨a2, b2⟩ := ar_of (by intro C h; cases h) (hts _ tl_a2)
  obtain ⟨a3, b3⟩ := ar_of (by intro C h; cases h) (hts _ tl_a3)
  obtain ⟨a4, b4⟩ := ao_of (va_AO.of (hts _ tl_a4))
  obtain ⟨a5, b5⟩ := ao_of (va_AO.of (hts _ tl_a5))
  obtain ⟨a6, b6⟩ := ao_of (va_AO.of (hts _ tl_a6))
  refine ⟨(fun k => [c0, c1, c2, c3, c4, c5, c6, c7, c8, c9, c10].getD k c0, fun k => [i0, i1, i2, i3, i4, i5, i6, i7, i8, i9, i10].getD k i0), fun k => [a0, a1, a2, a3, a4, a5, a6].getD k a0, fun k q hq => ?_, fun k q hq => ?_⟩
  · match k, hq with
    | 0, hq => cases hq; exact k0
    | 1, hq => cases hq; exact k1
    | 2, hq => cases hq; exact k2
    | 3, hq => cases hq; exact k3
    | 4, hq => cases hq; exact k4
    | 5, hq => cases hq; exact k5
    | 6, hq => cases hq; exact k6
    | 7, hq => cases hq; exact k7
    | 8, hq => cases hq; exact k8
    | 9, hq => cases hq; exact k9
    | 10, hq => cases hq; exact k10
    | k + 11, hq => simp [vwCl] at hq
  · match k, hq with
    | 0, hq => cases hq; exact b0
    | 1, hq => cases hq; exact b1
    | 2, hq => cases hq; exact b2
    | 3, hq => cases hq; exact b3
    | 4, hq => cases hq; exact b4
    | 5, hq => cases hq; exact b5
    | 6, hq => cases hq; exact b6
    | k + 7, hq => simp [ty7] at hq
