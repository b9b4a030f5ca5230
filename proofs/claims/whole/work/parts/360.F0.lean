section PC7
variable {l : Launch} {D : va_G} {Z : (Nat → Nat) × (Nat → Nat)} {K : Nat → ClassId}
theorem dX5_keep_0 : decode cX5_keep 0 = .ok (.aload_n 0, 1) := by decide +kernel
theorem dX5_keep_1 : decode cX5_keep 1 = .ok (.getfield 11, 3) := by decide +kernel
theorem dX5_keep_4 : decode cX5_keep 4 = .ok (.aload_n 0, 1) := by decide +kernel
theorem dX5_keep_5 : decode cX5_keep 5 = .ok (.getfield 17, 3) := by decide +kernel
theorem dX5_keep_8 : decode cX5_keep 8 = .ok (.aaload, 1) := by decide +kernel
theorem dX5_keep_9 : decode cX5_keep 9 = .ok (.aload_n 1, 1) := by decide +kernel
theorem dX5_keep_10 : decode cX5_keep 10 = .ok (.invokevirtual 25, 3) := by decide +kernel
theorem dX5_keep_13 : decode cX5_keep 13 = .ok (.aload_n 0, 1) := by decide +kernel
theorem dX5_keep_14 : decode cX5_keep 14 = .ok (.aload_n 0, 1) := by decide +kernel
theorem dX5_keep_15 : decode cX5_keep 15 = .ok (.getfield 17, 3) := by decide +kernel
theorem dX5_keep_18 : decode cX5_keep 18 = .ok (.iconst 1, 1) := by decide +kernel
theorem dX5_keep_19 : decode cX5_keep 19 = .ok (.iadd, 1) := by decide +kernel
theorem dX5_keep_20 : decode cX5_keep 20 = .ok (.bipush 20, 2) := by decide +kernel
theorem dX5_keep_22 : decode cX5_keep 22 = .ok (.irem, 1) := by decide +kernel
theorem dX5_keep_23 : decode cX5_keep 23 = .ok (.putfield 17, 3) := by decide +kernel
theorem dX5_keep_26 : decode cX5_keep 26 = .ok (.aload_n 0, 1) := by decide +kernel
theorem dX5_keep_27 : decode cX5_keep 27 = .ok (.bipush 20, 2) := by decide +kernel
theorem dX5_keep_29 : decode cX5_keep 29 = .ok (.aload_n 0, 1) := by decide +kernel
theorem dX5_keep_30 : decode cX5_keep 30 = .ok (.getfield 21, 3) := by decide +kernel
theorem dX5_keep_33 : decode cX5_keep 33 = .ok (.iconst 1, 1) := by decide +kernel
theorem dX5_keep_34 : decode cX5_keep 34 = .ok (.iadd, 1) := by decide +kernel
theorem dX5_keep_35 : decode cX5_keep 35 = .ok (.invokestatic 29, 3) := by decide +kernel
theorem dX5_keep_38 : decode cX5_keep 38 = .ok (.putfield 21, 3) := by decide +kernel
theorem dX5_keep_41 : decode cX5_keep 41 = .ok (.return_, 1) := by decide +kernel
abbrev MPast_keep : rx_M := (RX5, yX5_keep, cX5_keep, 2, none, 5)
theorem kPast_keep : rKv MPast_keep 1 := ⟨tb_in (i := 14) (j := 9) rfl rfl, tb_in (i := 14) (j := 10) rfl rfl, tb_in (i := 12) (j := 29) rfl rfl, tb_in (i := 8) (j := 13) rfl rfl, ⟨by decide, by decide, by decide +kernel⟩, by decide⟩
section
variable {a0 : Nat → Nat} {a1 : Nat → Nat} {g0 : tyPast} {g1 : tyFair} {f0_fairs : Nat → Nat → Nat} {p0_fairs0 : Nat → tyFair}
def mPast_keep (g0 : tyPast) (g1 : tyFair) (p0_fairs0 : Nat → tyFair) : Option (tyPast × (Nat → tyFair)) := rq (inb g0.1 20) (lt (g0.1.toNatClampNeg) (fun j1 => (mFair_copyFrom ((p0_fairs0 j1).1) ((p0_fairs0 j1).2.1) ((p0_fairs0 j1).2.2.1) ((p0_fairs0 j1).2.2.2.1) ((p0_fairs0 j1).2.2.2.2.1) ((p0_fairs0 j1).2.2.2.2.2.1) ((p0_fairs0 j1).2.2.2.2.2.2.1) ((p0_fairs0 j1).2.2.2.2.2.2.2.1) ((p0_fairs0 j1).2.2.2.2.2.2.2.2.1) ((p0_fairs0 j1).2.2.2.2.2.2.2.2.2.1) ((p0_fairs0 j1).2.2.2.2.2.2.2.2.2.2.1) ((p0_fairs0 j1).2.2.2.2.2.2.2.2.2.2.2.1) ((p0_fairs0 j1).2.2.2.2.2.2.2.2.2.2.2.2.1) ((p0_fairs0 j1).2.2.2.2.2.2.2.2.2.2.2.2.2.1) ((p0_fairs0 j1).2.2.2.2.2.2.2.2.2.2.2.2.2.2.1) ((p0_fairs0 j1).2.2.2.2.2.2.2.2.2.2.2.2.2.2.2.1) ((p0_fairs0 j1).2.2.2.2.2.2.2.2.2.2.2.2.2.2.2.2.1) ((p0_fairs0 j1).2.2.2.2.2.2.2.2.2.2.2.2.2.2.2.2.2.1) ((p0_fairs0 j1).2.2.2.2.2.2.2.2.2.2.2.2.2.2.2.2.2.2) g1.1 g1.2.1 g1.2.2.1 g1.2.2.2.1 g1.2.2.2.2.1 g1.2.2.2.2.2.1 g1.2.2.2.2.2.2.1 g1.2.2.2.2.2.2.2.1 g1.2.2.2.2.2.2.2.2.1 g1.2.2.2.2.2.2.2.2.2.1 g1.2.2.2.2.2.2.2.2.2.2.1 g1.2.2.2.2.2.2.2.2.2.2.2.1 g1.2.2.2.2.2.2.2.2.2.2.2.2.1 g1.2.2.2.2.2.2.2.2.2.2.2.2.2.1 g1.2.2.2.2.2.2.2.2.2.2.2.2.2.2.1 g1.2.2.2.2.2.2.2.2.2.2.2.2.2.2.2.1 g1.2.2.2.2.2.2.2.2.2.2.2.2.2.2.2.2.1 g1.2.2.2.2.2.2.2.2.2.2.2.2.2.2.2.2.2.1 g1.2.2.2.2.2.2.2.2.2.2.2.2.2.2.2.2.2.2).bind (fun q2 => lt ((g0.1 + (1 : Int32)) - (g0.1 + (1 : Int32)) / (20 : Int32) * (20 : Int32)) (fun y3 => lt (if (g0.2 + (1 : Int32)) < (20 : Int32) then (g0.2 + (1 : Int32)) else (20 : Int32)) (fun y4 => some ((y3, y4), (va_up p0_fairs0 j1 q2)))))))
set_option maxHeartbeats 4000000 in
set_option maxRecDepth 20000 in
theorem cPast_keep {q : tyPast × (Nat → tyFair)}  (h : mPast_keep g0 g1 p0_fairs0 = some q) : rMet l D Z (ty7 K) MPast_keep [.ref (a0 0), .ref (a1 0)] (List.flatten ([bPastG K a0 (fun j => some (f0_fairs j 0)) g0, bFairG K a1 g1] ++ (fam 20 (fun j => bFairG K (f0_fairs j) (p0_fairs0 j)) ++ []))) (List.flatten ([bPastG K a0 (fun j => some (f0_fairs j 0)) q.1, bFairG K a1 g1] ++ (fam 20 (fun j => bFairG K (f0_fairs j) (q.2 j)) ++ []))) none := by
  refine rMet.of (by decide) rfl (Nat.le_of_ble_eq_true rfl) ?_
  refine r_sub (lv' := [(0, .ref (a0 0)), (1, .ref (a1 0))]) [0, 1] rfl ?_
  unfold mPast_keep at h
  refine r_aload_n 0 dX5_keep_0 rfl ?_
  refine gPast_fairs 0 rfl (tb_in (i := 8) (j := 4) rfl rfl) dX5_keep_1 ?_
  refine r_aload_n 0 dX5_keep_4 rfl ?_
  refine gPast_next 0 rfl (tb_in (i := 8) (j := 5) rfl rfl) dX5_keep_5 ?_
  obtain ⟨h1, h⟩ := rq_some h
  obtain ⟨j1, e1, h⟩ := lt_some h
  have hj1 : j1 < 20 := by rw [e1]; exact inb_lt h1
  refine b_aald 0 1 4 rfl rfl rfl (inb_in h1) dX5_keep_8 ?_
  refine r_st (st' := [.ref (f0_fairs j1 0)]) (by rw [e1]; rfl) ?_
  refine r_aload_n 1 dX5_keep_9 rfl ?_
  obtain ⟨q2, h2, h⟩ := bd_some h
  refine b_callVN (isC := [2 + j1, 1]) (ci := 1)  (st := []) (bs1 := ([bPastG K a0 (fun j => some (f0_fairs j 0)) g0, bFairG K a1 g1] ++ (fam 20 (fun j => bFairG K (f0_fairs j) ((va_up p0_fairs0 j1 q2) j)) ++ []))) (cFair_copyFrom (a0 := f0_fairs j1) (a1 := a1) (z0_lasts := (p0_fairs0 j1).1) (z0_keeps := (p0_fairs0 j1).2.1) (z0_stalls := (p0_fairs0 j1).2.2.1) (z0_buyers := (p0_fairs0 j1).2.2.2.1) (z0_minute := (p0_fairs0 j1).2.2.2.2.1) (z0_goods := (p0_fairs0 j1).2.2.2.2.2.1) (z0_price := (p0_fairs0 j1).2.2.2.2.2.2.1) (z0_tongue := (p0_fairs0 j1).2.2.2.2.2.2.2.1) (z0_till := (p0_fairs0 j1).2.2.2.2.2.2.2.2.1) (z0_wealth := (p0_fairs0 j1).2.2.2.2.2.2.2.2.2.1) (z0_sold := (p0_fairs0 j1).2.2.2.2.2.2.2.2.2.2.1) (z0_ring := (p0_fairs0 j1).2.2.2.2.2.2.2.2.2.2.2.1) (z0_grudges := (p0_fairs0 j1).2.2.2.2.2.2.2.2.2.2.2.2.1) (z0_purse := (p0_fairs0 j1).2.2.2.2.2.2.2.2.2.2.2.2.2.1) (z0_came := (p0_fairs0 j1).2.2.2.2.2.2.2.2.2.2.2.2.2.2.1) (z0_had := (p0_fairs0 j1).2.2.2.2.2.2.2.2.2.2.2.2.2.2.2.1) (z0_seller := (p0_fairs0 j1).2.2.2.2.2.2.2.2.2.2.2.2.2.2.2.2.1) (z0_praise := (p0_fairs0 j1).2.2.2.2.2.2.2.2.2.2.2.2.2.2.2.2.2.1) (z0_borne := (p0_fairs0 j1).2.2.2.2.2.2.2.2.2.2.2.2.2.2.2.2.2.2) (z1_lasts := g1.1) (z1_keeps := g1.2.1) (z1_stalls := g1.2.2.1) (z1_buyers := g1.2.2.2.1) (z1_minute := g1.2.2.2.2.1) (z1_goods := g1.2.2.2.2.2.1) (z1_price := g1.2.2.2.2.2.2.1) (z1_tongue := g1.2.2.2.2.2.2.2.1) (z1_till := g1.2.2.2.2.2.2.2.2.1) (z1_wealth := g1.2.2.2.2.2.2.2.2.2.1) (z1_sold := g1.2.2.2.2.2.2.2.2.2.2.1) (z1_ring := g1.2.2.2.2.2.2.2.2.2.2.2.1) (z1_grudges := g1.2.2.2.2.2.2.2.2.2.2.2.2.1) (z1_purse := g1.2.2.2.2.2.2.2.2.2.2.2.2.2.1) (z1_came := g1.2.2.2.2.2.2.2.2.2.2.2.2.2.2.1) (z1_had := g1.2.2.2.2.2.2.2.2.2.2.2.2.2.2.2.1) (z1_seller := g1.2.2.2.2.2.2.2.2.2.2.2.2.2.2.2.2.1) (z1_praise := g1.2.2.2.2.2.2.2.2.2.2.2.2.2.2.2.2.2.1) (z1_borne := g1.2.2.2.2.2.2.2.2.2.2.2.2.2.2.2.2.2.2) h2) rfl rfl (Nat.le_of_ble_eq_true rfl) kFair_copyFrom (List.mem_of_getElem? (i := 45) rfl) (by decide) (by simp only [List.nodup_cons, List.mem_cons, List.not_mem_nil, or_false, not_or, List.nodup_nil, not_false_eq_true, and_true]; omega) (map_s (fq0 (B := fun j g => bFairG K (f0_fairs j) g) (l := [bPastG K a0 (fun j => some (f0_fairs j 0)) g0, bFairG K a1 g1]) rfl hj1) (map_s (rfl) map_n)) rfl (stm_s (bs1 := ([bPastG K a0 (fun j => some (f0_fairs j 0)) g0, bFairG K a1 g1] ++ (fam 20 (fun j => bFairG K (f0_fairs j) ((va_up p0_fairs0 j1 q2) j)) ++ []))) (fs0 (B := fun j g => bFairG K (f0_fairs j) g) (g := q2) (l := [bPastG K a0 (fun j => some (f0_fairs j 0)) g0, bFairG K a1 g1]) rfl hj1) (stm_s (bs1 := ([bPastG K a0 (fun j => some (f0_fairs j 0)) g0, bFairG K a1 g1] ++ (fam 20 (fun j => bFairG K (f0_fairs j) ((va_up p0_fairs0 j1 q2) j)) ++ []))) (rfl) stm_n)) rfl rfl rfl rfl dX5_keep_10 ?_
  refine r_aload_n 0 dX5_keep_13 rfl ?_
  refine r_aload_n 0 dX5_keep_14 rfl ?_
  refine gPast_next 0 rfl (tb_in (i := 8) (j := 5) rfl rfl) dX5_keep_15 ?_
  refine r_iconst (x := (1 : Int32)) dX5_keep_18 (by decide) ?_
  refine r_iadd dX5_keep_19 ?_
  refine r_bipush (x := (20 : Int32)) dX5_keep_20 (by decide) ?_
  refine r_irem dX5_keep_22 (by decide) ?_
  obtain ⟨y3, e3, h⟩ := lt_some h
  refine r_top e3 ?_
  refine pPast_next (bs1 := ([bPast K a0 (fun j => some (f0_fairs j 0)) y3 g0.2, bFairG K a1 g1] ++ (fam 20 (fun j => bFairG K (f0_fairs j) ((va_up p0_fairs0 j1 q2) j)) ++ []))) 0 rfl rfl (tb_in (i := 8) (j := 5) rfl rfl) dX5_keep_23 ?_
  refine r_aload_n 0 dX5_keep_26 rfl ?_
  refine r_bipush (x := (20 : Int32)) dX5_keep_27 (by decide) ?_
  refine r_aload_n 0 dX5_keep_29 rfl ?_
  refine gPast_size 0 rfl (tb_in (i := 8) (j := 6) rfl rfl) dX5_keep_30 ?_
  refine r_iconst (x := (1 : Int32)) dX5_keep_33 (by decide) ?_
  refine r_iadd dX5_keep_34 ?_
  refine r_mmin (tb_in (i := 8) (j := 10) rfl rfl) (tb_in (i := 3) (j := 20) rfl rfl) (tb_in (i := 3) (j := 21) rfl rfl) (tb_in (i := 3) (j := 22) rfl rfl) (by decide) (Nat.le_of_ble_eq_true rfl) dX5_keep_35 ?_
  obtain ⟨y4, e4, h⟩ := lt_some h
  refine r_top e4 ?_
  refine pPast_size (bs1 := ([bPast K a0 (fun j => some (f0_fairs j 0)) y3 y4, bFairG K a1 g1] ++ (fam 20 (fun j => bFairG K (f0_fairs j) ((va_up p0_fairs0 j1 q2) j)) ++ []))) 0 rfl rfl (tb_in (i := 8) (j := 6) rfl rfl) dX5_keep_38 ?_
  have hq := Option.some.inj h
  subst hq
  exact r_vret rfl dX5_keep_41
end
theorem dX5_takeBack_0 : decode cX5_takeBack 0 = .ok (.aload_n 0, 1) := by decide +kernel
theorem dX5_takeBack_1 : decode cX5_takeBack 1 = .ok (.aload_n 0, 1) := by decide +kernel
theorem dX5_takeBack_2 : decode cX5_takeBack 2 = .ok (.getfield 17, 3) := by decide +kernel
theorem dX5_takeBack_5 : decode cX5_takeBack 5 = .ok (.bipush 20, 2) := by decide +kernel
theorem dX5_takeBack_7 : decode cX5_takeBack 7 = .ok (.iadd, 1) := by decide +kernel
theorem dX5_takeBack_8 : decode cX5_takeBack 8 = .ok (.iconst 1, 1) := by decide +kernel
theorem dX5_takeBack_9 : decode cX5_takeBack 9 = .ok (.isub, 1) := by decide +kernel
theorem dX5_takeBack_10 : decode cX5_takeBack 10 = .ok (.bipush 20, 2) := by decide +kernel
theorem dX5_takeBack_12 : decode cX5_takeBack 12 = .ok (.irem, 1) := by decide +kernel
theorem dX5_takeBack_13 : decode cX5_takeBack 13 = .ok (.putfield 17, 3) := by decide +kernel
theorem dX5_takeBack_16 : decode cX5_takeBack 16 = .ok (.aload_n 0, 1) := by decide +kernel
theorem dX5_takeBack_17 : decode cX5_takeBack 17 = .ok (.dup, 1) := by decide +kernel
theorem dX5_takeBack_18 : decode cX5_takeBack 18 = .ok (.getfield 21, 3) := by decide +kernel
theorem dX5_takeBack_21 : decode cX5_takeBack 21 = .ok (.iconst 1, 1) := by decide +kernel
theorem dX5_takeBack_22 : decode cX5_takeBack 22 = .ok (.isub, 1) := by decide +kernel
theorem dX5_takeBack_23 : decode cX5_takeBack 23 = .ok (.putfield 21, 3) := by decide +kernel
theorem dX5_takeBack_26 : decode cX5_takeBack 26 = .ok (.aload_n 1, 1) := by decide +kernel
theorem dX5_takeBack_27 : decode cX5_takeBack 27 = .ok (.aload_n 0, 1) := by decide +kernel
theorem dX5_takeBack_28 : decode cX5_takeBack 28 = .ok (.getfield 11, 3) := by decide +kernel
theorem dX5_takeBack_31 : decode cX5_takeBack 31 = .ok (.aload_n 0, 1) := by decide +kernel
theorem dX5_takeBack_32 : decode cX5_takeBack 32 = .ok (.getfield 17, 3) := by decide +kernel
theorem dX5_takeBack_35 : decode cX5_takeBack 35 = .ok (.aaload, 1) := by decide +kernel
theorem dX5_takeBack_36 : decode cX5_takeBack 36 = .ok (.invokevirtual 25, 3) := by decide +kernel
theorem dX5_takeBack_39 : decode cX5_takeBack 39 = .ok (.return_, 1) := by decide +kernel
abbrev MPast_takeBack : rx_M := (RX5, yX5_takeBack, cX5_takeBack, 2, none, 5)
theorem kPast_takeBack : rKv MPast_takeBack 1 := ⟨tb_in (i := 14) (j := 24) rfl rfl, tb_in (i := 14) (j := 25) rfl rfl, tb_in (i := 12) (j := 29) rfl rfl, tb_in (i := 8) (j := 14) rfl rfl, ⟨by decide, by decide, by decide +kernel⟩, by decide⟩
section
variable {a0 : Nat → Nat} {a1 : Nat → Nat} {g0 : tyPast} {g1 : tyFair} {f0_fairs : Nat → Nat → Nat} {p0_fairs0 : Nat → tyFair}
def mPast_takeBack (g0 : tyPast) (g1 : tyFair) (p0_fairs0 : Nat → tyFair) : Option (tyPast × tyFair) := lt (((g0.1 + (20 : Int32)) - (1 : Int32)) - ((g0.1 + (20 : Int32)) - (1 : Int32)) / (20 : Int32) * (20 : Int32)) (fun y1 => lt (g0.2 - (1 : Int32)) (fun y2 => rq (inb y1 20) (lt (y1.toNatClampNeg) (fun j3 => (mFair_copyFrom g1.1 g1.2.1 g1.2.2.1 g1.2.2.2.1 g1.2.2.2.2.1 g1.2.2.2.2.2.1 g1.2.2.2.2.2.2.1 g1.2.2.2.2.2.2.2.1 g1.2.2.2.2.2.2.2.2.1 g1.2.2.2.2.2.2.2.2.2.1 g1.2.2.2.2.2.2.2.2.2.2.1 g1.2.2.2.2.2.2.2.2.2.2.2.1 g1.2.2.2.2.2.2.2.2.2.2.2.2.1 g1.2.2.2.2.2.2.2.2.2.2.2.2.2.1 g1.2.2.2.2.2.2.2.2.2.2.2.2.2.2.1 g1.2.2.2.2.2.2.2.2.2.2.2.2.2.2.2.1 g1.2.2.2.2.2.2.2.2.2.2.2.2.2.2.2.2.1 g1.2.2.2.2.2.2.2.2.2.2.2.2.2.2.2.2.2.1 g1.2.2.2.2.2.2.2.2.2.2.2.2.2.2.2.2.2.2 ((p0_fairs0 j3).1) ((p0_fairs0 j3).2.1) ((p0_fairs0 j3).2.2.1) ((p0_fairs0 j3).2.2.2.1) ((p0_fairs0 j3).2.2.2.2.1) ((p0_fairs0 j3).2.2.2.2.2.1) ((p0_fairs0 j3).2.2.2.2.2.2.1) ((p0_fairs0 j3).2.2.2.2.2.2.2.1) ((p0_fairs0 j3).2.2.2.2.2.2.2.2.1) ((p0_fairs0 j3).2.2.2.2.2.2.2.2.2.1) ((p0_fairs0 j3).2.2.2.2.2.2.2.2.2.2.1) ((p0_fairs0 j3).2.2.2.2.2.2.2.2.2.2.2.1) ((p0_fairs0 j3).2.2.2.2.2.2.2.2.2.2.2.2.1) ((p0_fairs0 j3).2.2.2.2.2.2.2.2.2.2.2.2.2.1) ((p0_fairs0 j3).2.2.2.2.2.2.2.2.2.2.2.2.2.2.1) ((p0_fairs0 j3).2.2.2.2.2.2.2.2.2.2.2.2.2.2.2.1) ((p0_fairs0 j3).2.2.2.2.2.2.2.2.2.2.2.2.2.2.2.2.1) ((p0_fairs0 j3).2.2.2.2.2.2.2.2.2.2.2.2.2.2.2.2.2.1) ((p0_fairs0 j3).2.2.2.2.2.2.2.2.2.2.2.2.2.2.2.2.2.2)).bind (fun q4 => some ((y1, y2), q4))))))
set_option maxHeartbeats 4000000 in
set_option maxRecDepth 20000 in
theorem cPast_takeBack {q : tyPast × tyFair}  (h : mPast_takeBack g0 g1 p0_fairs0 = some q) : rMet l D Z (ty7 K) MPast_takeBack [.ref (a0 0), .ref (a1 0)] (List.flatten ([bPastG K a0 (fun j => some (f0_fairs j 0)) g0, bFairG K a1 g1] ++ (fam 20 (fun j => bFairG K (f0_fairs j) (p0_fairs0 j)) ++ []))) (List.flatten ([bPastG K a0 (fun j => some (f0_fairs j 0)) q.1, bFairG K a1 q.2] ++ (fam 20 (fun j => bFairG K (f0_fairs j) (p0_fairs0 j)) ++ []))) none := by
  refine rMet.of (by decide) rfl (Nat.le_of_ble_eq_true rfl) ?_
  refine r_sub (lv' := [(0, .ref (a0 0)), (1, .ref (a1 0))]) [0, 1] rfl ?_
  unfold mPast_takeBack at h
  refine r_aload_n 0 dX5_takeBack_0 rfl ?_
  refine r_aload_n 0 dX5_takeBack_1 rfl ?_
  refine gPast_next 0 rfl (tb_in (i := 8) (j := 5) rfl rfl) dX5_takeBack_2 ?_
  refine r_bipush (x := (20 : Int32)) dX5_takeBack_5 (by decide) ?_
  refine r_iadd dX5_takeBack_7 ?_
  refine r_iconst (x := (1 : Int32)) dX5_takeBack_8 (by decide) ?_
  refine r_isub dX5_takeBack_9 ?_
  refine r_bipush (x := (20 : Int32)) dX5_takeBack_10 (by decide) ?_
  refine r_irem dX5_takeBack_12 (by decide) ?_
  obtain ⟨y1, e1, h⟩ := lt_some h
  refine r_top e1 ?_
  refine pPast_next (bs1 := ([bPast K a0 (fun j => some (f0_fairs j 0)) y1 g0.2, bFairG K a1 g1] ++ (fam 20 (fun j => bFairG K (f0_fairs j) (p0_fairs0 j)) ++ []))) 0 rfl rfl (tb_in (i := 8) (j := 5) rfl rfl) dX5_takeBack_13 ?_
  refine r_aload_n 0 dX5_takeBack_16 rfl ?_
  refine r_dup dX5_takeBack_17 rfl ?_
  refine gPast_size 0 rfl (tb_in (i := 8) (j := 6) rfl rfl) dX5_takeBack_18 ?_
  refine r_iconst (x := (1 : Int32)) dX5_takeBack_21 (by decide) ?_
  refine r_isub dX5_takeBack_22 ?_
  obtain ⟨y2, e2, h⟩ := lt_some h
  refine r_top e2 ?_
  refine pPast_size (bs1 := ([bPast K a0 (fun j => some (f0_fairs j 0)) y1 y2, bFairG K a1 g1] ++ (fam 20 (fun j => bFairG K (f0_fairs j) (p0_fairs0 j)) ++ []))) 0 rfl rfl (tb_in (i := 8) (j := 6) rfl rfl) dX5_takeBack_23 ?_
  refine r_aload_n 1 dX5_takeBack_26 rfl ?_
  refine r_aload_n 0 dX5_takeBack_27 rfl ?_
  refine gPast_fairs 0 rfl (tb_in (i := 8) (j := 4) rfl rfl) dX5_takeBack_28 ?_
  refine r_aload_n 0 dX5_takeBack_31 rfl ?_
  refine gPast_next 0 rfl (tb_in (i := 8) (j := 5) rfl rfl) dX5_takeBack_32 ?_
  obtain ⟨h3, h⟩ := rq_some h
  obtain ⟨j3, e3, h⟩ := lt_some h
  have hj3 : j3 < 20 := by rw [e3]; exact inb_lt h3
  refine b_aald 0 1 4 rfl rfl rfl (inb_in h3) dX5_takeBack_35 ?_
  refine r_st (st' := [.ref (f0_fairs j3 0), .ref (a1 0)]) (by rw [e3]; rfl) ?_
  obtain ⟨q4, h4, h⟩ := bd_some h
  refine b_callVN (isC := [1, 2 + j3]) (ci := 1)  (st := []) (bs1 := ([bPast K a0 (fun j => some (f0_fairs j 0)) y1 y2, bFairG K a1 q4] ++ (fam 20 (fun j => bFairG K (f0_fairs j) (p0_fairs0 j)) ++ []))) (cFair_copyFrom (a0 := a1) (a1 := f0_fairs j3) (z0_lasts := g1.1) (z0_keeps := g1.2.1) (z0_stalls := g1.2.2.1) (z0_buyers := g1.2.2.2.1) (z0_minute := g1.2.2.2.2.1) (z0_goods := g1.2.2.2.2.2.1) (z0_price := g1.2.2.2.2.2.2.1) (z0_tongue := g1.2.2.2.2.2.2.2.1) (z0_till := g1.2.2.2.2.2.2.2.2.1) (z0_wealth := g1.2.2.2.2.2.2.2.2.2.1) (z0_sold := g1.2.2.2.2.2.2.2.2.2.2.1) (z0_ring := g1.2.2.2.2.2.2.2.2.2.2.2.1) (z0_grudges := g1.2.2.2.2.2.2.2.2.2.2.2.2.1) (z0_purse := g1.2.2.2.2.2.2.2.2.2.2.2.2.2.1) (z0_came := g1.2.2.2.2.2.2.2.2.2.2.2.2.2.2.1) (z0_had := g1.2.2.2.2.2.2.2.2.2.2.2.2.2.2.2.1) (z0_seller := g1.2.2.2.2.2.2.2.2.2.2.2.2.2.2.2.2.1) (z0_praise := g1.2.2.2.2.2.2.2.2.2.2.2.2.2.2.2.2.2.1) (z0_borne := g1.2.2.2.2.2.2.2.2.2.2.2.2.2.2.2.2.2.2) (z1_lasts := (p0_fairs0 j3).1) (z1_keeps := (p0_fairs0 j3).2.1) (z1_stalls := (p0_fairs0 j3).2.2.1) (z1_buyers := (p0_fairs0 j3).2.2.2.1) (z1_minute := (p0_fairs0 j3).2.2.2.2.1) (z1_goods := (p0_fairs0 j3).2.2.2.2.2.1) (z1_price := (p0_fairs0 j3).2.2.2.2.2.2.1) (z1_tongue := (p0_fairs0 j3).2.2.2.2.2.2.2.1) (z1_till := (p0_fairs0 j3).2.2.2.2.2.2.2.2.1) (z1_wealth := (p0_fairs0 j3).2.2.2.2.2.2.2.2.2.1) (z1_sold := (p0_fairs0 j3).2.2.2.2.2.2.2.2.2.2.1) (z1_ring := (p0_fairs0 j3).2.2.2.2.2.2.2.2.2.2.2.1) (z1_grudges := (p0_fairs0 j3).2.2.2.2.2.2.2.2.2.2.2.2.1) (z1_purse := (p0_fairs0 j3).2.2.2.2.2.2.2.2.2.2.2.2.2.1) (z1_came := (p0_fairs0 j3).2.2.2.2.2.2.2.2.2.2.2.2.2.2.1) (z1_had := (p0_fairs0 j3).2.2.2.2.2.2.2.2.2.2.2.2.2.2.2.1) (z1_seller := (p0_fairs0 j3).2.2.2.2.2.2.2.2.2.2.2.2.2.2.2.2.1) (z1_praise := (p0_fairs0 j3).2.2.2.2.2.2.2.2.2.2.2.2.2.2.2.2.2.1) (z1_borne := (p0_fairs0 j3).2.2.2.2.2.2.2.2.2.2.2.2.2.2.2.2.2.2) h4) rfl rfl (Nat.le_of_ble_eq_true rfl) kFair_copyFrom (List.mem_of_getElem? (i := 45) rfl) (by decide) (by simp only [List.nodup_cons, List.mem_cons, List.not_mem_nil, or_false, not_or, List.nodup_nil, not_false_eq_true, and_true]; omega) (map_s (rfl) (map_s (fq0 (B := fun j g => bFairG K (f0_fairs j) g) (l := [bPast K a0 (fun j => some (f0_fairs j 0)) y1 y2, bFairG K a1 g1]) rfl hj3) map_n)) rfl (stm_s (bs1 := ([bPast K a0 (fun j => some (f0_fairs j 0)) y1 y2, bFairG K a1 q4] ++ (fam 20 (fun j => bFairG K (f0_fairs j) (p0_fairs0 j)) ++ []))) (rfl) (stm_s (bs1 := ([bPast K a0 (fun j => some (f0_fairs j 0)) y1 y2, bFairG K a1 q4] ++ (fam 20 (fun j => bFairG K (f0_fairs j) (p0_fairs0 j)) ++ []))) (set_same _ _ _ (fq0 (B := fun j g => bFairG K (f0_fairs j) g) (l := [bPast K a0 (fun j => some (f0_fairs j 0)) y1 y2, bFairG K a1 q4]) rfl hj3)) stm_n)) rfl rfl rfl rfl dX5_takeBack_36 ?_
  have hq := Option.some.inj h
  subst hq
  exact r_vret rfl dX5_takeBack_39
end
theorem dX9_ruleOf_0 : decode cX9_ruleOf 0 = .ok (.iload_n 1, 1) := by decide +kernel
theorem dX9_ruleOf_1 : decode cX9_ruleOf 1 = .ok (.iconst 0, 1) := by decide +kernel
theorem dX9_ruleOf_2 : decode cX9_ruleOf 2 = .ok (.aload_n 0, 1) := by decide +kernel
theorem dX9_ruleOf_3 : decode cX9_ruleOf 3 = .ok (.arraylength, 1) := by decide +kernel
theorem dX9_ruleOf_4 : decode cX9_ruleOf 4 = .ok (.iconst 1, 1) := by decide +kernel
theorem dX9_ruleOf_5 : decode cX9_ruleOf 5 = .ok (.isub, 1) := by decide +kernel
theorem dX9_ruleOf_6 : decode cX9_ruleOf 6 = .ok (.invokestatic 52, 3) := by decide +kernel
theorem dX9_ruleOf_9 : decode cX9_ruleOf 9 = .ok (.ifCond .eq 9, 3) := by decide +kernel
theorem dX9_ruleOf_12 : decode cX9_ruleOf 12 = .ok (.aload_n 0, 1) := by decide +kernel
theorem dX9_ruleOf_13 : decode cX9_ruleOf 13 = .ok (.iload_n 1, 1) := by decide +kernel
theorem dX9_ruleOf_14 : decode cX9_ruleOf 14 = .ok (.aaload, 1) := by decide +kernel
theorem dX9_ruleOf_15 : decode cX9_ruleOf 15 = .ok (.goto 4, 3) := by decide +kernel
theorem dX9_ruleOf_18 : decode cX9_ruleOf 18 = .ok (.aconst_null, 1) := by decide +kernel
theorem dX9_ruleOf_19 : decode cX9_ruleOf 19 = .ok (.areturn, 1) := by decide +kernel
abbrev MTrials_ruleOf_rules : rx_M := (RX9, yX9_ruleOf, cX9_ruleOf, 2, (some (.object "NextStall$Rule")), 2)
theorem kTrials_ruleOf_rules : rKs MTrials_ruleOf_rules 2 := ⟨tb_in (i := 11) (j := 9) rfl rfl, tb_in (i := 10) (j := 11) rfl rfl, tb_in (i := 11) (j := 7) rfl rfl, ⟨by decide, by decide, by decide +kernel⟩, by decide⟩
section
variable {a0 : Nat → Nat} {g0 : tyNextStall} {f0_rules : Nat → Nat → Nat} {f0_images : Nat → Option Nat} {r0_tape : Nat} {r0_cursor : Nat} {r0_world : Nat} {r0_past : Nat} {r0_trials : Nat} {p0_rules0 : Nat → tyRule}
def mTrials_ruleOf_rules (x1 : Int32) : Option (Option Nat) := (mNextStall_within x1 (0 : Int32) ((6 : Int32) - (1 : Int32))).bind (fun q1 => (if q1 = 0 then some ((none : Option Nat)) else rq (inb x1 6) (lt (x1.toNatClampNeg) (fun j3 => some (some j3)))))
set_option maxHeartbeats 4000000 in
set_option maxRecDepth 20000 in
theorem cTrials_ruleOf_rules {q : Option Nat} {x1 : Int32} (h : mTrials_ruleOf_rules x1 = some q) : rMet l D Z (ty7 K) MTrials_ruleOf_rules [.ref (a0 1), .int x1] (List.flatten ([bNextStallG K a0 (fun j => some (f0_rules j 0)) f0_images r0_tape r0_cursor r0_world r0_past r0_trials g0] ++ (fam 6 (fun j => bRuleG K (f0_rules j) (p0_rules0 j)) ++ []))) (List.flatten ([bNextStallG K a0 (fun j => some (f0_rules j 0)) f0_images r0_tape r0_cursor r0_world r0_past r0_trials g0] ++ (fam 6 (fun j => bRuleG K (f0_rules j) (p0_rules0 j)) ++ []))) (some (va_rf (Option.map (fun j => f0_rules j 0) q))) := by
  refine rMet.of (by decide) rfl (Nat.le_of_ble_eq_true rfl) ?_
  refine r_sub (lv' := [(0, .ref (a0 1)), (1, .int x1)]) [0, 1] rfl ?_
  unfold mTrials_ruleOf_rules at h
  refine r_iload_n 1 dX9_ruleOf_0 rfl ?_
  refine r_iconst (x := (0 : Int32)) dX9_ruleOf_1 (by decide) ?_
  refine r_aload_n 0 dX9_ruleOf_2 rfl ?_
  refine b_alen (n := (6 : Int32)) 0 1 5 rfl rfl rfl rfl dX9_ruleOf_3 ?_
  refine r_iconst (x := (1 : Int32)) dX9_ruleOf_4 (by decide) ?_
  refine r_isub dX9_ruleOf_5 ?_
  obtain ⟨q1, h1, h⟩ := bd_some h
  refine b_callSN (isC := []) (st := []) (bs1 := ([bNextStallG K a0 (fun j => some (f0_rules j 0)) f0_images r0_tape r0_cursor r0_world r0_past r0_trials g0] ++ (fam 6 (fun j => bRuleG K (f0_rules j) (p0_rules0 j)) ++ []))) (cNextStall_within   h1) rfl rfl (Nat.le_of_ble_eq_true rfl) kNextStall_within (List.mem_of_getElem? (i := 61) rfl) (by decide) (by decide) rfl rfl rfl dX9_ruleOf_6 ?_
  refine r_if_eq 18 dX9_ruleOf_9 (by decide) (fun c2 => ?_) (fun c2 => ?_)
  · replace h := it_pos c2 h
    refine r_null dX9_ruleOf_18 ?_
    have hq := Option.some.inj h
    subst hq
    exact r_aret rfl (Or.inl ⟨_, rfl⟩) (Or.inl rfl) dX9_ruleOf_19
  · replace h := it_neg c2 h
    refine r_aload_n 0 dX9_ruleOf_12 rfl ?_
    refine r_iload_n 1 dX9_ruleOf_13 rfl ?_
    obtain ⟨h3, h⟩ := rq_some h
    obtain ⟨j3, e3, h⟩ := lt_some h
    have hj3 : j3 < 6 := by rw [e3]; exact inb_lt h3
    refine b_aald 0 1 5 rfl rfl rfl (inb_in h3) dX9_ruleOf_14 ?_
    refine r_st (st' := [.ref (f0_rules j3 0)]) (by rw [e3]; rfl) ?_
    refine r_goto 19 dX9_ruleOf_15 (by decide) ?_
    have hq := Option.some.inj h
    subst hq
    exact r_aret rfl (Or.inl ⟨_, rfl⟩) (Or.inr ⟨_, rfl⟩) dX9_ruleOf_19
end
theorem dX9_findRuled_0 : decode cX9_findRuled 0 = .ok (.aload_n 0, 1) := by decide +kernel
theorem dX9_findRuled_1 : decode cX9_findRuled 1 = .ok (.iconst 0, 1) := by decide +kernel
theorem dX9_findRuled_2 : decode cX9_findRuled 2 = .ok (.bipush (-2), 2) := by decide +kernel
theorem dX9_findRuled_4 : decode cX9_findRuled 4 = .ok (.iconst 0, 1) := by decide +kernel
theorem dX9_findRuled_5 : decode cX9_findRuled 5 = .ok (.invokevirtual 92, 3) := by decide +kernel
theorem dX9_findRuled_8 : decode cX9_findRuled 8 = .ok (.iconst (-1), 1) := by decide +kernel
theorem dX9_findRuled_9 : decode cX9_findRuled 9 = .ok (.istore 4, 2) := by decide +kernel
theorem dX9_findRuled_11 : decode cX9_findRuled 11 = .ok (.iload 4, 2) := by decide +kernel
theorem dX9_findRuled_13 : decode cX9_findRuled 13 = .ok (.iload_n 3, 1) := by decide +kernel
theorem dX9_findRuled_14 : decode cX9_findRuled 14 = .ok (.if_icmp .ge 63, 3) := by decide +kernel
theorem dX9_findRuled_17 : decode cX9_findRuled 17 = .ok (.aload_n 1, 1) := by decide +kernel
theorem dX9_findRuled_18 : decode cX9_findRuled 18 = .ok (.getfield 132, 3) := by decide +kernel
theorem dX9_findRuled_21 : decode cX9_findRuled 21 = .ok (.aload_n 0, 1) := by decide +kernel
theorem dX9_findRuled_22 : decode cX9_findRuled 22 = .ok (.aload_n 1, 1) := by decide +kernel
theorem dX9_findRuled_23 : decode cX9_findRuled 23 = .ok (.getfield 138, 3) := by decide +kernel
theorem dX9_findRuled_26 : decode cX9_findRuled 26 = .ok (.invokevirtual 66, 3) := by decide +kernel
theorem dX9_findRuled_29 : decode cX9_findRuled 29 = .ok (.aload_n 2, 1) := by decide +kernel
theorem dX9_findRuled_30 : decode cX9_findRuled 30 = .ok (.iload 4, 2) := by decide +kernel
theorem dX9_findRuled_32 : decode cX9_findRuled 32 = .ok (.invokestatic 141, 3) := by decide +kernel
theorem dX9_findRuled_35 : decode cX9_findRuled 35 = .ok (.invokevirtual 145, 3) := by decide +kernel
theorem dX9_findRuled_38 : decode cX9_findRuled 38 = .ok (.ifCond .ne 6, 3) := by decide +kernel
theorem dX9_findRuled_41 : decode cX9_findRuled 41 = .ok (.goto 30, 3) := by decide +kernel
theorem dX9_findRuled_44 : decode cX9_findRuled 44 = .ok (.aload_n 0, 1) := by decide +kernel
theorem dX9_findRuled_45 : decode cX9_findRuled 45 = .ok (.getfield 28, 3) := by decide +kernel
theorem dX9_findRuled_48 : decode cX9_findRuled 48 = .ok (.iconst 0, 1) := by decide +kernel
theorem dX9_findRuled_49 : decode cX9_findRuled 49 = .ok (.iaload, 1) := by decide +kernel
theorem dX9_findRuled_50 : decode cX9_findRuled 50 = .ok (.ifCond .ne 11, 3) := by decide +kernel
theorem dX9_findRuled_53 : decode cX9_findRuled 53 = .ok (.aload_n 0, 1) := by decide +kernel
theorem dX9_findRuled_54 : decode cX9_findRuled 54 = .ok (.getfield 28, 3) := by decide +kernel
theorem dX9_findRuled_57 : decode cX9_findRuled 57 = .ok (.iconst 1, 1) := by decide +kernel
theorem dX9_findRuled_58 : decode cX9_findRuled 58 = .ok (.iload 4, 2) := by decide +kernel
theorem dX9_findRuled_60 : decode cX9_findRuled 60 = .ok (.iastore, 1) := by decide +kernel
theorem dX9_findRuled_61 : decode cX9_findRuled 61 = .ok (.aload_n 0, 1) := by decide +kernel
theorem dX9_findRuled_62 : decode cX9_findRuled 62 = .ok (.getfield 28, 3) := by decide +kernel
theorem dX9_findRuled_65 : decode cX9_findRuled 65 = .ok (.iconst 0, 1) := by decide +kernel
theorem dX9_findRuled_66 : decode cX9_findRuled 66 = .ok (.dup2, 1) := by decide +kernel
theorem dX9_findRuled_67 : decode cX9_findRuled 67 = .ok (.iaload, 1) := by decide +kernel
theorem dX9_findRuled_68 : decode cX9_findRuled 68 = .ok (.iconst 1, 1) := by decide +kernel
theorem dX9_findRuled_69 : decode cX9_findRuled 69 = .ok (.iadd, 1) := by decide +kernel
theorem dX9_findRuled_70 : decode cX9_findRuled 70 = .ok (.iastore, 1) := by decide +kernel
theorem dX9_findRuled_71 : decode cX9_findRuled 71 = .ok (.iinc 4 1, 3) := by decide +kernel
theorem dX9_findRuled_74 : decode cX9_findRuled 74 = .ok (.goto (-63), 3) := by decide +kernel
theorem dX9_findRuled_77 : decode cX9_findRuled 77 = .ok (.return_, 1) := by decide +kernel
abbrev MTrials_findRuledr_rules : rx_M := (RX9, yX9_findRuled, cX9_findRuled, 5, none, 7)
theorem kTrials_findRuledr_rules : rKv MTrials_findRuledr_rules 3 := ⟨tb_in (i := 16) (j := 1) rfl rfl, tb_in (i := 16) (j := 2) rfl rfl, tb_in (i := 10) (j := 11) rfl rfl, tb_in (i := 11) (j := 12) rfl rfl, ⟨by decide, by decide, by decide +kernel⟩, by decide⟩
section
variable {a0 : Nat → Nat → Nat} {a1 : Nat → Nat → Nat} {a2 : Nat → Nat} {g0 : tyTrials} {g1 : tyFair} {g2 : tyOrder} {g3 : tyOrder} {g4 : tyWorld} {g5 : tyFair} {g6 : tyFair} {g7 : tyNotes} {g8 : tyNextStall} {f8_rules : Nat → Nat → Nat} {f8_images : Nat → Option Nat} {r8_tape : Nat} {r8_cursor : Nat} {r8_world : Nat} {r8_past : Nat} {r8_trials : Nat} {p8_rules0 : Nat → tyRule}
def mTrials_findRuledr_rules_l11 (g5 : tyFair) (g7 : tyNotes) (x3 : Int32) : Nat → Int32 → tyTrials → tyFair → (Nat → tyRule) → Option (tyTrials × tyFair × (Nat → tyRule))
  | 0, _, _, _, _ => none
  | n + 1, x4, g0, g1, p8_rules0 => (if x3 ≤ x4 then some (g0, g1, p8_rules0) else (mTrials_from g1 g5).bind (fun q3 => (mTrials_ruleOf_rules x4).bind (fun q4 => mt q4 ((mNotes_fitrn g7 q3).bind (fun q5 => (if q5.1 = 0 then mTrials_findRuledr_rules_l11 g5 g7 x3 n (x4 + (1 : Int32)) g0 q5.2 p8_rules0 else rq (inb (0 : Int32) 3) ((if (g0.1 (0 : Int32).toNatClampNeg) = 0 then rq (inb (1 : Int32) 3) (lt (upd g0.1 (1 : Int32).toNatClampNeg x4) (fun u11 => rq (inb (0 : Int32) 3) (rq (inb (0 : Int32) 3) (lt (upd u11 (0 : Int32).toNatClampNeg ((u11 (0 : Int32).toNatClampNeg) + (1 : Int32))) (fun u13 => mTrials_findRuledr_rules_l11 g5 g7 x3 n (x4 + (1 : Int32)) (u13, g0.2.1, g0.2.2.1, g0.2.2.2.1, g0.2.2.2.2) q5.2 p8_rules0))))) else rq (inb (0 : Int32) 3) (rq (inb (0 : Int32) 3) (lt (upd g0.1 (0 : Int32).toNatClampNeg ((g0.1 (0 : Int32).toNatClampNeg) + (1 : Int32))) (fun u10 => mTrials_findRuledr_rules_l11 g5 g7 x3 n (x4 + (1 : Int32)) (u10, g0.2.1, g0.2.2.1, g0.2.2.2.1, g0.2.2.2.2) q5.2 p8_rules0)))))))) (fun j4 => rq (decide (j4 < 6)) ((mNotes_fitrr g7 q3 (p8_rules0 j4)).bind (fun q14 => (if q14.1 = 0 then mTrials_findRuledr_rules_l11 g5 g7 x3 n (x4 + (1 : Int32)) g0 q14.2.1 (va_up p8_rules0 j4 q14.2.2) else rq (inb (0 : Int32) 3) ((if (g0.1 (0 : Int32).toNatClampNeg) = 0 then rq (inb (1 : Int32) 3) (lt (upd g0.1 (1 : Int32).toNatClampNeg x4) (fun u20 => rq (inb (0 : Int32) 3) (rq (inb (0 : Int32) 3) (lt (upd u20 (0 : Int32).toNatClampNeg ((u20 (0 : Int32).toNatClampNeg) + (1 : Int32))) (fun u22 => mTrials_findRuledr_rules_l11 g5 g7 x3 n (x4 + (1 : Int32)) (u22, g0.2.1, g0.2.2.1, g0.2.2.2.1, g0.2.2.2.2) q14.2.1 (va_up p8_rules0 j4 q14.2.2)))))) else rq (inb (0 : Int32) 3) (rq (inb (0 : Int32) 3) (lt (upd g0.1 (0 : Int32).toNatClampNeg ((g0.1 (0 : Int32).toNatClampNeg) + (1 : Int32))) (fun u19 => mTrials_findRuledr_rules_l11 g5 g7 x3 n (x4 + (1 : Int32)) (u19, g0.2.1, g0.2.2.1, g0.2.2.2.1, g0.2.2.2.2) q14.2.1 (va_up p8_rules0 j4 q14.2.2)))))))))))))
set_option maxHeartbeats 4000000 in
set_option maxRecDepth 20000 in
theorem cTrials_findRuledr_rules_l11 {q : tyTrials × tyFair × (Nat → tyRule)} {x3 : Int32}  : ∀ (n : Nat) (x4 : Int32) (g0 : tyTrials) (g1 : tyFair) (p8_rules0 : Nat → tyRule), mTrials_findRuledr_rules_l11 g5 g7 x3 n x4 g0 g1 p8_rules0 = some q → rW l D Z (ty7 K) MTrials_findRuledr_rules 11 [(0, .ref ((a0 0) 0)), (1, .ref ((a1 0) 0)), (2, .ref (a2 1)), (3, .int x3), (4, .int x4)] [] (List.flatten ([bTrialsG K (a0 0) ((a0 1) 0) ((a0 2) 0) ((a0 3) 0) g0, bFairG K (a0 1) g1, bOrderG K (a0 2) g2, bOrderG K (a0 3) g3, bWorldG K (a1 0) ((a1 1) 0) ((a1 2) 0) ((a1 3) 0) g4, bFairG K (a1 1) g5, bFairG K (a1 2) g6, bNotesG K (a1 3) g7, bNextStallG K a2 (fun j => some (f8_rules j 0)) f8_images r8_tape r8_cursor r8_world r8_past r8_trials g8] ++ (fam 6 (fun j => bRuleG K (f8_rules j) (p8_rules0 j)) ++ []))) (List.flatten ([bTrialsG K (a0 0) ((a0 1) 0) ((a0 2) 0) ((a0 3) 0) q.1, bFairG K (a0 1) q.2.1, bOrderG K (a0 2) g2, bOrderG K (a0 3) g3, bWorldG K (a1 0) ((a1 1) 0) ((a1 2) 0) ((a1 3) 0) g4, bFairG K (a1 1) g5, bFairG K (a1 2) g6, bNotesG K (a1 3) g7, bNextStallG K a2 (fun j => some (f8_rules j 0)) f8_images r8_tape r8_cursor r8_world r8_past r8_trials g8] ++ (fam 6 (fun j => bRuleG K (f8_rules j) (q.2.2 j)) ++ []))) none := by
  intro n
  induction n with
  | zero => intro x4 g0 g1 p8_rules0 h; unfold mTrials_findRuledr_rules_l11 at h; cases h
  | succ n ih =>
    intro x4 g0 g1 p8_rules0 h
    unfold mTrials_findRuledr_rules_l11 at h
    refine r_iload 4 dX9_findRuled_11 rfl ?_
    refine r_iload_n 3 dX9_findRuled_13 rfl ?_
    refine r_icmp_ge 77 dX9_findRuled_14 (by decide) (fun c2 => ?_) (fun c2 => ?_)
    · replace h := it_pos c2 h
      have hq := Option.some.inj h
      subst hq
      exact r_vret rfl dX9_findRuled_77
    · replace h := it_neg c2 h
      refine r_aload_n 1 dX9_findRuled_17 rfl ?_
      refine gWorld_notesN 4 rfl (List.mem_of_getElem? (i := 57) rfl) dX9_findRuled_18 ?_
      refine r_aload_n 0 dX9_findRuled_21 rfl ?_
      refine r_aload_n 1 dX9_findRuled_22 rfl ?_
      refine gWorld_toldN 4 rfl (List.mem_of_getElem? (i := 54) rfl) dX9_findRuled_23 ?_
      obtain ⟨q3, h3, h⟩ := bd_some h
      refine b_callV (isC := [0, 1, 2, 3, 5]) (ci := 7)  (st := [.ref ((a1 3) 0)]) (bs1 := ([bTrialsG K (a0 0) ((a0 1) 0) ((a0 2) 0) ((a0 3) 0) g0, bFairG K (a0 1) q3, bOrderG K (a0 2) g2, bOrderG K (a0 3) g3, bWorldG K (a1 0) ((a1 1) 0) ((a1 2) 0) ((a1 3) 0) g4, bFairG K (a1 1) g5, bFairG K (a1 2) g6, bNotesG K (a1 3) g7, bNextStallG K a2 (fun j => some (f8_rules j 0)) f8_images r8_tape r8_cursor r8_world r8_past r8_trials g8] ++ (fam 6 (fun j => bRuleG K (f8_rules j) (p8_rules0 j)) ++ []))) (cTrials_from (a0 := a0) (a1 := (a1 1)) (g0 := g0) (g1 := g1) (g2 := g2) (g3 := g3) (g4 := g5) h3) rfl rfl (Nat.le_of_ble_eq_true rfl) kTrials_from (tb_in (i := 10) (j := 8) rfl rfl) (by decide) (by decide) rfl rfl rfl rfl rfl rfl rfl dX9_findRuled_26 ?_
      refine r_aload_n 2 dX9_findRuled_29 rfl ?_
      refine r_iload 4 dX9_findRuled_30 rfl ?_
      obtain ⟨q4, h4, h⟩ := bd_some h
      refine b_callS (isC := ([8] ++ (List.range' 9 6 ++ []))) (st := [.ref ((a0 1) 0), .ref ((a1 3) 0)]) (bs1 := ([bTrialsG K (a0 0) ((a0 1) 0) ((a0 2) 0) ((a0 3) 0) g0, bFairG K (a0 1) q3, bOrderG K (a0 2) g2, bOrderG K (a0 3) g3, bWorldG K (a1 0) ((a1 1) 0) ((a1 2) 0) ((a1 3) 0) g4, bFairG K (a1 1) g5, bFairG K (a1 2) g6, bNotesG K (a1 3) g7, bNextStallG K a2 (fun j => some (f8_rules j 0)) f8_images r8_tape r8_cursor r8_world r8_past r8_trials g8] ++ (fam 6 (fun j => bRuleG K (f8_rules j) (p8_rules0 j)) ++ []))) (cTrials_ruleOf_rules (a0 := a2) (f0_rules := f8_rules) (g0 := g8) (p0_rules0 := p8_rules0) h4) rfl rfl (Nat.le_of_ble_eq_true rfl) kTrials_ruleOf_rules (tb_in (i := 11) (j := 8) rfl rfl) (by decide) (by decide +kernel) (map_app rfl (map_app (map_f0 (n := 6) (l := [bTrialsG K (a0 0) ((a0 1) 0) ((a0 2) 0) ((a0 3) 0) g0, bFairG K (a0 1) q3, bOrderG K (a0 2) g2, bOrderG K (a0 3) g3, bWorldG K (a1 0) ((a1 1) 0) ((a1 2) 0) ((a1 3) 0) g4, bFairG K (a1 1) g5, bFairG K (a1 2) g6, bNotesG K (a1 3) g7, bNextStallG K a2 (fun j => some (f8_rules j 0)) f8_images r8_tape r8_cursor r8_world r8_past r8_trials g8]) rfl) rfl)) (by simp only [List.length_append, fam_len, List.length_range', List.length_cons, List.length_nil]) (stm_a (bs1 := ([bTrialsG K (a0 0) ((a0 1) 0) ((a0 2) 0) ((a0 3) 0) g0, bFairG K (a0 1) q3, bOrderG K (a0 2) g2, bOrderG K (a0 3) g3, bWorldG K (a1 0) ((a1 1) 0) ((a1 2) 0) ((a1 3) 0) g4, bFairG K (a1 1) g5, bFairG K (a1 2) g6, bNotesG K (a1 3) g7, bNextStallG K a2 (fun j => some (f8_rules j 0)) f8_images r8_tape r8_cursor r8_world r8_past r8_trials g8] ++ (fam 6 (fun j => bRuleG K (f8_rules j) (p8_rules0 j)) ++ []))) rfl rfl (stm_a (bs1 := ([bTrialsG K (a0 0) ((a0 1) 0) ((a0 2) 0) ((a0 3) 0) g0, bFairG K (a0 1) q3, bOrderG K (a0 2) g2, bOrderG K (a0 3) g3, bWorldG K (a1 0) ((a1 1) 0) ((a1 2) 0) ((a1 3) 0) g4, bFairG K (a1 1) g5, bFairG K (a1 2) g6, bNotesG K (a1 3) g7, bNextStallG K a2 (fun j => some (f8_rules j 0)) f8_images r8_tape r8_cursor r8_world r8_past r8_trials g8] ++ (fam 6 (fun j => bRuleG K (f8_rules j) (p8_rules0 j)) ++ []))) (by rw [List.length_range', fam_len]) (stm_f0 (n := 6) (l := [bTrialsG K (a0 0) ((a0 1) 0) ((a0 2) 0) ((a0 3) 0) g0, bFairG K (a0 1) q3, bOrderG K (a0 2) g2, bOrderG K (a0 3) g3, bWorldG K (a1 0) ((a1 1) 0) ((a1 2) 0) ((a1 3) 0) g4, bFairG K (a1 1) g5, bFairG K (a1 2) g6, bNotesG K (a1 3) g7, bNextStallG K a2 (fun j => some (f8_rules j 0)) f8_images r8_tape r8_cursor r8_world r8_past r8_trials g8]) rfl) rfl)) dX9_findRuled_32 ?_
      cases q4 with
      | none =>
        replace h := mt_n h
        refine r_st (st' := [.null, .ref ((a0 1) 0), .ref ((a1 3) 0)]) rfl ?_
        obtain ⟨q5, h5, h⟩ := bd_some h
        refine b_callVN (isC := [7, 1]) (ci := 2)  (st := []) (bs1 := ([bTrialsG K (a0 0) ((a0 1) 0) ((a0 2) 0) ((a0 3) 0) g0, bFairG K (a0 1) q5.2, bOrderG K (a0 2) g2, bOrderG K (a0 3) g3, bWorldG K (a1 0) ((a1 1) 0) ((a1 2) 0) ((a1 3) 0) g4, bFairG K (a1 1) g5, bFairG K (a1 2) g6, bNotesG K (a1 3) g7, bNextStallG K a2 (fun j => some (f8_rules j 0)) f8_images r8_tape r8_cursor r8_world r8_past r8_trials g8] ++ (fam 6 (fun j => bRuleG K (f8_rules j) (p8_rules0 j)) ++ []))) (cNotes_fitrn (a0 := (a1 3)) (a1 := (a0 1)) (g0 := g7) (g1 := q3) h5) rfl rfl (Nat.le_of_ble_eq_true rfl) kNotes_fitrn (List.mem_of_getElem? (i := 76) rfl) (by decide) (by decide) rfl rfl rfl rfl rfl rfl rfl dX9_findRuled_35 ?_
        refine r_if_ne 44 dX9_findRuled_38 (by decide) (fun c6 => ?_) (fun c6 => ?_)
        · replace h := it_neg c6 h
          refine r_aload_n 0 dX9_findRuled_44 rfl ?_
          refine gTrials_found 0 rfl (tb_in (i := 9) (j := 28) rfl rfl) dX9_findRuled_45 ?_
          refine r_iconst (x := (0 : Int32)) dX9_findRuled_48 (by decide) ?_
          obtain ⟨h7, h⟩ := rq_some h
          refine lTrials_found 0 rfl (inb_in h7) dX9_findRuled_49 ?_
          refine r_if_ne 61 dX9_findRuled_50 (by decide) (fun c8 => ?_) (fun c8 => ?_)
          · replace h := it_neg c8 h
            refine r_aload_n 0 dX9_findRuled_61 rfl ?_
            refine gTrials_found 0 rfl (tb_in (i := 9) (j := 28) rfl rfl) dX9_findRuled_62 ?_
            refine r_iconst (x := (0 : Int32)) dX9_findRuled_65 (by decide) ?_
            refine r_dup2 dX9_findRuled_66 rfl rfl ?_
            obtain ⟨h9, h⟩ := rq_some h
            refine lTrials_found 0 rfl (inb_in h9) dX9_findRuled_67 ?_
            refine r_iconst (x := (1 : Int32)) dX9_findRuled_68 (by decide) ?_
            refine r_iadd dX9_findRuled_69 ?_
            obtain ⟨h10, h⟩ := rq_some h
            obtain ⟨u10, e10, h⟩ := lt_some h
            refine sTrials_found (bs1 := ([bTrials K (a0 0) ((a0 1) 0) ((a0 2) 0) ((a0 3) 0) u10 g0.2.1 g0.2.2.1 g0.2.2.2.1 g0.2.2.2.2, bFairG K (a0 1) q5.2, bOrderG K (a0 2) g2, bOrderG K (a0 3) g3, bWorldG K (a1 0) ((a1 1) 0) ((a1 2) 0) ((a1 3) 0) g4, bFairG K (a1 1) g5, bFairG K (a1 2) g6, bNotesG K (a1 3) g7, bNextStallG K a2 (fun j => some (f8_rules j 0)) f8_images r8_tape r8_cursor r8_world r8_past r8_trials g8] ++ (fam 6 (fun j => bRuleG K (f8_rules j) (p8_rules0 j)) ++ []))) 0 e10 rfl (inb_in h10) rfl dX9_findRuled_70 ?_
            refine r_iinc (y := (x4 + (1 : Int32))) (lv' := [(4, .int (x4 + (1 : Int32))), (0, .ref ((a0 0) 0)), (1, .ref ((a1 0) 0)), (2, .ref (a2 1)), (3, .int x3)]) 4 dX9_findRuled_71 rfl rfl (Nat.le_of_ble_eq_true rfl) rfl ?_
            refine r_goto 11 dX9_findRuled_74 (by decide) ?_
            refine r_sub (lv' := [(0, .ref ((a0 0) 0)), (1, .ref ((a1 0) 0)), (2, .ref (a2 1)), (3, .int x3), (4, .int (x4 + (1 : Int32)))]) [1, 2, 3, 4, 0] rfl ?_
            exact ih (x4 + (1 : Int32)) (u10, g0.2.1, g0.2.2.1, g0.2.2.2.1, g0.2.2.2.2) q5.2 p8_rules0 h
          · replace h := it_pos c8 h
            refine r_aload_n 0 dX9_findRuled_53 rfl ?_
            refine gTrials_found 0 rfl (tb_in (i := 9) (j := 28) rfl rfl) dX9_findRuled_54 ?_
            refine r_iconst (x := (1 : Int32)) dX9_findRuled_57 (by decide) ?_
            refine r_iload 4 dX9_findRuled_58 rfl ?_
            obtain ⟨h11, h⟩ := rq_some h
            obtain ⟨u11, e11, h⟩ := lt_some h
            refine sTrials_found (bs1 := ([bTrials K (a0 0) ((a0 1) 0) ((a0 2) 0) ((a0 3) 0) u11 g0.2.1 g0.2.2.1 g0.2.2.2.1 g0.2.2.2.2, bFairG K (a0 1) q5.2, bOrderG K (a0 2) g2, bOrderG K (a0 3) g3, bWorldG K (a1 0) ((a1 1) 0) ((a1 2) 0) ((a1 3) 0) g4, bFairG K (a1 1) g5, bFairG K (a1 2) g6, bNotesG K (a1 3) g7, bNextStallG K a2 (fun j => some (f8_rules j 0)) f8_images r8_tape r8_cursor r8_world r8_past r8_trials g8] ++ (fam 6 (fun j => bRuleG K (f8_rules j) (p8_rules0 j)) ++ []))) 0 e11 rfl (inb_in h11) rfl dX9_findRuled_60 ?_
            refine r_aload_n 0 dX9_findRuled_61 rfl ?_
            refine gTrials_found 0 rfl (tb_in (i := 9) (j := 28) rfl rfl) dX9_findRuled_62 ?_
            refine r_iconst (x := (0 : Int32)) dX9_findRuled_65 (by decide) ?_
            refine r_dup2 dX9_findRuled_66 rfl rfl ?_
            obtain ⟨h12, h⟩ := rq_some h
            refine lTrials_found 0 rfl (inb_in h12) dX9_findRuled_67 ?_
            refine r_iconst (x := (1 : Int32)) dX9_findRuled_68 (by decide) ?_
            refine r_iadd dX9_findRuled_69 ?_
            obtain ⟨h13, h⟩ := rq_some h
            obtain ⟨u13, e13, h⟩ := lt_some h
            refine sTrials_found (bs1 := ([bTrials K (a0 0) ((a0 1) 0) ((a0 2) 0) ((a0 3) 0) u13 g0.2.1 g0.2.2.1 g0.2.2.2.1 g0.2.2.2.2, bFairG K (a0 1) q5.2, bOrderG K (a0 2) g2, bOrderG K (a0 3) g3, bWorldG K (a1 0) ((a1 1) 0) ((a1 2) 0) ((a1 3) 0) g4, bFairG K (a1 1) g5, bFairG K (a1 2) g6, bNotesG K (a1 3) g7, bNextStallG K a2 (fun j => some (f8_rules j 0)) f8_images r8_tape r8_cursor r8_world r8_past r8_trials g8] ++ (fam 6 (fun j => bRuleG K (f8_rules j) (p8_rules0 j)) ++ []))) 0 e13 rfl (inb_in h13) rfl dX9_findRuled_70 ?_
            refine r_iinc (y := (x4 + (1 : Int32))) (lv' := [(4, .int (x4 + (1 : Int32))), (0, .ref ((a0 0) 0)), (1, .ref ((a1 0) 0)), (2, .ref (a2 1)), (3, .int x3)]) 4 dX9_findRuled_71 rfl rfl (Nat.le_of_ble_eq_true rfl) rfl ?_
            refine r_goto 11 dX9_findRuled_74 (by decide) ?_
            refine r_sub (lv' := [(0, .ref ((a0 0) 0)), (1, .ref ((a1 0) 0)), (2, .ref (a2 1)), (3, .int x3), (4, .int (x4 + (1 : Int32)))]) [1, 2, 3, 4, 0] rfl ?_
            exact ih (x4 + (1 : Int32)) (u13, g0.2.1, g0.2.2.1, g0.2.2.2.1, g0.2.2.2.2) q5.2 p8_rules0 h
        · replace h := it_pos c6 h
          refine r_goto 71 dX9_findRuled_41 (by decide) ?_
          refine r_iinc (y := (x4 + (1 : Int32))) (lv' := [(4, .int (x4 + (1 : Int32))), (0, .ref ((a0 0) 0)), (1, .ref ((a1 0) 0)), (2, .ref (a2 1)), (3, .int x3)]) 4 dX9_findRuled_71 rfl rfl (Nat.le_of_ble_eq_true rfl) rfl ?_
          refine r_goto 11 dX9_findRuled_74 (by decide) ?_
          refine r_sub (lv' := [(0, .ref ((a0 0) 0)), (1, .ref ((a1 0) 0)), (2, .ref (a2 1)), (3, .int x3), (4, .int (x4 + (1 : Int32)))]) [1, 2, 3, 4, 0] rfl ?_
          exact ih (x4 + (1 : Int32)) g0 q5.2 p8_rules0 h
      | some j4 =>
        replace h := mt_s h
        obtain ⟨hg4, h⟩ := rq_some h
        have hj4 := of_decide_eq_true hg4
        refine r_st (st' := [.ref (f8_rules j4 0), .ref ((a0 1) 0), .ref ((a1 3) 0)]) rfl ?_
        obtain ⟨q14, h14, h⟩ := bd_some h
        refine b_callVN (isC := [7, 1, 9 + j4]) (ci := 2)  (st := []) (bs1 := ([bTrialsG K (a0 0) ((a0 1) 0) ((a0 2) 0) ((a0 3) 0) g0, bFairG K (a0 1) q14.2.1, bOrderG K (a0 2) g2, bOrderG K (a0 3) g3, bWorldG K (a1 0) ((a1 1) 0) ((a1 2) 0) ((a1 3) 0) g4, bFairG K (a1 1) g5, bFairG K (a1 2) g6, bNotesG K (a1 3) g7, bNextStallG K a2 (fun j => some (f8_rules j 0)) f8_images r8_tape r8_cursor r8_world r8_past r8_trials g8] ++ (fam 6 (fun j => bRuleG K (f8_rules j) ((va_up p8_rules0 j4 q14.2.2) j)) ++ []))) (cNotes_fitrr (a0 := (a1 3)) (a1 := (a0 1)) (a2 := f8_rules j4) (g0 := g7) (g1 := q3) (g2 := (p8_rules0 j4)) h14) rfl rfl (Nat.le_of_ble_eq_true rfl) kNotes_fitrr (List.mem_of_getElem? (i := 76) rfl) (by decide) (by simp only [List.nodup_cons, List.mem_cons, List.not_mem_nil, or_false, not_or, List.nodup_nil, not_false_eq_true, and_true]; omega) (map_s (rfl) (map_s (rfl) (map_s (fq0 (B := fun j g => bRuleG K (f8_rules j) g) (l := [bTrialsG K (a0 0) ((a0 1) 0) ((a0 2) 0) ((a0 3) 0) g0, bFairG K (a0 1) q3, bOrderG K (a0 2) g2, bOrderG K (a0 3) g3, bWorldG K (a1 0) ((a1 1) 0) ((a1 2) 0) ((a1 3) 0) g4, bFairG K (a1 1) g5, bFairG K (a1 2) g6, bNotesG K (a1 3) g7, bNextStallG K a2 (fun j => some (f8_rules j 0)) f8_images r8_tape r8_cursor r8_world r8_past r8_trials g8]) rfl hj4) map_n))) rfl (stm_s (bs1 := ([bTrialsG K (a0 0) ((a0 1) 0) ((a0 2) 0) ((a0 3) 0) g0, bFairG K (a0 1) q3, bOrderG K (a0 2) g2, bOrderG K (a0 3) g3, bWorldG K (a1 0) ((a1 1) 0) ((a1 2) 0) ((a1 3) 0) g4, bFairG K (a1 1) g5, bFairG K (a1 2) g6, bNotesG K (a1 3) g7, bNextStallG K a2 (fun j => some (f8_rules j 0)) f8_images r8_tape r8_cursor r8_world r8_past r8_trials g8] ++ (fam 6 (fun j => bRuleG K (f8_rules j) (p8_rules0 j)) ++ []))) (rfl) (stm_s (bs1 := ([bTrialsG K (a0 0) ((a0 1) 0) ((a0 2) 0) ((a0 3) 0) g0, bFairG K (a0 1) q14.2.1, bOrderG K (a0 2) g2, bOrderG K (a0 3) g3, bWorldG K (a1 0) ((a1 1) 0) ((a1 2) 0) ((a1 3) 0) g4, bFairG K (a1 1) g5, bFairG K (a1 2) g6, bNotesG K (a1 3) g7, bNextStallG K a2 (fun j => some (f8_rules j 0)) f8_images r8_tape r8_cursor r8_world r8_past r8_trials g8] ++ (fam 6 (fun j => bRuleG K (f8_rules j) (p8_rules0 j)) ++ []))) (rfl) (stm_s (bs1 := ([bTrialsG K (a0 0) ((a0 1) 0) ((a0 2) 0) ((a0 3) 0) g0, bFairG K (a0 1) q14.2.1, bOrderG K (a0 2) g2, bOrderG K (a0 3) g3, bWorldG K (a1 0) ((a1 1) 0) ((a1 2) 0) ((a1 3) 0) g4, bFairG K (a1 1) g5, bFairG K (a1 2) g6, bNotesG K (a1 3) g7, bNextStallG K a2 (fun j => some (f8_rules j 0)) f8_images r8_tape r8_cursor r8_world r8_past r8_trials g8] ++ (fam 6 (fun j => bRuleG K (f8_rules j) ((va_up p8_rules0 j4 q14.2.2) j)) ++ []))) (fs0 (B := fun j g => bRuleG K (f8_rules j) g) (g := q14.2.2) (l := [bTrialsG K (a0 0) ((a0 1) 0) ((a0 2) 0) ((a0 3) 0) g0, bFairG K (a0 1) q14.2.1, bOrderG K (a0 2) g2, bOrderG K (a0 3) g3, bWorldG K (a1 0) ((a1 1) 0) ((a1 2) 0) ((a1 3) 0) g4, bFairG K (a1 1) g5, bFairG K (a1 2) g6, bNotesG K (a1 3) g7, bNextStallG K a2 (fun j => some (f8_rules j 0)) f8_images r8_tape r8_cursor r8_world r8_past r8_trials g8]) rfl hj4) stm_n))) rfl rfl rfl rfl dX9_findRuled_35 ?_
        refine r_if_ne 44 dX9_findRuled_38 (by decide) (fun c15 => ?_) (fun c15 => ?_)
        · replace h := it_neg c15 h
          refine r_aload_n 0 dX9_findRuled_44 rfl ?_
          refine gTrials_found 0 rfl (tb_in (i := 9) (j := 28) rfl rfl) dX9_findRuled_45 ?_
          refine r_iconst (x := (0 : Int32)) dX9_findRuled_48 (by decide) ?_
          obtain ⟨h16, h⟩ := rq_some h
          refine lTrials_found 0 rfl (inb_in h16) dX9_findRuled_49 ?_
          refine r_if_ne 61 dX9_findRuled_50 (by decide) (fun c17 => ?_) (fun c17 => ?_)
          · replace h := it_neg c17 h
            refine r_aload_n 0 dX9_findRuled_61 rfl ?_
            refine gTrials_found 0 rfl (tb_in (i := 9) (j := 28) rfl rfl) dX9_findRuled_62 ?_
            refine r_iconst (x := (0 : Int32)) dX9_findRuled_65 (by decide) ?_
            refine r_dup2 dX9_findRuled_66 rfl rfl ?_
            obtain ⟨h18, h⟩ := rq_some h
            refine lTrials_found 0 rfl (inb_in h18) dX9_findRuled_67 ?_
            refine r_iconst (x := (1 : Int32)) dX9_findRuled_68 (by decide) ?_
            refine r_iadd dX9_findRuled_69 ?_
            obtain ⟨h19, h⟩ := rq_some h
            obtain ⟨u19, e19, h⟩ := lt_some h
            refine sTrials_found (bs1 := ([bTrials K (a0 0) ((a0 1) 0) ((a0 2) 0) ((a0 3) 0) u19 g0.2.1 g0.2.2.1 g0.2.2.2.1 g0.2.2.2.2, bFairG K (a0 1) q14.2.1, bOrderG K (a0 2) g2, bOrderG K (a0 3) g3, bWorldG K (a1 0) ((a1 1) 0) ((a1 2) 0) ((a1 3) 0) g4, bFairG K (a1 1) g5, bFairG K (a1 2) g6, bNotesG K (a1 3) g7, bNextStallG K a2 (fun j => some (f8_rules j 0)) f8_images r8_tape r8_cursor r8_world r8_past r8_trials g8] ++ (fam 6 (fun j => bRuleG K (f8_rules j) ((va_up p8_rules0 j4 q14.2.2) j)) ++ []))) 0 e19 rfl (inb_in h19) rfl dX9_findRuled_70 ?_
            refine r_iinc (y := (x4 + (1 : Int32))) (lv' := [(4, .int (x4 + (1 : Int32))), (0, .ref ((a0 0) 0)), (1, .ref ((a1 0) 0)), (2, .ref (a2 1)), (3, .int x3)]) 4 dX9_findRuled_71 rfl rfl (Nat.le_of_ble_eq_true rfl) rfl ?_
            refine r_goto 11 dX9_findRuled_74 (by decide) ?_
            refine r_sub (lv' := [(0, .ref ((a0 0) 0)), (1, .ref ((a1 0) 0)), (2, .ref (a2 1)), (3, .int x3), (4, .int (x4 + (1 : Int32)))]) [1, 2, 3, 4, 0] rfl ?_
            exact ih (x4 + (1 : Int32)) (u19, g0.2.1, g0.2.2.1, g0.2.2.2.1, g0.2.2.2.2) q14.2.1 (va_up p8_rules0 j4 q14.2.2) h
          · replace h := it_pos c17 h
            refine r_aload_n 0 dX9_findRuled_53 rfl ?_
            refine gTrials_found 0 rfl (tb_in (i := 9) (j := 28) rfl rfl) dX9_findRuled_54 ?_
            refine r_iconst (x := (1 : Int32)) dX9_findRuled_57 (by decide) ?_
            refine r_iload 4 dX9_findRuled_58 rfl ?_
            obtain ⟨h20, h⟩ := rq_some h
            obtain ⟨u20, e20, h⟩ := lt_some h
            refine sTrials_found (bs1 := ([bTrials K (a0 0) ((a0 1) 0) ((a0 2) 0) ((a0 3) 0) u20 g0.2.1 g0.2.2.1 g0.2.2.2.1 g0.2.2.2.2, bFairG K (a0 1) q14.2.1, bOrderG K (a0 2) g2, bOrderG K (a0 3) g3, bWorldG K (a1 0) ((a1 1) 0) ((a1 2) 0) ((a1 3) 0) g4, bFairG K (a1 1) g5, bFairG K (a1 2) g6, bNotesG K (a1 3) g7, bNextStallG K a2 (fun j => some (f8_rules j 0)) f8_images r8_tape r8_cursor r8_world r8_past r8_trials g8] ++ (fam 6 (fun j => bRuleG K (f8_rules j) ((va_up p8_rules0 j4 q14.2.2) j)) ++ []))) 0 e20 rfl (inb_in h20) rfl dX9_findRuled_60 ?_
            refine r_aload_n 0 dX9_findRuled_61 rfl ?_
            refine gTrials_found 0 rfl (tb_in (i := 9) (j := 28) rfl rfl) dX9_findRuled_62 ?_
            refine r_iconst (x := (0 : Int32)) dX9_findRuled_65 (by decide) ?_
            refine r_dup2 dX9_findRuled_66 rfl rfl ?_
            obtain ⟨h21, h⟩ := rq_some h
            refine lTrials_found 0 rfl (inb_in h21) dX9_findRuled_67 ?_
            refine r_iconst (x := (1 : Int32)) dX9_findRuled_68 (by decide) ?_
            refine r_iadd dX9_findRuled_69 ?_
            obtain ⟨h22, h⟩ := rq_some h
            obtain ⟨u22, e22, h⟩ := lt_some h
            refine sTrials_found (bs1 := ([bTrials K (a0 0) ((a0 1) 0) ((a0 2) 0) ((a0 3) 0) u22 g0.2.1 g0.2.2.1 g0.2.2.2.1 g0.2.2.2.2, bFairG K (a0 1) q14.2.1, bOrderG K (a0 2) g2, bOrderG K (a0 3) g3, bWorldG K (a1 0) ((a1 1) 0) ((a1 2) 0) ((a1 3) 0) g4, bFairG K (a1 1) g5, bFairG K (a1 2) g6, bNotesG K (a1 3) g7, bNextStallG K a2 (fun j => some (f8_rules j 0)) f8_images r8_tape r8_cursor r8_world r8_past r8_trials g8] ++ (fam 6 (fun j => bRuleG K (f8_rules j) ((va_up p8_rules0 j4 q14.2.2) j)) ++ []))) 0 e22 rfl (inb_in h22) rfl dX9_findRuled_70 ?_
            refine r_iinc (y := (x4 + (1 : Int32))) (lv' := [(4, .int (x4 + (1 : Int32))), (0, .ref ((a0 0) 0)), (1, .ref ((a1 0) 0)), (2, .ref (a2 1)), (3, .int x3)]) 4 dX9_findRuled_71 rfl rfl (Nat.le_of_ble_eq_true rfl) rfl ?_
            refine r_goto 11 dX9_findRuled_74 (by decide) ?_
            refine r_sub (lv' := [(0, .ref ((a0 0) 0)), (1, .ref ((a1 0) 0)), (2, .ref (a2 1)), (3, .int x3), (4, .int (x4 + (1 : Int32)))]) [1, 2, 3, 4, 0] rfl ?_
            exact ih (x4 + (1 : Int32)) (u22, g0.2.1, g0.2.2.1, g0.2.2.2.1, g0.2.2.2.2) q14.2.1 (va_up p8_rules0 j4 q14.2.2) h
        · replace h := it_pos c15 h
          refine r_goto 71 dX9_findRuled_41 (by decide) ?_
          refine r_iinc (y := (x4 + (1 : Int32))) (lv' := [(4, .int (x4 + (1 : Int32))), (0, .ref ((a0 0) 0)), (1, .ref ((a1 0) 0)), (2, .ref (a2 1)), (3, .int x3)]) 4 dX9_findRuled_71 rfl rfl (Nat.le_of_ble_eq_true rfl) rfl ?_
          refine r_goto 11 dX9_findRuled_74 (by decide) ?_
          refine r_sub (lv' := [(0, .ref ((a0 0) 0)), (1, .ref ((a1 0) 0)), (2, .ref (a2 1)), (3, .int x3), (4, .int (x4 + (1 : Int32)))]) [1, 2, 3, 4, 0] rfl ?_
          exact ih (x4 + (1 : Int32)) g0 q14.2.1 (va_up p8_rules0 j4 q14.2.2) h
def mTrials_findRuledr_rules (x3 : Int32) (g0 : tyTrials) (g1 : tyFair) (g5 : tyFair) (g7 : tyNotes) (p8_rules0 : Nat → tyRule) : Option (tyTrials × tyFair × (Nat → tyRule)) := (mTrials_find (0 : Int32) (-2 : Int32) (0 : Int32) g0).bind (fun q1 => mTrials_findRuledr_rules_l11 g5 g7 x3 FU (-1 : Int32) q1 g1 p8_rules0)
set_option maxHeartbeats 4000000 in
set_option maxRecDepth 20000 in
theorem cTrials_findRuledr_rules {q : tyTrials × tyFair × (Nat → tyRule)} {x3 : Int32} (h : mTrials_findRuledr_rules x3 g0 g1 g5 g7 p8_rules0 = some q) : rMet l D Z (ty7 K) MTrials_findRuledr_rules [.ref ((a0 0) 0), .ref ((a1 0) 0), .ref (a2 1), .int x3] (List.flatten ([bTrialsG K (a0 0) ((a0 1) 0) ((a0 2) 0) ((a0 3) 0) g0, bFairG K (a0 1) g1, bOrderG K (a0 2) g2, bOrderG K (a0 3) g3, bWorldG K (a1 0) ((a1 1) 0) ((a1 2) 0) ((a1 3) 0) g4, bFairG K (a1 1) g5, bFairG K (a1 2) g6, bNotesG K (a1 3) g7, bNextStallG K a2 (fun j => some (f8_rules j 0)) f8_images r8_tape r8_cursor r8_world r8_past r8_trials g8] ++ (fam 6 (fun j => bRuleG K (f8_rules j) (p8_rules0 j)) ++ []))) (List.flatten ([bTrialsG K (a0 0) ((a0 1) 0) ((a0 2) 0) ((a0 3) 0) q.1, bFairG K (a0 1) q.2.1, bOrderG K (a0 2) g2, bOrderG K (a0 3) g3, bWorldG K (a1 0) ((a1 1) 0) ((a1 2) 0) ((a1 3) 0) g4, bFairG K (a1 1) g5, bFairG K (a1 2) g6, bNotesG K (a1 3) g7, bNextStallG K a2 (fun j => some (f8_rules j 0)) f8_images r8_tape r8_cursor r8_world r8_past r8_trials g8] ++ (fam 6 (fun j => bRuleG K (f8_rules j) (q.2.2 j)) ++ []))) none := by
  refine rMet.of (by decide) rfl (Nat.le_of_ble_eq_true rfl) ?_
  refine r_sub (lv' := [(0, .ref ((a0 0) 0)), (1, .ref ((a1 0) 0)), (2, .ref (a2 1)), (3, .int x3)]) [0, 1, 2, 3] rfl ?_
  unfold mTrials_findRuledr_rules at h
  refine r_aload_n 0 dX9_findRuled_0 rfl ?_
  refine r_iconst (x := (0 : Int32)) dX9_findRuled_1 (by decide) ?_
  refine r_bipush (x := (-2 : Int32)) dX9_findRuled_2 (by decide) ?_
  refine r_iconst (x := (0 : Int32)) dX9_findRuled_4 (by decide) ?_
  obtain ⟨q1, h1, h⟩ := bd_some h
  refine b_callV (isC := [0, 1, 2, 3]) (ci := 7)  (st := []) (bs1 := ([bTrialsG K (a0 0) ((a0 1) 0) ((a0 2) 0) ((a0 3) 0) q1, bFairG K (a0 1) g1, bOrderG K (a0 2) g2, bOrderG K (a0 3) g3, bWorldG K (a1 0) ((a1 1) 0) ((a1 2) 0) ((a1 3) 0) g4, bFairG K (a1 1) g5, bFairG K (a1 2) g6, bNotesG K (a1 3) g7, bNextStallG K a2 (fun j => some (f8_rules j 0)) f8_images r8_tape r8_cursor r8_world r8_past r8_trials g8] ++ (fam 6 (fun j => bRuleG K (f8_rules j) (p8_rules0 j)) ++ []))) (cTrials_find (a0 := a0) (g0 := g0) (g1 := g1) (g2 := g2) (g3 := g3) h1) rfl rfl (Nat.le_of_ble_eq_true rfl) kTrials_find (tb_in (i := 10) (j := 20) rfl rfl) (by decide) (by decide) rfl rfl rfl rfl rfl rfl rfl dX9_findRuled_5 ?_
  refine r_iconst (x := (-1 : Int32)) dX9_findRuled_8 (by decide) ?_
  refine r_istore (lv' := [(4, .int (-1 : Int32)), (0, .ref ((a0 0) 0)), (1, .ref ((a1 0) 0)), (2, .ref (a2 1)), (3, .int x3)]) dX9_findRuled_9 (Nat.le_of_ble_eq_true rfl) rfl ?_
  refine r_sub (lv' := [(0, .ref ((a0 0) 0)), (1, .ref ((a1 0) 0)), (2, .ref (a2 1)), (3, .int x3), (4, .int (-1 : Int32))]) [1, 2, 3, 4, 0] rfl ?_
  exact cTrials_findRuledr_rules_l11 (g5 := g5) (g7 := g7)  FU (-1 : Int32) q1 g1 p8_rules0 h
end
theorem dX9_findLook_0 : decode cX9_findLook 0 = .ok (.iconst 0, 1) := by decide +kernel
theorem dX9_findLook_1 : decode cX9_findLook 1 = .ok (.istore 5, 2) := by decide +kernel
theorem dX9_findLook_3 : decode cX9_findLook 3 = .ok (.iconst (-1), 1) := by decide +kernel
theorem dX9_findLook_4 : decode cX9_findLook 4 = .ok (.istore 6, 2) := by decide +kernel
theorem dX9_findLook_6 : decode cX9_findLook 6 = .ok (.iload 6, 2) := by decide +kernel
theorem dX9_findLook_8 : decode cX9_findLook 8 = .ok (.iload_n 3, 1) := by decide +kernel
theorem dX9_findLook_9 : decode cX9_findLook 9 = .ok (.if_icmp .ge 92, 3) := by decide +kernel
theorem dX9_findLook_12 : decode cX9_findLook 12 = .ok (.iload 5, 2) := by decide +kernel
theorem dX9_findLook_14 : decode cX9_findLook 14 = .ok (.bipush 6, 2) := by decide +kernel
theorem dX9_findLook_16 : decode cX9_findLook 16 = .ok (.if_icmp .gt 85, 3) := by decide +kernel
theorem dX9_findLook_19 : decode cX9_findLook 19 = .ok (.aload_n 2, 1) := by decide +kernel
theorem dX9_findLook_20 : decode cX9_findLook 20 = .ok (.iload 6, 2) := by decide +kernel
theorem dX9_findLook_22 : decode cX9_findLook 22 = .ok (.invokestatic 141, 3) := by decide +kernel
theorem dX9_findLook_25 : decode cX9_findLook 25 = .ok (.astore 7, 2) := by decide +kernel
theorem dX9_findLook_27 : decode cX9_findLook 27 = .ok (.aload_n 1, 1) := by decide +kernel
theorem dX9_findLook_28 : decode cX9_findLook 28 = .ok (.getfield 132, 3) := by decide +kernel
theorem dX9_findLook_31 : decode cX9_findLook 31 = .ok (.aload_n 0, 1) := by decide +kernel
theorem dX9_findLook_32 : decode cX9_findLook 32 = .ok (.aload_n 1, 1) := by decide +kernel
theorem dX9_findLook_33 : decode cX9_findLook 33 = .ok (.getfield 138, 3) := by decide +kernel
theorem dX9_findLook_36 : decode cX9_findLook 36 = .ok (.invokevirtual 66, 3) := by decide +kernel
theorem dX9_findLook_39 : decode cX9_findLook 39 = .ok (.aload 7, 2) := by decide +kernel
theorem dX9_findLook_41 : decode cX9_findLook 41 = .ok (.invokevirtual 145, 3) := by decide +kernel
theorem dX9_findLook_44 : decode cX9_findLook 44 = .ok (.ifCond .ne 6, 3) := by decide +kernel
theorem dX9_findLook_47 : decode cX9_findLook 47 = .ok (.goto 48, 3) := by decide +kernel
theorem dX9_findLook_50 : decode cX9_findLook 50 = .ok (.aload_n 0, 1) := by decide +kernel
theorem dX9_findLook_51 : decode cX9_findLook 51 = .ok (.aload_n 1, 1) := by decide +kernel
theorem dX9_findLook_52 : decode cX9_findLook 52 = .ok (.getfield 138, 3) := by decide +kernel
theorem dX9_findLook_55 : decode cX9_findLook 55 = .ok (.invokevirtual 66, 3) := by decide +kernel
theorem dX9_findLook_58 : decode cX9_findLook 58 = .ok (.aload 7, 2) := by decide +kernel
theorem dX9_findLook_60 : decode cX9_findLook 60 = .ok (.iload 4, 2) := by decide +kernel
theorem dX9_findLook_62 : decode cX9_findLook 62 = .ok (.invokestatic 151, 3) := by decide +kernel
theorem dX9_findLook_65 : decode cX9_findLook 65 = .ok (.iconst (-1), 1) := by decide +kernel
theorem dX9_findLook_66 : decode cX9_findLook 66 = .ok (.invokevirtual 74, 3) := by decide +kernel
theorem dX9_findLook_69 : decode cX9_findLook 69 = .ok (.pop, 1) := by decide +kernel
theorem dX9_findLook_70 : decode cX9_findLook 70 = .ok (.aload_n 0, 1) := by decide +kernel
theorem dX9_findLook_71 : decode cX9_findLook 71 = .ok (.getfield 12, 3) := by decide +kernel
theorem dX9_findLook_74 : decode cX9_findLook 74 = .ok (.getfield 154, 3) := by decide +kernel
theorem dX9_findLook_77 : decode cX9_findLook 77 = .ok (.iconst 0, 1) := by decide +kernel
theorem dX9_findLook_78 : decode cX9_findLook 78 = .ok (.aload_n 0, 1) := by decide +kernel
theorem dX9_findLook_79 : decode cX9_findLook 79 = .ok (.getfield 41, 3) := by decide +kernel
theorem dX9_findLook_82 : decode cX9_findLook 82 = .ok (.iload 5, 2) := by decide +kernel
theorem dX9_findLook_84 : decode cX9_findLook 84 = .ok (.bipush 6, 2) := by decide +kernel
theorem dX9_findLook_86 : decode cX9_findLook 86 = .ok (.imul, 1) := by decide +kernel
theorem dX9_findLook_87 : decode cX9_findLook 87 = .ok (.bipush 6, 2) := by decide +kernel
theorem dX9_findLook_89 : decode cX9_findLook 89 = .ok (.invokestatic 123, 3) := by decide +kernel
theorem dX9_findLook_92 : decode cX9_findLook 92 = .ok (.iinc 5 1, 3) := by decide +kernel
theorem dX9_findLook_95 : decode cX9_findLook 95 = .ok (.iinc 6 1, 3) := by decide +kernel
theorem dX9_findLook_98 : decode cX9_findLook 98 = .ok (.goto (-92), 3) := by decide +kernel
theorem dX9_findLook_101 : decode cX9_findLook 101 = .ok (.aload_n 0, 1) := by decide +kernel
theorem dX9_findLook_102 : decode cX9_findLook 102 = .ok (.bipush (-2), 2) := by decide +kernel
theorem dX9_findLook_104 : decode cX9_findLook 104 = .ok (.bipush (-2), 2) := by decide +kernel
theorem dX9_findLook_106 : decode cX9_findLook 106 = .ok (.iconst 0, 1) := by decide +kernel
theorem dX9_findLook_107 : decode cX9_findLook 107 = .ok (.invokevirtual 92, 3) := by decide +kernel
theorem dX9_findLook_110 : decode cX9_findLook 110 = .ok (.iconst 0, 1) := by decide +kernel
theorem dX9_findLook_111 : decode cX9_findLook 111 = .ok (.istore 6, 2) := by decide +kernel
theorem dX9_findLook_113 : decode cX9_findLook 113 = .ok (.iload 6, 2) := by decide +kernel
theorem dX9_findLook_115 : decode cX9_findLook 115 = .ok (.aload_n 1, 1) := by decide +kernel
theorem dX9_findLook_116 : decode cX9_findLook 116 = .ok (.getfield 138, 3) := by decide +kernel
theorem dX9_findLook_119 : decode cX9_findLook 119 = .ok (.getfield 59, 3) := by decide +kernel
theorem dX9_findLook_122 : decode cX9_findLook 122 = .ok (.if_icmp .ge 55, 3) := by decide +kernel
theorem dX9_findLook_125 : decode cX9_findLook 125 = .ok (.iload 5, 2) := by decide +kernel
theorem dX9_findLook_127 : decode cX9_findLook 127 = .ok (.ifCond .le 50, 3) := by decide +kernel
theorem dX9_findLook_130 : decode cX9_findLook 130 = .ok (.aload_n 0, 1) := by decide +kernel
theorem dX9_findLook_131 : decode cX9_findLook 131 = .ok (.iload 6, 2) := by decide +kernel
theorem dX9_findLook_133 : decode cX9_findLook 133 = .ok (.iload 5, 2) := by decide +kernel
theorem dX9_findLook_135 : decode cX9_findLook 135 = .ok (.invokevirtual 157, 3) := by decide +kernel
theorem dX9_findLook_138 : decode cX9_findLook 138 = .ok (.istore 7, 2) := by decide +kernel
theorem dX9_findLook_140 : decode cX9_findLook 140 = .ok (.aload_n 0, 1) := by decide +kernel
theorem dX9_findLook_141 : decode cX9_findLook 141 = .ok (.getfield 28, 3) := by decide +kernel
theorem dX9_findLook_144 : decode cX9_findLook 144 = .ok (.iconst 0, 1) := by decide +kernel
theorem dX9_findLook_145 : decode cX9_findLook 145 = .ok (.iaload, 1) := by decide +kernel
theorem dX9_findLook_146 : decode cX9_findLook 146 = .ok (.bipush (-2), 2) := by decide +kernel
theorem dX9_findLook_148 : decode cX9_findLook 148 = .ok (.if_icmp .eq 14, 3) := by decide +kernel
theorem dX9_findLook_151 : decode cX9_findLook 151 = .ok (.iload 7, 2) := by decide +kernel
theorem dX9_findLook_153 : decode cX9_findLook 153 = .ok (.aload_n 0, 1) := by decide +kernel
theorem dX9_findLook_154 : decode cX9_findLook 154 = .ok (.getfield 28, 3) := by decide +kernel
theorem dX9_findLook_157 : decode cX9_findLook 157 = .ok (.iconst 1, 1) := by decide +kernel
theorem dX9_findLook_158 : decode cX9_findLook 158 = .ok (.iaload, 1) := by decide +kernel
theorem dX9_findLook_159 : decode cX9_findLook 159 = .ok (.if_icmp .ge 12, 3) := by decide +kernel
theorem dX9_findLook_162 : decode cX9_findLook 162 = .ok (.aload_n 0, 1) := by decide +kernel
theorem dX9_findLook_163 : decode cX9_findLook 163 = .ok (.iload 6, 2) := by decide +kernel
theorem dX9_findLook_165 : decode cX9_findLook 165 = .ok (.iload 7, 2) := by decide +kernel
theorem dX9_findLook_167 : decode cX9_findLook 167 = .ok (.iconst 0, 1) := by decide +kernel
theorem dX9_findLook_168 : decode cX9_findLook 168 = .ok (.invokevirtual 92, 3) := by decide +kernel
theorem dX9_findLook_171 : decode cX9_findLook 171 = .ok (.iinc 6 1, 3) := by decide +kernel
theorem dX9_findLook_174 : decode cX9_findLook 174 = .ok (.goto (-61), 3) := by decide +kernel
theorem dX9_findLook_177 : decode cX9_findLook 177 = .ok (.return_, 1) := by decide +kernel
abbrev MTrials_findLookr_rules : rx_M := (RX9, yX9_findLook, cX9_findLook, 8, none, 7)
theorem kTrials_findLookr_rules : rKv MTrials_findLookr_rules 4 := ⟨tb_in (i := 16) (j := 4) rfl rfl, tb_in (i := 16) (j := 5) rfl rfl, tb_in (i := 10) (j := 11) rfl rfl, tb_in (i := 11) (j := 20) rfl rfl, ⟨by decide, by decide, by decide +kernel⟩, by decide⟩
section
variable {a0 : Nat → Nat → Nat} {a1 : Nat → Nat → Nat} {a2 : Nat → Nat} {g0 : tyTrials} {g1 : tyFair} {g2 : tyOrder} {g3 : tyOrder} {g4 : tyWorld} {g5 : tyFair} {g6 : tyFair} {g7 : tyNotes} {g8 : tyNextStall} {f8_rules : Nat → Nat → Nat} {f8_images : Nat → Option Nat} {r8_tape : Nat} {r8_cursor : Nat} {r8_world : Nat} {r8_past : Nat} {r8_trials : Nat} {p8_rules0 : Nat → tyRule}
def mTrials_findLookr_rules_l113 (g1 : tyFair) (g5 : tyFair) (g7 : tyNotes) (p8_rules0 : Nat → tyRule) (x5 : Int32) : Nat → Int32 → tyTrials → Option (tyTrials × tyFair × (Nat → tyRule))
  | 0, _, _ => none
  | n + 1, x6, g0 => (if g5.2.2.1 ≤ x6 then some (g0, g1, p8_rules0) else (if x5 ≤ 0 then some (g0, g1, p8_rules0) else (mTrials_mostAlike x6 x5 g0).bind (fun q5 => rq (inb (0 : Int32) 3) ((if (g0.1 (0 : Int32).toNatClampNeg) = (-2 : Int32) then (mTrials_find x6 q5 (0 : Int32) g0).bind (fun q8 => mTrials_findLookr_rules_l113 g1 g5 g7 p8_rules0 x5 n (x6 + (1 : Int32)) q8) else rq (inb (1 : Int32) 3) ((if (g0.1 (1 : Int32).toNatClampNeg) ≤ q5 then mTrials_findLookr_rules_l113 g1 g5 g7 p8_rules0 x5 n (x6 + (1 : Int32)) g0 else (mTrials_find x6 q5 (0 : Int32) g0).bind (fun q11 => mTrials_findLookr_rules_l113 g1 g5 g7 p8_rules0 x5 n (x6 + (1 : Int32)) q11))))))))
set_option maxHeartbeats 4000000 in
set_option maxRecDepth 20000 in
theorem cTrials_findLookr_rules_l113 {q : tyTrials × tyFair × (Nat → tyRule)} {x5 : Int32}  : ∀ (n : Nat) (x6 : Int32) (g0 : tyTrials), mTrials_findLookr_rules_l113 g1 g5 g7 p8_rules0 x5 n x6 g0 = some q → rW l D Z (ty7 K) MTrials_findLookr_rules 113 [(0, .ref ((a0 0) 0)), (1, .ref ((a1 0) 0)), (5, .int x5), (6, .int x6)] [] (List.flatten ([bTrialsG K (a0 0) ((a0 1) 0) ((a0 2) 0) ((a0 3) 0) g0, bFairG K (a0 1) g1, bOrderG K (a0 2) g2, bOrderG K (a0 3) g3, bWorldG K (a1 0) ((a1 1) 0) ((a1 2) 0) ((a1 3) 0) g4, bFairG K (a1 1) g5, bFairG K (a1 2) g6, bNotesG K (a1 3) g7, bNextStallG K a2 (fun j => some (f8_rules j 0)) f8_images r8_tape r8_cursor r8_world r8_past r8_trials g8] ++ (fam 6 (fun j => bRuleG K (f8_rules j) (p8_rules0 j)) ++ []))) (List.flatten ([bTrialsG K (a0 0) ((a0 1) 0) ((a0 2) 0) ((a0 3) 0) q.1, bFairG K (a0 1) q.2.1, bOrderG K (a0 2) g2, bOrderG K (a0 3) g3, bWorldG K (a1 0) ((a1 1) 0) ((a1 2) 0) ((a1 3) 0) g4, bFairG K (a1 1) g5, bFairG K (a1 2) g6, bNotesG K (a1 3) g7, bNextStallG K a2 (fun j => some (f8_rules j 0)) f8_images r8_tape r8_cursor r8_world r8_past r8_trials g8] ++ (fam 6 (fun j => bRuleG K (f8_rules j) (q.2.2 j)) ++ []))) none := by
  intro n
  induction n with
  | zero => intro x6 g0 h; unfold mTrials_findLookr_rules_l113 at h; cases h
  | succ n ih =>
    intro x6 g0 h
    unfold mTrials_findLookr_rules_l113 at h
    refine r_iload 3 dX9_findLook_113 rfl ?_
    refine r_aload_n 1 dX9_findLook_115 rfl ?_
    refine gWorld_toldN 4 rfl (List.mem_of_getElem? (i := 54) rfl) dX9_findLook_116 ?_
    refine gFair_stallsN 5 rfl (List.mem_of_getElem? (i := 16) rfl) dX9_findLook_119 ?_
    refine r_icmp_ge 177 dX9_findLook_122 (by decide) (fun c3 => ?_) (fun c3 => ?_)
    · replace h := it_pos c3 h
      have hq := Option.some.inj h
      subst hq
      exact r_vret rfl dX9_findLook_177
    · replace h := it_neg c3 h
      refine r_iload 2 dX9_findLook_125 rfl ?_
      refine r_if_le 177 dX9_findLook_127 (by decide) (fun c4 => ?_) (fun c4 => ?_)
      · replace h := it_pos c4 h
        have hq := Option.some.inj h
        subst hq
        exact r_vret rfl dX9_findLook_177
      · replace h := it_neg c4 h
        refine r_aload_n 0 dX9_findLook_130 rfl ?_
        refine r_iload 3 dX9_findLook_131 rfl ?_
        refine r_iload 2 dX9_findLook_133 rfl ?_
        obtain ⟨q5, h5, h⟩ := bd_some h
        refine b_callV (isC := [0, 1, 2, 3]) (ci := 7)  (st := []) (bs1 := ([bTrialsG K (a0 0) ((a0 1) 0) ((a0 2) 0) ((a0 3) 0) g0, bFairG K (a0 1) g1, bOrderG K (a0 2) g2, bOrderG K (a0 3) g3, bWorldG K (a1 0) ((a1 1) 0) ((a1 2) 0) ((a1 3) 0) g4, bFairG K (a1 1) g5, bFairG K (a1 2) g6, bNotesG K (a1 3) g7, bNextStallG K a2 (fun j => some (f8_rules j 0)) f8_images r8_tape r8_cursor r8_world r8_past r8_trials g8] ++ (fam 6 (fun j => bRuleG K (f8_rules j) (p8_rules0 j)) ++ []))) (cTrials_mostAlike (a0 := a0) (g0 := g0) (g1 := g1) (g2 := g2) (g3 := g3) h5) rfl rfl (Nat.le_of_ble_eq_true rfl) kTrials_mostAlike (tb_in (i := 11) (j := 17) rfl rfl) (by decide) (by decide) rfl rfl rfl rfl rfl rfl rfl dX9_findLook_135 ?_
        refine r_istore (lv' := [(7, .int q5), (0, .ref ((a0 0) 0)), (1, .ref ((a1 0) 0)), (5, .int x5), (6, .int x6)]) dX9_findLook_138 (Nat.le_of_ble_eq_true rfl) rfl ?_
        refine r_aload_n 1 dX9_findLook_140 rfl ?_
        refine gTrials_found 0 rfl (tb_in (i := 9) (j := 28) rfl rfl) dX9_findLook_141 ?_
        refine r_iconst (x := (0 : Int32)) dX9_findLook_144 (by decide) ?_
        obtain ⟨h6, h⟩ := rq_some h
        refine lTrials_found 0 rfl (inb_in h6) dX9_findLook_145 ?_
        refine r_bipush (x := (-2 : Int32)) dX9_findLook_146 (by decide) ?_
        refine r_icmp_eq 162 dX9_findLook_148 (by decide) (fun c7 => ?_) (fun c7 => ?_)
        · replace h := it_pos c7 h
          refine r_aload_n 1 dX9_findLook_162 rfl ?_
          refine r_iload 4 dX9_findLook_163 rfl ?_
          refine r_iload 0 dX9_findLook_165 rfl ?_
          refine r_iconst (x := (0 : Int32)) dX9_findLook_167 (by decide) ?_
          obtain ⟨q8, h8, h⟩ := bd_some h
          refine b_callV (isC := [0, 1, 2, 3]) (ci := 7)  (st := []) (bs1 := ([bTrialsG K (a0 0) ((a0 1) 0) ((a0 2) 0) ((a0 3) 0) q8, bFairG K (a0 1) g1, bOrderG K (a0 2) g2, bOrderG K (a0 3) g3, bWorldG K (a1 0) ((a1 1) 0) ((a1 2) 0) ((a1 3) 0) g4, bFairG K (a1 1) g5, bFairG K (a1 2) g6, bNotesG K (a1 3) g7, bNextStallG K a2 (fun j => some (f8_rules j 0)) f8_images r8_tape r8_cursor r8_world r8_past r8_trials g8] ++ (fam 6 (fun j => bRuleG K (f8_rules j) (p8_rules0 j)) ++ []))) (cTrials_find (a0 := a0) (g0 := g0) (g1 := g1) (g2 := g2) (g3 := g3) h8) rfl rfl (Nat.le_of_ble_eq_true rfl) kTrials_find (tb_in (i := 10) (j := 20) rfl rfl) (by decide) (by decide) rfl rfl rfl rfl rfl rfl rfl dX9_findLook_168 ?_
          refine r_iinc (y := (x6 + (1 : Int32))) (lv' := [(6, .int (x6 + (1 : Int32))), (7, .int q5), (0, .ref ((a0 0) 0)), (1, .ref ((a1 0) 0)), (5, .int x5)]) 4 dX9_findLook_171 rfl rfl (Nat.le_of_ble_eq_true rfl) rfl ?_
          refine r_goto 113 dX9_findLook_174 (by decide) ?_
          refine r_sub (lv' := [(0, .ref ((a0 0) 0)), (1, .ref ((a1 0) 0)), (5, .int x5), (6, .int (x6 + (1 : Int32)))]) [2, 3, 4, 0] rfl ?_
          exact ih (x6 + (1 : Int32)) q8 h
        · replace h := it_neg c7 h
          refine r_iload 0 dX9_findLook_151 rfl ?_
          refine r_aload_n 1 dX9_findLook_153 rfl ?_
          refine gTrials_found 0 rfl (tb_in (i := 9) (j := 28) rfl rfl) dX9_findLook_154 ?_
          refine r_iconst (x := (1 : Int32)) dX9_findLook_157 (by decide) ?_
          obtain ⟨h9, h⟩ := rq_some h
          refine lTrials_found 0 rfl (inb_in h9) dX9_findLook_158 ?_
          refine r_icmp_ge 171 dX9_findLook_159 (by decide) (fun c10 => ?_) (fun c10 => ?_)
          · replace h := it_pos c10 h
            refine r_iinc (y := (x6 + (1 : Int32))) (lv' := [(6, .int (x6 + (1 : Int32))), (7, .int q5), (0, .ref ((a0 0) 0)), (1, .ref ((a1 0) 0)), (5, .int x5)]) 4 dX9_findLook_171 rfl rfl (Nat.le_of_ble_eq_true rfl) rfl ?_
            refine r_goto 113 dX9_findLook_174 (by decide) ?_
            refine r_sub (lv' := [(0, .ref ((a0 0) 0)), (1, .ref ((a1 0) 0)), (5, .int x5), (6, .int (x6 + (1 : Int32)))]) [2, 3, 4, 0] rfl ?_
            exact ih (x6 + (1 : Int32)) g0 h
          · replace h := it_neg c10 h
            refine r_aload_n 1 dX9_findLook_162 rfl ?_
            refine r_iload 4 dX9_findLook_163 rfl ?_
            refine r_iload 0 dX9_findLook_165 rfl ?_
            refine r_iconst (x := (0 : Int32)) dX9_findLook_167 (by decide) ?_
            obtain ⟨q11, h11, h⟩ := bd_some h
            refine b_callV (isC := [0, 1, 2, 3]) (ci := 7)  (st := []) (bs1 := ([bTrialsG K (a0 0) ((a0 1) 0) ((a0 2) 0) ((a0 3) 0) q11, bFairG K (a0 1) g1, bOrderG K (a0 2) g2, bOrderG K (a0 3) g3, bWorldG K (a1 0) ((a1 1) 0) ((a1 2) 0) ((a1 3) 0) g4, bFairG K (a1 1) g5, bFairG K (a1 2) g6, bNotesG K (a1 3) g7, bNextStallG K a2 (fun j => some (f8_rules j 0)) f8_images r8_tape r8_cursor r8_world r8_past r8_trials g8] ++ (fam 6 (fun j => bRuleG K (f8_rules j) (p8_rules0 j)) ++ []))) (cTrials_find (a0 := a0) (g0 := g0) (g1 := g1) (g2 := g2) (g3 := g3) h11) rfl rfl (Nat.le_of_ble_eq_true rfl) kTrials_find (tb_in (i := 10) (j := 20) rfl rfl) (by decide) (by decide) rfl rfl rfl rfl rfl rfl rfl dX9_findLook_168 ?_
            refine r_iinc (y := (x6 + (1 : Int32))) (lv' := [(6, .int (x6 + (1 : Int32))), (7, .int q5), (0, .ref ((a0 0) 0)), (1, .ref ((a1 0) 0)), (5, .int x5)]) 4 dX9_findLook_171 rfl rfl (Nat.le_of_ble_eq_true rfl) rfl ?_
            refine r_goto 113 dX9_findLook_174 (by decide) ?_
            refine r_sub (lv' := [(0, .ref ((a0 0) 0)), (1, .ref ((a1 0) 0)), (5, .int x5), (6, .int (x6 + (1 : Int32)))]) [2, 3, 4, 0] rfl ?_
            exact ih (x6 + (1 : Int32)) q11 h
def mTrials_findLookr_rules_l6 (g5 : tyFair) (g7 : tyNotes) (x3 : Int32) (x4 : Int32) : Nat → Int32 → Int32 → tyTrials → tyFair → (Nat → tyRule) → Option (tyTrials × tyFair × (Nat → tyRule))
  | 0, _, _, _, _, _ => none
  | n + 1, x5, x6, g0, g1, p8_rules0 => (if x3 ≤ x6 then (mTrials_find (-2 : Int32) (-2 : Int32) (0 : Int32) g0).bind (fun q2 => mTrials_findLookr_rules_l113 g1 g5 g7 p8_rules0 x5 FU (0 : Int32) q2) else (if (6 : Int32) < x5 then (mTrials_find (-2 : Int32) (-2 : Int32) (0 : Int32) g0).bind (fun q13 => mTrials_findLookr_rules_l113 g1 g5 g7 p8_rules0 x5 FU (0 : Int32) q13) else (mTrials_ruleOf_rules x6).bind (fun q14 => mt q14 ((mTrials_from g1 g5).bind (fun q15 => (mNotes_fitrn g7 q15).bind (fun q16 => (if q16.1 = 0 then mTrials_findLookr_rules_l6 g5 g7 x3 x4 n x5 (x6 + (1 : Int32)) g0 q16.2 p8_rules0 else (mTrials_from q16.2 g5).bind (fun q18 => (mNotes_passedBehind x4).bind (fun q19 => (mFair_gon q19 (-1 : Int32) q18.1 q18.2.1 q18.2.2.1 q18.2.2.2.1 q18.2.2.2.2.1 q18.2.2.2.2.2.1 q18.2.2.2.2.2.2.1 q18.2.2.2.2.2.2.2.2.1 q18.2.2.2.2.2.2.2.2.2.1 q18.2.2.2.2.2.2.2.2.2.2.1 q18.2.2.2.2.2.2.2.2.2.2.2.2.2.1 q18.2.2.2.2.2.2.2.2.2.2.2.2.2.2.1 q18.2.2.2.2.2.2.2.2.2.2.2.2.2.2.2.1 q18.2.2.2.2.2.2.2.2.2.2.2.2.2.2.2.2.1 q18.2.2.2.2.2.2.2.2.2.2.2.2.2.2.2.2.2.1).bind (fun q20 => rq (cpin (0 : Int32) (x5 * (6 : Int32)) (6 : Int32) 6 42) (lt (va_cpy q20.2.2.2.1 g0.2.2.2.2 (0 : Int32).toNatClampNeg (x5 * (6 : Int32)).toNatClampNeg (6 : Int32).toNatClampNeg) (fun u21 => mTrials_findLookr_rules_l6 g5 g7 x3 x4 n (x5 + (1 : Int32)) (x6 + (1 : Int32)) (g0.1, g0.2.1, g0.2.2.1, g0.2.2.2.1, u21) (q18.1, q18.2.1, q18.2.2.1, q18.2.2.2.1, q20.2.1, q20.2.2.1, q18.2.2.2.2.2.2.1, q18.2.2.2.2.2.2.2.1, q20.2.2.2.1, q20.2.2.2.2.1, q20.2.2.2.2.2.1, q18.2.2.2.2.2.2.2.2.2.2.2.1, q18.2.2.2.2.2.2.2.2.2.2.2.2.1, q20.2.2.2.2.2.2.1, q18.2.2.2.2.2.2.2.2.2.2.2.2.2.2.1, q20.2.2.2.2.2.2.2, q18.2.2.2.2.2.2.2.2.2.2.2.2.2.2.2.2.1, q18.2.2.2.2.2.2.2.2.2.2.2.2.2.2.2.2.2.1, q18.2.2.2.2.2.2.2.2.2.2.2.2.2.2.2.2.2.2) p8_rules0))))))))) (fun j14 => rq (decide (j14 < 6)) ((mTrials_from g1 g5).bind (fun q22 => (mNotes_fitrr g7 q22 (p8_rules0 j14)).bind (fun q23 => (if q23.1 = 0 then mTrials_findLookr_rules_l6 g5 g7 x3 x4 n x5 (x6 + (1 : Int32)) g0 q23.2.1 (va_up p8_rules0 j14 q23.2.2) else (mTrials_from q23.2.1 g5).bind (fun q25 => (mNotes_passedBehind x4).bind (fun q26 => (mFair_gor q26 (-1 : Int32) q25.1 q25.2.1 q25.2.2.1 q25.2.2.2.1 q25.2.2.2.2.1 q25.2.2.2.2.2.1 q25.2.2.2.2.2.2.1 q25.2.2.2.2.2.2.2.2.1 q25.2.2.2.2.2.2.2.2.2.1 q25.2.2.2.2.2.2.2.2.2.2.1 q25.2.2.2.2.2.2.2.2.2.2.2.2.2.1 q25.2.2.2.2.2.2.2.2.2.2.2.2.2.2.1 q25.2.2.2.2.2.2.2.2.2.2.2.2.2.2.2.1 q25.2.2.2.2.2.2.2.2.2.2.2.2.2.2.2.2.1 q25.2.2.2.2.2.2.2.2.2.2.2.2.2.2.2.2.2.1 q25.2.2.2.2.2.2.2.2.2.2.2.2.2.2.2.2.2.2 (((va_up p8_rules0 j14 q23.2.2) j14).1) (((va_up p8_rules0 j14 q23.2.2) j14).2.1) (((va_up p8_rules0 j14 q23.2.2) j14).2.2.1) (((va_up p8_rules0 j14 q23.2.2) j14).2.2.2.1) (((va_up p8_rules0 j14 q23.2.2) j14).2.2.2.2.1) (((va_up p8_rules0 j14 q23.2.2) j14).2.2.2.2.2.1) (((va_up p8_rules0 j14 q23.2.2) j14).2.2.2.2.2.2.2.1) (((va_up p8_rules0 j14 q23.2.2) j14).2.2.2.2.2.2.2.2.1) (((va_up p8_rules0 j14 q23.2.2) j14).2.2.2.2.2.2.2.2.2)).bind (fun q27 => rq (cpin (0 : Int32) (x5 * (6 : Int32)) (6 : Int32) 6 42) (lt (va_cpy q27.2.2.2.1 g0.2.2.2.2 (0 : Int32).toNatClampNeg (x5 * (6 : Int32)).toNatClampNeg (6 : Int32).toNatClampNeg) (fun u28 => mTrials_findLookr_rules_l6 g5 g7 x3 x4 n (x5 + (1 : Int32)) (x6 + (1 : Int32)) (g0.1, g0.2.1, g0.2.2.1, g0.2.2.2.1, u28) (q25.1, q25.2.1, q25.2.2.1, q25.2.2.2.1, q27.2.1, q27.2.2.1, q25.2.2.2.2.2.2.1, q25.2.2.2.2.2.2.2.1, q27.2.2.2.1, q27.2.2.2.2.1, q27.2.2.2.2.2.1, q25.2.2.2.2.2.2.2.2.2.2.2.1, q25.2.2.2.2.2.2.2.2.2.2.2.2.1, q27.2.2.2.2.2.2.1, q25.2.2.2.2.2.2.2.2.2.2.2.2.2.2.1, q27.2.2.2.2.2.2.2.1, q25.2.2.2.2.2.2.2.2.2.2.2.2.2.2.2.2.1, q25.2.2.2.2.2.2.2.2.2.2.2.2.2.2.2.2.2.1, q25.2.2.2.2.2.2.2.2.2.2.2.2.2.2.2.2.2.2) (va_up (va_up p8_rules0 j14 q23.2.2) j14 (((va_up p8_rules0 j14 q23.2.2) j14).1, ((va_up p8_rules0 j14 q23.2.2) j14).2.1, ((va_up p8_rules0 j14 q23.2.2) j14).2.2.1, ((va_up p8_rules0 j14 q23.2.2) j14).2.2.2.1, ((va_up p8_rules0 j14 q23.2.2) j14).2.2.2.2.1, ((va_up p8_rules0 j14 q23.2.2) j14).2.2.2.2.2.1, ((va_up p8_rules0 j14 q23.2.2) j14).2.2.2.2.2.2.1, ((va_up p8_rules0 j14 q23.2.2) j14).2.2.2.2.2.2.2.1, q27.2.2.2.2.2.2.2.2.1, q27.2.2.2.2.2.2.2.2.2)))))))))))))))
set_option maxHeartbeats 4000000 in
set_option maxRecDepth 20000 in
theorem cTrials_findLookr_rules_l6 {q : tyTrials × tyFair × (Nat → tyRule)} {x3 : Int32} {x4 : Int32}  : ∀ (n : Nat) (x5 : Int32) (x6 : Int32) (g0 : tyTrials) (g1 : tyFair) (p8_rules0 : Nat → tyRule), mTrials_findLookr_rules_l6 g5 g7 x3 x4 n x5 x6 g0 g1 p8_rules0 = some q → rW l D Z (ty7 K) MTrials_findLookr_rules 6 [(0, .ref ((a0 0) 0)), (1, .ref ((a1 0) 0)), (2, .ref (a2 1)), (3, .int x3), (4, .int x4), (5, .int x5), (6, .int x6)] [] (List.flatten ([bTrialsG K (a0 0) ((a0 1) 0) ((a0 2) 0) ((a0 3) 0) g0, bFairG K (a0 1) g1, bOrderG K (a0 2) g2, bOrderG K (a0 3) g3, bWorldG K (a1 0) ((a1 1) 0) ((a1 2) 0) ((a1 3) 0) g4, bFairG K (a1 1) g5, bFairG K (a1 2) g6, bNotesG K (a1 3) g7, bNextStallG K a2 (fun j => some (f8_rules j 0)) f8_images r8_tape r8_cursor r8_world r8_past r8_trials g8] ++ (fam 6 (fun j => bRuleG K (f8_rules j) (p8_rules0 j)) ++ []))) (List.flatten ([bTrialsG K (a0 0) ((a0 1) 0) ((a0 2) 0) ((a0 3) 0) q.1, bFairG K (a0 1) q.2.1, bOrderG K (a0 2) g2, bOrderG K (a0 3) g3, bWorldG K (a1 0) ((a1 1) 0) ((a1 2) 0) ((a1 3) 0) g4, bFairG K (a1 1) g5, bFairG K (a1 2) g6, bNotesG K (a1 3) g7, bNextStallG K a2 (fun j => some (f8_rules j 0)) f8_images r8_tape r8_cursor r8_world r8_past r8_trials g8] ++ (fam 6 (fun j => bRuleG K (f8_rules j) (q.2.2 j)) ++ []))) none := by
  intro n
  induction n with
  | zero => intro x5 x6 g0 g1 p8_rules0 h; unfold mTrials_findLookr_rules_l6 at h; cases h
  | succ n ih =>
    intro x5 x6 g0 g1 p8_rules0 h
    unfold mTrials_findLookr_rules_l6 at h
    refine r_iload 6 dX9_findLook_6 rfl ?_
    refine r_iload_n 3 dX9_findLook_8 rfl ?_
    refine r_icmp_ge 101 dX9_findLook_9 (by decide) (fun c1 => ?_) (fun c1 => ?_)
    · replace h := it_pos c1 h
      refine r_aload_n 0 dX9_findLook_101 rfl ?_
      refine r_bipush (x := (-2 : Int32)) dX9_findLook_102 (by decide) ?_
      refine r_bipush (x := (-2 : Int32)) dX9_findLook_104 (by decide) ?_
      refine r_iconst (x := (0 : Int32)) dX9_findLook_106 (by decide) ?_
      obtain ⟨q2, h2, h⟩ := bd_some h
      refine b_callV (isC := [0, 1, 2, 3]) (ci := 7)  (st := []) (bs1 := ([bTrialsG K (a0 0) ((a0 1) 0) ((a0 2) 0) ((a0 3) 0) q2, bFairG K (a0 1) g1, bOrderG K (a0 2) g2, bOrderG K (a0 3) g3, bWorldG K (a1 0) ((a1 1) 0) ((a1 2) 0) ((a1 3) 0) g4, bFairG K (a1 1) g5, bFairG K (a1 2) g6, bNotesG K (a1 3) g7, bNextStallG K a2 (fun j => some (f8_rules j 0)) f8_images r8_tape r8_cursor r8_world r8_past r8_trials g8] ++ (fam 6 (fun j => bRuleG K (f8_rules j) (p8_rules0 j)) ++ []))) (cTrials_find (a0 := a0) (g0 := g0) (g1 := g1) (g2 := g2) (g3 := g3) h2) rfl rfl (Nat.le_of_ble_eq_true rfl) kTrials_find (tb_in (i := 10) (j := 20) rfl rfl) (by decide) (by decide) rfl rfl rfl rfl rfl rfl rfl dX9_findLook_107 ?_
      refine r_iconst (x := (0 : Int32)) dX9_findLook_110 (by decide) ?_
      refine r_istore (lv' := [(6, .int (0 : Int32)), (0, .ref ((a0 0) 0)), (1, .ref ((a1 0) 0)), (2, .ref (a2 1)), (3, .int x3), (4, .int x4), (5, .int x5)]) dX9_findLook_111 (Nat.le_of_ble_eq_true rfl) rfl ?_
      refine r_sub (lv' := [(0, .ref ((a0 0) 0)), (1, .ref ((a1 0) 0)), (5, .int x5), (6, .int (0 : Int32))]) [1, 2, 6, 0] rfl ?_
      exact cTrials_findLookr_rules_l113 (g1 := g1) (g5 := g5) (g7 := g7) (p8_rules0 := p8_rules0)  FU (0 : Int32) q2 h
    · replace h := it_neg c1 h
      refine r_iload 5 dX9_findLook_12 rfl ?_
      refine r_bipush (x := (6 : Int32)) dX9_findLook_14 (by decide) ?_
      refine r_icmp_gt 101 dX9_findLook_16 (by decide) (fun c12 => ?_) (fun c12 => ?_)
      · replace h := it_pos c12 h
        refine r_aload_n 0 dX9_findLook_101 rfl ?_
        refine r_bipush (x := (-2 : Int32)) dX9_findLook_102 (by decide) ?_
        refine r_bipush (x := (-2 : Int32)) dX9_findLook_104 (by decide) ?_
        refine r_iconst (x := (0 : Int32)) dX9_findLook_106 (by decide) ?_
        obtain ⟨q13, h13, h⟩ := bd_some h
        refine b_callV (isC := [0, 1, 2, 3]) (ci := 7)  (st := []) (bs1 := ([bTrialsG K (a0 0) ((a0 1) 0) ((a0 2) 0) ((a0 3) 0) q13, bFairG K (a0 1) g1, bOrderG K (a0 2) g2, bOrderG K (a0 3) g3, bWorldG K (a1 0) ((a1 1) 0) ((a1 2) 0) ((a1 3) 0) g4, bFairG K (a1 1) g5, bFairG K (a1 2) g6, bNotesG K (a1 3) g7, bNextStallG K a2 (fun j => some (f8_rules j 0)) f8_images r8_tape r8_cursor r8_world r8_past r8_trials g8] ++ (fam 6 (fun j => bRuleG K (f8_rules j) (p8_rules0 j)) ++ []))) (cTrials_find (a0 := a0) (g0 := g0) (g1 := g1) (g2 := g2) (g3 := g3) h13) rfl rfl (Nat.le_of_ble_eq_true rfl) kTrials_find (tb_in (i := 10) (j := 20) rfl rfl) (by decide) (by decide) rfl rfl rfl rfl rfl rfl rfl dX9_findLook_107 ?_
        refine r_iconst (x := (0 : Int32)) dX9_findLook_110 (by decide) ?_
        refine r_istore (lv' := [(6, .int (0 : Int32)), (0, .ref ((a0 0) 0)), (1, .ref ((a1 0) 0)), (2, .ref (a2 1)), (3, .int x3), (4, .int x4), (5, .int x5)]) dX9_findLook_111 (Nat.le_of_ble_eq_true rfl) rfl ?_
        refine r_sub (lv' := [(0, .ref ((a0 0) 0)), (1, .ref ((a1 0) 0)), (5, .int x5), (6, .int (0 : Int32))]) [1, 2, 6, 0] rfl ?_
        exact cTrials_findLookr_rules_l113 (g1 := g1) (g5 := g5) (g7 := g7) (p8_rules0 := p8_rules0)  FU (0 : Int32) q13 h
      · replace h := it_neg c12 h
        refine r_aload_n 2 dX9_findLook_19 rfl ?_
        refine r_iload 6 dX9_findLook_20 rfl ?_
        obtain ⟨q14, h14, h⟩ := bd_some h
        refine b_callS (isC := ([8] ++ (List.range' 9 6 ++ []))) (st := []) (bs1 := ([bTrialsG K (a0 0) ((a0 1) 0) ((a0 2) 0) ((a0 3) 0) g0, bFairG K (a0 1) g1, bOrderG K (a0 2) g2, bOrderG K (a0 3) g3, bWorldG K (a1 0) ((a1 1) 0) ((a1 2) 0) ((a1 3) 0) g4, bFairG K (a1 1) g5, bFairG K (a1 2) g6, bNotesG K (a1 3) g7, bNextStallG K a2 (fun j => some (f8_rules j 0)) f8_images r8_tape r8_cursor r8_world r8_past r8_trials g8] ++ (fam 6 (fun j => bRuleG K (f8_rules j) (p8_rules0 j)) ++ []))) (cTrials_ruleOf_rules (a0 := a2) (f0_rules := f8_rules) (g0 := g8) (p0_rules0 := p8_rules0) h14) rfl rfl (Nat.le_of_ble_eq_true rfl) kTrials_ruleOf_rules (tb_in (i := 11) (j := 8) rfl rfl) (by decide) (by decide +kernel) (map_app rfl (map_app (map_f0 (n := 6) (l := [bTrialsG K (a0 0) ((a0 1) 0) ((a0 2) 0) ((a0 3) 0) g0, bFairG K (a0 1) g1, bOrderG K (a0 2) g2, bOrderG K (a0 3) g3, bWorldG K (a1 0) ((a1 1) 0) ((a1 2) 0) ((a1 3) 0) g4, bFairG K (a1 1) g5, bFairG K (a1 2) g6, bNotesG K (a1 3) g7, bNextStallG K a2 (fun j => some (f8_rules j 0)) f8_images r8_tape r8_cursor r8_world r8_past r8_trials g8]) rfl) rfl)) (by simp only [List.length_append, fam_len, List.length_range', List.length_cons, List.length_nil]) (stm_a (bs1 := ([bTrialsG K (a0 0) ((a0 1) 0) ((a0 2) 0) ((a0 3) 0) g0, bFairG K (a0 1) g1, bOrderG K (a0 2) g2, bOrderG K (a0 3) g3, bWorldG K (a1 0) ((a1 1) 0) ((a1 2) 0) ((a1 3) 0) g4, bFairG K (a1 1) g5, bFairG K (a1 2) g6, bNotesG K (a1 3) g7, bNextStallG K a2 (fun j => some (f8_rules j 0)) f8_images r8_tape r8_cursor r8_world r8_past r8_trials g8] ++ (fam 6 (fun j => bRuleG K (f8_rules j) (p8_rules0 j)) ++ []))) rfl rfl (stm_a (bs1 := ([bTrialsG K (a0 0) ((a0 1) 0) ((a0 2) 0) ((a0 3) 0) g0, bFairG K (a0 1) g1, bOrderG K (a0 2) g2, bOrderG K (a0 3) g3, bWorldG K (a1 0) ((a1 1) 0) ((a1 2) 0) ((a1 3) 0) g4, bFairG K (a1 1) g5, bFairG K (a1 2) g6, bNotesG K (a1 3) g7, bNextStallG K a2 (fun j => some (f8_rules j 0)) f8_images r8_tape r8_cursor r8_world r8_past r8_trials g8] ++ (fam 6 (fun j => bRuleG K (f8_rules j) (p8_rules0 j)) ++ []))) (by rw [List.length_range', fam_len]) (stm_f0 (n := 6) (l := [bTrialsG K (a0 0) ((a0 1) 0) ((a0 2) 0) ((a0 3) 0) g0, bFairG K (a0 1) g1, bOrderG K (a0 2) g2, bOrderG K (a0 3) g3, bWorldG K (a1 0) ((a1 1) 0) ((a1 2) 0) ((a1 3) 0) g4, bFairG K (a1 1) g5, bFairG K (a1 2) g6, bNotesG K (a1 3) g7, bNextStallG K a2 (fun j => some (f8_rules j 0)) f8_images r8_tape r8_cursor r8_world r8_past r8_trials g8]) rfl) rfl)) dX9_findLook_22 ?_
        cases q14 with
        | none =>
          replace h := mt_n h
          refine r_st (st' := [.null]) rfl ?_
          refine r_astoreN (lv' := [(7, .null), (0, .ref ((a0 0) 0)), (1, .ref ((a1 0) 0)), (2, .ref (a2 1)), (3, .int x3), (4, .int x4), (5, .int x5), (6, .int x6)]) dX9_findLook_25 (Nat.le_of_ble_eq_true rfl) rfl ?_
          refine r_aload_n 2 dX9_findLook_27 rfl ?_
          refine gWorld_notesN 4 rfl (List.mem_of_getElem? (i := 57) rfl) dX9_findLook_28 ?_
          refine r_aload_n 1 dX9_findLook_31 rfl ?_
          refine r_aload_n 2 dX9_findLook_32 rfl ?_
          refine gWorld_toldN 4 rfl (List.mem_of_getElem? (i := 54) rfl) dX9_findLook_33 ?_
          obtain ⟨q15, h15, h⟩ := bd_some h
          refine b_callV (isC := [0, 1, 2, 3, 5]) (ci := 7)  (st := [.ref ((a1 3) 0)]) (bs1 := ([bTrialsG K (a0 0) ((a0 1) 0) ((a0 2) 0) ((a0 3) 0) g0, bFairG K (a0 1) q15, bOrderG K (a0 2) g2, bOrderG K (a0 3) g3, bWorldG K (a1 0) ((a1 1) 0) ((a1 2) 0) ((a1 3) 0) g4, bFairG K (a1 1) g5, bFairG K (a1 2) g6, bNotesG K (a1 3) g7, bNextStallG K a2 (fun j => some (f8_rules j 0)) f8_images r8_tape r8_cursor r8_world r8_past r8_trials g8] ++ (fam 6 (fun j => bRuleG K (f8_rules j) (p8_rules0 j)) ++ []))) (cTrials_from (a0 := a0) (a1 := (a1 1)) (g0 := g0) (g1 := g1) (g2 := g2) (g3 := g3) (g4 := g5) h15) rfl rfl (Nat.le_of_ble_eq_true rfl) kTrials_from (tb_in (i := 10) (j := 8) rfl rfl) (by decide) (by decide) rfl rfl rfl rfl rfl rfl rfl dX9_findLook_36 ?_
          refine r_aloadN 0 dX9_findLook_39 rfl ?_
          obtain ⟨q16, h16, h⟩ := bd_some h
          refine b_callVN (isC := [7, 1]) (ci := 2)  (st := []) (bs1 := ([bTrialsG K (a0 0) ((a0 1) 0) ((a0 2) 0) ((a0 3) 0) g0, bFairG K (a0 1) q16.2, bOrderG K (a0 2) g2, bOrderG K (a0 3) g3, bWorldG K (a1 0) ((a1 1) 0) ((a1 2) 0) ((a1 3) 0) g4, bFairG K (a1 1) g5, bFairG K (a1 2) g6, bNotesG K (a1 3) g7, bNextStallG K a2 (fun j => some (f8_rules j 0)) f8_images r8_tape r8_cursor r8_world r8_past r8_trials g8] ++ (fam 6 (fun j => bRuleG K (f8_rules j) (p8_rules0 j)) ++ []))) (cNotes_fitrn (a0 := (a1 3)) (a1 := (a0 1)) (g0 := g7) (g1 := q15) h16) rfl rfl (Nat.le_of_ble_eq_true rfl) kNotes_fitrn (List.mem_of_getElem? (i := 76) rfl) (by decide) (by decide) rfl rfl rfl rfl rfl rfl rfl dX9_findLook_41 ?_
          refine r_if_ne 50 dX9_findLook_44 (by decide) (fun c17 => ?_) (fun c17 => ?_)
          · replace h := it_neg c17 h
            refine r_aload_n 1 dX9_findLook_50 rfl ?_
            refine r_aload_n 2 dX9_findLook_51 rfl ?_
            refine gWorld_toldN 4 rfl (List.mem_of_getElem? (i := 54) rfl) dX9_findLook_52 ?_
            obtain ⟨q18, h18, h⟩ := bd_some h
            refine b_callV (isC := [0, 1, 2, 3, 5]) (ci := 7)  (st := []) (bs1 := ([bTrialsG K (a0 0) ((a0 1) 0) ((a0 2) 0) ((a0 3) 0) g0, bFairG K (a0 1) q18, bOrderG K (a0 2) g2, bOrderG K (a0 3) g3, bWorldG K (a1 0) ((a1 1) 0) ((a1 2) 0) ((a1 3) 0) g4, bFairG K (a1 1) g5, bFairG K (a1 2) g6, bNotesG K (a1 3) g7, bNextStallG K a2 (fun j => some (f8_rules j 0)) f8_images r8_tape r8_cursor r8_world r8_past r8_trials g8] ++ (fam 6 (fun j => bRuleG K (f8_rules j) (p8_rules0 j)) ++ []))) (cTrials_from (a0 := a0) (a1 := (a1 1)) (g0 := g0) (g1 := q16.2) (g2 := g2) (g3 := g3) (g4 := g5) h18) rfl rfl (Nat.le_of_ble_eq_true rfl) kTrials_from (tb_in (i := 10) (j := 8) rfl rfl) (by decide) (by decide) rfl rfl rfl rfl rfl rfl rfl dX9_findLook_55 ?_
            refine r_aloadN 0 dX9_findLook_58 rfl ?_
            refine r_iload 5 dX9_findLook_60 rfl ?_
            obtain ⟨q19, h19, h⟩ := bd_some h
            refine b_callSN (isC := []) (st := [.null, .ref ((a0 1) 0)]) (bs1 := ([bTrialsG K (a0 0) ((a0 1) 0) ((a0 2) 0) ((a0 3) 0) g0, bFairG K (a0 1) q18, bOrderG K (a0 2) g2, bOrderG K (a0 3) g3, bWorldG K (a1 0) ((a1 1) 0) ((a1 2) 0) ((a1 3) 0) g4, bFairG K (a1 1) g5, bFairG K (a1 2) g6, bNotesG K (a1 3) g7, bNextStallG K a2 (fun j => some (f8_rules j 0)) f8_images r8_tape r8_cursor r8_world r8_past r8_trials g8] ++ (fam 6 (fun j => bRuleG K (f8_rules j) (p8_rules0 j)) ++ []))) (cNotes_passedBehind   h19) rfl rfl (Nat.le_of_ble_eq_true rfl) kNotes_passedBehind (List.mem_of_getElem? (i := 79) rfl) (by decide) (by decide) rfl rfl rfl dX9_findLook_62 ?_
            refine r_iconst (x := (-1 : Int32)) dX9_findLook_65 (by decide) ?_
            obtain ⟨q20, h20, h⟩ := bd_some h
            refine b_callVN (isC := [1]) (ci := 1)  (st := []) (bs1 := ([bTrialsG K (a0 0) ((a0 1) 0) ((a0 2) 0) ((a0 3) 0) g0, bFair K (a0 1) q18.1 q18.2.1 q18.2.2.1 q18.2.2.2.1 q20.2.1 q20.2.2.1 q18.2.2.2.2.2.2.1 q18.2.2.2.2.2.2.2.1 q20.2.2.2.1 q20.2.2.2.2.1 q20.2.2.2.2.2.1 q18.2.2.2.2.2.2.2.2.2.2.2.1 q18.2.2.2.2.2.2.2.2.2.2.2.2.1 q20.2.2.2.2.2.2.1 q18.2.2.2.2.2.2.2.2.2.2.2.2.2.2.1 q20.2.2.2.2.2.2.2 q18.2.2.2.2.2.2.2.2.2.2.2.2.2.2.2.2.1 q18.2.2.2.2.2.2.2.2.2.2.2.2.2.2.2.2.2.1 q18.2.2.2.2.2.2.2.2.2.2.2.2.2.2.2.2.2.2, bOrderG K (a0 2) g2, bOrderG K (a0 3) g3, bWorldG K (a1 0) ((a1 1) 0) ((a1 2) 0) ((a1 3) 0) g4, bFairG K (a1 1) g5, bFairG K (a1 2) g6, bNotesG K (a1 3) g7, bNextStallG K a2 (fun j => some (f8_rules j 0)) f8_images r8_tape r8_cursor r8_world r8_past r8_trials g8] ++ (fam 6 (fun j => bRuleG K (f8_rules j) (p8_rules0 j)) ++ []))) (cFair_gon (a0 := (a0 1)) (z0_lasts := q18.1) (z0_keeps := q18.2.1) (z0_stalls := q18.2.2.1) (z0_buyers := q18.2.2.2.1) (z0_minute := q18.2.2.2.2.1) (z0_goods := q18.2.2.2.2.2.1) (z0_price := q18.2.2.2.2.2.2.1) (z0_tongue := q18.2.2.2.2.2.2.2.1) (z0_till := q18.2.2.2.2.2.2.2.2.1) (z0_wealth := q18.2.2.2.2.2.2.2.2.2.1) (z0_sold := q18.2.2.2.2.2.2.2.2.2.2.1) (z0_ring := q18.2.2.2.2.2.2.2.2.2.2.2.1) (z0_grudges := q18.2.2.2.2.2.2.2.2.2.2.2.2.1) (z0_purse := q18.2.2.2.2.2.2.2.2.2.2.2.2.2.1) (z0_came := q18.2.2.2.2.2.2.2.2.2.2.2.2.2.2.1) (z0_had := q18.2.2.2.2.2.2.2.2.2.2.2.2.2.2.2.1) (z0_seller := q18.2.2.2.2.2.2.2.2.2.2.2.2.2.2.2.2.1) (z0_praise := q18.2.2.2.2.2.2.2.2.2.2.2.2.2.2.2.2.2.1) (z0_borne := q18.2.2.2.2.2.2.2.2.2.2.2.2.2.2.2.2.2.2) h20) rfl rfl (Nat.le_of_ble_eq_true rfl) kFair_gon (List.mem_of_getElem? (i := 57) rfl) (by decide) (by decide) rfl rfl rfl rfl rfl rfl rfl dX9_findLook_66 ?_
            refine r_pop dX9_findLook_69 rfl ?_
            refine r_aload_n 1 dX9_findLook_70 rfl ?_
            refine gTrials_fair 0 rfl (tb_in (i := 9) (j := 23) rfl rfl) dX9_findLook_71 ?_
            refine gFair_tillN 1 rfl (List.mem_of_getElem? (i := 31) rfl) dX9_findLook_74 ?_
            refine r_iconst (x := (0 : Int32)) dX9_findLook_77 (by decide) ?_
            refine r_aload_n 1 dX9_findLook_78 rfl ?_
            refine gTrials_tills 0 rfl (tb_in (i := 10) (j := 0) rfl rfl) dX9_findLook_79 ?_
            refine r_iload 6 dX9_findLook_82 rfl ?_
            refine r_bipush (x := (6 : Int32)) dX9_findLook_84 (by decide) ?_
            refine r_imul dX9_findLook_86 ?_
            refine r_bipush (x := (6 : Int32)) dX9_findLook_87 (by decide) ?_
            obtain ⟨h21, h⟩ := rq_some h
            obtain ⟨u21, e21, h⟩ := lt_some h
            refine b_copy (bs1 := ([bTrials K (a0 0) ((a0 1) 0) ((a0 2) 0) ((a0 3) 0) g0.1 g0.2.1 g0.2.2.1 g0.2.2.2.1 u21, bFair K (a0 1) q18.1 q18.2.1 q18.2.2.1 q18.2.2.2.1 q20.2.1 q20.2.2.1 q18.2.2.2.2.2.2.1 q18.2.2.2.2.2.2.2.1 q20.2.2.2.1 q20.2.2.2.2.1 q20.2.2.2.2.2.1 q18.2.2.2.2.2.2.2.2.2.2.2.1 q18.2.2.2.2.2.2.2.2.2.2.2.2.1 q20.2.2.2.2.2.2.1 q18.2.2.2.2.2.2.2.2.2.2.2.2.2.2.1 q20.2.2.2.2.2.2.2 q18.2.2.2.2.2.2.2.2.2.2.2.2.2.2.2.2.1 q18.2.2.2.2.2.2.2.2.2.2.2.2.2.2.2.2.2.1 q18.2.2.2.2.2.2.2.2.2.2.2.2.2.2.2.2.2.2, bOrderG K (a0 2) g2, bOrderG K (a0 3) g3, bWorldG K (a1 0) ((a1 1) 0) ((a1 2) 0) ((a1 3) 0) g4, bFairG K (a1 1) g5, bFairG K (a1 2) g6, bNotesG K (a1 3) g7, bNextStallG K a2 (fun j => some (f8_rules j 0)) f8_images r8_tape r8_cursor r8_world r8_past r8_trials g8] ++ (fam 6 (fun j => bRuleG K (f8_rules j) (p8_rules0 j)) ++ []))) (ty := .int) 1 4 0 5 1 e21 h21 (fun _ _ => rfl) rfl rfl rfl rfl rfl rfl rfl (tb_in (i := 11) (j := 3) rfl rfl) (tb_in (i := 0) (j := 11) rfl rfl) (tb_in (i := 0) (j := 12) rfl rfl) (tb_in (i := 0) (j := 13) rfl rfl) (by decide) (Nat.le_of_ble_eq_true rfl) dX9_findLook_89 ?_
            refine r_iinc (y := (x5 + (1 : Int32))) (lv' := [(5, .int (x5 + (1 : Int32))), (7, .null), (0, .ref ((a0 0) 0)), (1, .ref ((a1 0) 0)), (2, .ref (a2 1)), (3, .int x3), (4, .int x4), (6, .int x6)]) 6 dX9_findLook_92 rfl rfl (Nat.le_of_ble_eq_true rfl) rfl ?_
            refine r_iinc (y := (x6 + (1 : Int32))) (lv' := [(6, .int (x6 + (1 : Int32))), (5, .int (x5 + (1 : Int32))), (7, .null), (0, .ref ((a0 0) 0)), (1, .ref ((a1 0) 0)), (2, .ref (a2 1)), (3, .int x3), (4, .int x4)]) 7 dX9_findLook_95 rfl rfl (Nat.le_of_ble_eq_true rfl) rfl ?_
            refine r_goto 6 dX9_findLook_98 (by decide) ?_
            refine r_sub (lv' := [(0, .ref ((a0 0) 0)), (1, .ref ((a1 0) 0)), (2, .ref (a2 1)), (3, .int x3), (4, .int x4), (5, .int (x5 + (1 : Int32))), (6, .int (x6 + (1 : Int32)))]) [3, 4, 5, 6, 7, 1, 0] rfl ?_
            exact ih (x5 + (1 : Int32)) (x6 + (1 : Int32)) (g0.1, g0.2.1, g0.2.2.1, g0.2.2.2.1, u21) (q18.1, q18.2.1, q18.2.2.1, q18.2.2.2.1, q20.2.1, q20.2.2.1, q18.2.2.2.2.2.2.1, q18.2.2.2.2.2.2.2.1, q20.2.2.2.1, q20.2.2.2.2.1, q20.2.2.2.2.2.1, q18.2.2.2.2.2.2.2.2.2.2.2.1, q18.2.2.2.2.2.2.2.2.2.2.2.2.1, q20.2.2.2.2.2.2.1, q18.2.2.2.2.2.2.2.2.2.2.2.2.2.2.1, q20.2.2.2.2.2.2.2, q18.2.2.2.2.2.2.2.2.2.2.2.2.2.2.2.2.1, q18.2.2.2.2.2.2.2.2.2.2.2.2.2.2.2.2.2.1, q18.2.2.2.2.2.2.2.2.2.2.2.2.2.2.2.2.2.2) p8_rules0 h
          · replace h := it_pos c17 h
            refine r_goto 95 dX9_findLook_47 (by decide) ?_
            refine r_iinc (y := (x6 + (1 : Int32))) (lv' := [(6, .int (x6 + (1 : Int32))), (7, .null), (0, .ref ((a0 0) 0)), (1, .ref ((a1 0) 0)), (2, .ref (a2 1)), (3, .int x3), (4, .int x4), (5, .int x5)]) 7 dX9_findLook_95 rfl rfl (Nat.le_of_ble_eq_true rfl) rfl ?_
            refine r_goto 6 dX9_findLook_98 (by decide) ?_
            refine r_sub (lv' := [(0, .ref ((a0 0) 0)), (1, .ref ((a1 0) 0)), (2, .ref (a2 1)), (3, .int x3), (4, .int x4), (5, .int x5), (6, .int (x6 + (1 : Int32)))]) [2, 3, 4, 5, 6, 7, 0] rfl ?_
            exact ih x5 (x6 + (1 : Int32)) g0 q16.2 p8_rules0 h
        | some j14 =>
          replace h := mt_s h
          obtain ⟨hg14, h⟩ := rq_some h
          have hj14 := of_decide_eq_true hg14
          refine r_st (st' := [.ref (f8_rules j14 0)]) rfl ?_
          refine r_astore (lv' := [(7, .ref (f8_rules j14 0)), (0, .ref ((a0 0) 0)), (1, .ref ((a1 0) 0)), (2, .ref (a2 1)), (3, .int x3), (4, .int x4), (5, .int x5), (6, .int x6)]) dX9_findLook_25 (Nat.le_of_ble_eq_true rfl) rfl ?_
          refine r_aload_n 2 dX9_findLook_27 rfl ?_
          refine gWorld_notesN 4 rfl (List.mem_of_getElem? (i := 57) rfl) dX9_findLook_28 ?_
          refine r_aload_n 1 dX9_findLook_31 rfl ?_
          refine r_aload_n 2 dX9_findLook_32 rfl ?_
          refine gWorld_toldN 4 rfl (List.mem_of_getElem? (i := 54) rfl) dX9_findLook_33 ?_
          obtain ⟨q22, h22, h⟩ := bd_some h
          refine b_callV (isC := [0, 1, 2, 3, 5]) (ci := 7)  (st := [.ref ((a1 3) 0)]) (bs1 := ([bTrialsG K (a0 0) ((a0 1) 0) ((a0 2) 0) ((a0 3) 0) g0, bFairG K (a0 1) q22, bOrderG K (a0 2) g2, bOrderG K (a0 3) g3, bWorldG K (a1 0) ((a1 1) 0) ((a1 2) 0) ((a1 3) 0) g4, bFairG K (a1 1) g5, bFairG K (a1 2) g6, bNotesG K (a1 3) g7, bNextStallG K a2 (fun j => some (f8_rules j 0)) f8_images r8_tape r8_cursor r8_world r8_past r8_trials g8] ++ (fam 6 (fun j => bRuleG K (f8_rules j) (p8_rules0 j)) ++ []))) (cTrials_from (a0 := a0) (a1 := (a1 1)) (g0 := g0) (g1 := g1) (g2 := g2) (g3 := g3) (g4 := g5) h22) rfl rfl (Nat.le_of_ble_eq_true rfl) kTrials_from (tb_in (i := 10) (j := 8) rfl rfl) (by decide) (by decide) rfl rfl rfl rfl rfl rfl rfl dX9_findLook_36 ?_
          refine r_aload 0 dX9_findLook_39 rfl ?_
          obtain ⟨q23, h23, h⟩ := bd_some h
          refine b_callVN (isC := [7, 1, 9 + j14]) (ci := 2)  (st := []) (bs1 := ([bTrialsG K (a0 0) ((a0 1) 0) ((a0 2) 0) ((a0 3) 0) g0, bFairG K (a0 1) q23.2.1, bOrderG K (a0 2) g2, bOrderG K (a0 3) g3, bWorldG K (a1 0) ((a1 1) 0) ((a1 2) 0) ((a1 3) 0) g4, bFairG K (a1 1) g5, bFairG K (a1 2) g6, bNotesG K (a1 3) g7, bNextStallG K a2 (fun j => some (f8_rules j 0)) f8_images r8_tape r8_cursor r8_world r8_past r8_trials g8] ++ (fam 6 (fun j => bRuleG K (f8_rules j) ((va_up p8_rules0 j14 q23.2.2) j)) ++ []))) (cNotes_fitrr (a0 := (a1 3)) (a1 := (a0 1)) (a2 := f8_rules j14) (g0 := g7) (g1 := q22) (g2 := (p8_rules0 j14)) h23) rfl rfl (Nat.le_of_ble_eq_true rfl) kNotes_fitrr (List.mem_of_getElem? (i := 76) rfl) (by decide) (by simp only [List.nodup_cons, List.mem_cons, List.not_mem_nil, or_false, not_or, List.nodup_nil, not_false_eq_true, and_true]; omega) (map_s (rfl) (map_s (rfl) (map_s (fq0 (B := fun j g => bRuleG K (f8_rules j) g) (l := [bTrialsG K (a0 0) ((a0 1) 0) ((a0 2) 0) ((a0 3) 0) g0, bFairG K (a0 1) q22, bOrderG K (a0 2) g2, bOrderG K (a0 3) g3, bWorldG K (a1 0) ((a1 1) 0) ((a1 2) 0) ((a1 3) 0) g4, bFairG K (a1 1) g5, bFairG K (a1 2) g6, bNotesG K (a1 3) g7, bNextStallG K a2 (fun j => some (f8_rules j 0)) f8_images r8_tape r8_cursor r8_world r8_past r8_trials g8]) rfl hj14) map_n))) rfl (stm_s (bs1 := ([bTrialsG K (a0 0) ((a0 1) 0) ((a0 2) 0) ((a0 3) 0) g0, bFairG K (a0 1) q22, bOrderG K (a0 2) g2, bOrderG K (a0 3) g3, bWorldG K (a1 0) ((a1 1) 0) ((a1 2) 0) ((a1 3) 0) g4, bFairG K (a1 1) g5, bFairG K (a1 2) g6, bNotesG K (a1 3) g7, bNextStallG K a2 (fun j => some (f8_rules j 0)) f8_images r8_tape r8_cursor r8_world r8_past r8_trials g8] ++ (fam 6 (fun j => bRuleG K (f8_rules j) (p8_rules0 j)) ++ []))) (rfl) (stm_s (bs1 := ([bTrialsG K (a0 0) ((a0 1) 0) ((a0 2) 0) ((a0 3) 0) g0, bFairG K (a0 1) q23.2.1, bOrderG K (a0 2) g2, bOrderG K (a0 3) g3, bWorldG K (a1 0) ((a1 1) 0) ((a1 2) 0) ((a1 3) 0) g4, bFairG K (a1 1) g5, bFairG K (a1 2) g6, bNotesG K (a1 3) g7, bNextStallG K a2 (fun j => some (f8_rules j 0)) f8_images r8_tape r8_cursor r8_world r8_past r8_trials g8] ++ (fam 6 (fun j => bRuleG K (f8_rules j) (p8_rules0 j)) ++ []))) (rfl) (stm_s (bs1 := ([bTrialsG K (a0 0) ((a0 1) 0) ((a0 2) 0) ((a0 3) 0) g0, bFairG K (a0 1) q23.2.1, bOrderG K (a0 2) g2, bOrderG K (a0 3) g3, bWorldG K (a1 0) ((a1 1) 0) ((a1 2) 0) ((a1 3) 0) g4, bFairG K (a1 1) g5, bFairG K (a1 2) g6, bNotesG K (a1 3) g7, bNextStallG K a2 (fun j => some (f8_rules j 0)) f8_images r8_tape r8_cursor r8_world r8_past r8_trials g8] ++ (fam 6 (fun j => bRuleG K (f8_rules j) ((va_up p8_rules0 j14 q23.2.2) j)) ++ []))) (fs0 (B := fun j g => bRuleG K (f8_rules j) g) (g := q23.2.2) (l := [bTrialsG K (a0 0) ((a0 1) 0) ((a0 2) 0) ((a0 3) 0) g0, bFairG K (a0 1) q23.2.1, bOrderG K (a0 2) g2, bOrderG K (a0 3) g3, bWorldG K (a1 0) ((a1 1) 0) ((a1 2) 0) ((a1 3) 0) g4, bFairG K (a1 1) g5, bFairG K (a1 2) g6, bNotesG K (a1 3) g7, bNextStallG K a2 (fun j => some (f8_rules j 0)) f8_images r8_tape r8_cursor r8_world r8_past r8_trials g8]) rfl hj14) stm_n))) rfl rfl rfl rfl dX9_findLook_41 ?_
          refine r_if_ne 50 dX9_findLook_44 (by decide) (fun c24 => ?_) (fun c24 => ?_)
          · replace h := it_neg c24 h
            refine r_aload_n 1 dX9_findLook_50 rfl ?_
            refine r_aload_n 2 dX9_findLook_51 rfl ?_
            refine gWorld_toldN 4 rfl (List.mem_of_getElem? (i := 54) rfl) dX9_findLook_52 ?_
            obtain ⟨q25, h25, h⟩ := bd_some h
            refine b_callV (isC := [0, 1, 2, 3, 5]) (ci := 7)  (st := []) (bs1 := ([bTrialsG K (a0 0) ((a0 1) 0) ((a0 2) 0) ((a0 3) 0) g0, bFairG K (a0 1) q25, bOrderG K (a0 2) g2, bOrderG K (a0 3) g3, bWorldG K (a1 0) ((a1 1) 0) ((a1 2) 0) ((a1 3) 0) g4, bFairG K (a1 1) g5, bFairG K (a1 2) g6, bNotesG K (a1 3) g7, bNextStallG K a2 (fun j => some (f8_rules j 0)) f8_images r8_tape r8_cursor r8_world r8_past r8_trials g8] ++ (fam 6 (fun j => bRuleG K (f8_rules j) ((va_up p8_rules0 j14 q23.2.2) j)) ++ []))) (cTrials_from (a0 := a0) (a1 := (a1 1)) (g0 := g0) (g1 := q23.2.1) (g2 := g2) (g3 := g3) (g4 := g5) h25) rfl rfl (Nat.le_of_ble_eq_true rfl) kTrials_from (tb_in (i := 10) (j := 8) rfl rfl) (by decide) (by decide) rfl rfl rfl rfl rfl rfl rfl dX9_findLook_55 ?_
            refine r_aload 0 dX9_findLook_58 rfl ?_
            refine r_iload 5 dX9_findLook_60 rfl ?_
            obtain ⟨q26, h26, h⟩ := bd_some h
            refine b_callSN (isC := []) (st := [.ref (f8_rules j14 0), .ref ((a0 1) 0)]) (bs1 := ([bTrialsG K (a0 0) ((a0 1) 0) ((a0 2) 0) ((a0 3) 0) g0, bFairG K (a0 1) q25, bOrderG K (a0 2) g2, bOrderG K (a0 3) g3, bWorldG K (a1 0) ((a1 1) 0) ((a1 2) 0) ((a1 3) 0) g4, bFairG K (a1 1) g5, bFairG K (a1 2) g6, bNotesG K (a1 3) g7, bNextStallG K a2 (fun j => some (f8_rules j 0)) f8_images r8_tape r8_cursor r8_world r8_past r8_trials g8] ++ (fam 6 (fun j => bRuleG K (f8_rules j) ((va_up p8_rules0 j14 q23.2.2) j)) ++ []))) (cNotes_passedBehind   h26) rfl rfl (Nat.le_of_ble_eq_true rfl) kNotes_passedBehind (List.mem_of_getElem? (i := 79) rfl) (by decide) (by decide) rfl rfl rfl dX9_findLook_62 ?_
            refine r_iconst (x := (-1 : Int32)) dX9_findLook_65 (by decide) ?_
            obtain ⟨q27, h27, h⟩ := bd_some h
            refine b_callVN (isC := [1, 9 + j14]) (ci := 1)  (st := []) (bs1 := ([bTrialsG K (a0 0) ((a0 1) 0) ((a0 2) 0) ((a0 3) 0) g0, bFair K (a0 1) q25.1 q25.2.1 q25.2.2.1 q25.2.2.2.1 q27.2.1 q27.2.2.1 q25.2.2.2.2.2.2.1 q25.2.2.2.2.2.2.2.1 q27.2.2.2.1 q27.2.2.2.2.1 q27.2.2.2.2.2.1 q25.2.2.2.2.2.2.2.2.2.2.2.1 q25.2.2.2.2.2.2.2.2.2.2.2.2.1 q27.2.2.2.2.2.2.1 q25.2.2.2.2.2.2.2.2.2.2.2.2.2.2.1 q27.2.2.2.2.2.2.2.1 q25.2.2.2.2.2.2.2.2.2.2.2.2.2.2.2.2.1 q25.2.2.2.2.2.2.2.2.2.2.2.2.2.2.2.2.2.1 q25.2.2.2.2.2.2.2.2.2.2.2.2.2.2.2.2.2.2, bOrderG K (a0 2) g2, bOrderG K (a0 3) g3, bWorldG K (a1 0) ((a1 1) 0) ((a1 2) 0) ((a1 3) 0) g4, bFairG K (a1 1) g5, bFairG K (a1 2) g6, bNotesG K (a1 3) g7, bNextStallG K a2 (fun j => some (f8_rules j 0)) f8_images r8_tape r8_cursor r8_world r8_past r8_trials g8] ++ (fam 6 (fun j => bRuleG K (f8_rules j) ((va_up (va_up p8_rules0 j14 q23.2.2) j14 (((va_up p8_rules0 j14 q23.2.2) j14).1, ((va_up p8_rules0 j14 q23.2.2) j14).2.1, ((va_up p8_rules0 j14 q23.2.2) j14).2.2.1, ((va_up p8_rules0 j14 q23.2.2) j14).2.2.2.1, ((va_up p8_rules0 j14 q23.2.2) j14).2.2.2.2.1, ((va_up p8_rules0 j14 q23.2.2) j14).2.2.2.2.2.1, ((va_up p8_rules0 j14 q23.2.2) j14).2.2.2.2.2.2.1, ((va_up p8_rules0 j14 q23.2.2) j14).2.2.2.2.2.2.2.1, q27.2.2.2.2.2.2.2.2.1, q27.2.2.2.2.2.2.2.2.2)) j)) ++ []))) (cFair_gor (a0 := (a0 1)) (a1 := f8_rules j14) (z0_lasts := q25.1) (z0_keeps := q25.2.1) (z0_stalls := q25.2.2.1) (z0_buyers := q25.2.2.2.1) (z0_minute := q25.2.2.2.2.1) (z0_goods := q25.2.2.2.2.2.1) (z0_price := q25.2.2.2.2.2.2.1) (z0_tongue := q25.2.2.2.2.2.2.2.1) (z0_till := q25.2.2.2.2.2.2.2.2.1) (z0_wealth := q25.2.2.2.2.2.2.2.2.2.1) (z0_sold := q25.2.2.2.2.2.2.2.2.2.2.1) (z0_ring := q25.2.2.2.2.2.2.2.2.2.2.2.1) (z0_grudges := q25.2.2.2.2.2.2.2.2.2.2.2.2.1) (z0_purse := q25.2.2.2.2.2.2.2.2.2.2.2.2.2.1) (z0_came := q25.2.2.2.2.2.2.2.2.2.2.2.2.2.2.1) (z0_had := q25.2.2.2.2.2.2.2.2.2.2.2.2.2.2.2.1) (z0_seller := q25.2.2.2.2.2.2.2.2.2.2.2.2.2.2.2.2.1) (z0_praise := q25.2.2.2.2.2.2.2.2.2.2.2.2.2.2.2.2.2.1) (z0_borne := q25.2.2.2.2.2.2.2.2.2.2.2.2.2.2.2.2.2.2) (z1_steps := ((va_up p8_rules0 j14 q23.2.2) j14).1) (z1_size := ((va_up p8_rules0 j14 q23.2.2) j14).2.1) (z1_sumFrom := ((va_up p8_rules0 j14 q23.2.2) j14).2.2.1) (z1_testFrom := ((va_up p8_rules0 j14 q23.2.2) j14).2.2.2.1) (z1_testTo := ((va_up p8_rules0 j14 q23.2.2) j14).2.2.2.2.1) (z1_clauses := ((va_up p8_rules0 j14 q23.2.2) j14).2.2.2.2.2.1) (z1_parts := ((va_up p8_rules0 j14 q23.2.2) j14).2.2.2.2.2.2.1) (z1_readsTime := ((va_up p8_rules0 j14 q23.2.2) j14).2.2.2.2.2.2.2.1) (z1_words := ((va_up p8_rules0 j14 q23.2.2) j14).2.2.2.2.2.2.2.2.1) (z1_stack := ((va_up p8_rules0 j14 q23.2.2) j14).2.2.2.2.2.2.2.2.2) h27) rfl rfl (Nat.le_of_ble_eq_true rfl) kFair_gor (List.mem_of_getElem? (i := 57) rfl) (by decide) (by simp only [List.nodup_cons, List.mem_cons, List.not_mem_nil, or_false, not_or, List.nodup_nil, not_false_eq_true, and_true]; omega) (map_s (rfl) (map_s (fq0 (B := fun j g => bRuleG K (f8_rules j) g) (l := [bTrialsG K (a0 0) ((a0 1) 0) ((a0 2) 0) ((a0 3) 0) g0, bFairG K (a0 1) q25, bOrderG K (a0 2) g2, bOrderG K (a0 3) g3, bWorldG K (a1 0) ((a1 1) 0) ((a1 2) 0) ((a1 3) 0) g4, bFairG K (a1 1) g5, bFairG K (a1 2) g6, bNotesG K (a1 3) g7, bNextStallG K a2 (fun j => some (f8_rules j 0)) f8_images r8_tape r8_cursor r8_world r8_past r8_trials g8]) rfl hj14) map_n)) rfl (stm_s (bs1 := ([bTrialsG K (a0 0) ((a0 1) 0) ((a0 2) 0) ((a0 3) 0) g0, bFair K (a0 1) q25.1 q25.2.1 q25.2.2.1 q25.2.2.2.1 q27.2.1 q27.2.2.1 q25.2.2.2.2.2.2.1 q25.2.2.2.2.2.2.2.1 q27.2.2.2.1 q27.2.2.2.2.1 q27.2.2.2.2.2.1 q25.2.2.2.2.2.2.2.2.2.2.2.1 q25.2.2.2.2.2.2.2.2.2.2.2.2.1 q27.2.2.2.2.2.2.1 q25.2.2.2.2.2.2.2.2.2.2.2.2.2.2.1 q27.2.2.2.2.2.2.2.1 q25.2.2.2.2.2.2.2.2.2.2.2.2.2.2.2.2.1 q25.2.2.2.2.2.2.2.2.2.2.2.2.2.2.2.2.2.1 q25.2.2.2.2.2.2.2.2.2.2.2.2.2.2.2.2.2.2, bOrderG K (a0 2) g2, bOrderG K (a0 3) g3, bWorldG K (a1 0) ((a1 1) 0) ((a1 2) 0) ((a1 3) 0) g4, bFairG K (a1 1) g5, bFairG K (a1 2) g6, bNotesG K (a1 3) g7, bNextStallG K a2 (fun j => some (f8_rules j 0)) f8_images r8_tape r8_cursor r8_world r8_past r8_trials g8] ++ (fam 6 (fun j => bRuleG K (f8_rules j) ((va_up p8_rules0 j14 q23.2.2) j)) ++ []))) (rfl) (stm_s (bs1 := ([bTrialsG K (a0 0) ((a0 1) 0) ((a0 2) 0) ((a0 3) 0) g0, bFair K (a0 1) q25.1 q25.2.1 q25.2.2.1 q25.2.2.2.1 q27.2.1 q27.2.2.1 q25.2.2.2.2.2.2.1 q25.2.2.2.2.2.2.2.1 q27.2.2.2.1 q27.2.2.2.2.1 q27.2.2.2.2.2.1 q25.2.2.2.2.2.2.2.2.2.2.2.1 q25.2.2.2.2.2.2.2.2.2.2.2.2.1 q27.2.2.2.2.2.2.1 q25.2.2.2.2.2.2.2.2.2.2.2.2.2.2.1 q27.2.2.2.2.2.2.2.1 q25.2.2.2.2.2.2.2.2.2.2.2.2.2.2.2.2.1 q25.2.2.2.2.2.2.2.2.2.2.2.2.2.2.2.2.2.1 q25.2.2.2.2.2.2.2.2.2.2.2.2.2.2.2.2.2.2, bOrderG K (a0 2) g2, bOrderG K (a0 3) g3, bWorldG K (a1 0) ((a1 1) 0) ((a1 2) 0) ((a1 3) 0) g4, bFairG K (a1 1) g5, bFairG K (a1 2) g6, bNotesG K (a1 3) g7, bNextStallG K a2 (fun j => some (f8_rules j 0)) f8_images r8_tape r8_cursor r8_world r8_past r8_trials g8] ++ (fam 6 (fun j => bRuleG K (f8_rules j) ((va_up (va_up p8_rules0 j14 q23.2.2) j14 (((va_up p8_rules0 j14 q23.2.2) j14).1, ((va_up p8_rules0 j14 q23.2.2) j14).2.1, ((va_up p8_rules0 j14 q23.2.2) j14).2.2.1, ((va_up p8_rules0 j14 q23.2.2) j14).2.2.2.1, ((va_up p8_rules0 j14 q23.2.2) j14).2.2.2.2.1, ((va_up p8_rules0 j14 q23.2.2) j14).2.2.2.2.2.1, ((va_up p8_rules0 j14 q23.2.2) j14).2.2.2.2.2.2.1, ((va_up p8_rules0 j14 q23.2.2) j14).2.2.2.2.2.2.2.1, q27.2.2.2.2.2.2.2.2.1, q27.2.2.2.2.2.2.2.2.2)) j)) ++ []))) (fs0 (B := fun j g => bRuleG K (f8_rules j) g) (g := (((va_up p8_rules0 j14 q23.2.2) j14).1, ((va_up p8_rules0 j14 q23.2.2) j14).2.1, ((va_up p8_rules0 j14 q23.2.2) j14).2.2.1, ((va_up p8_rules0 j14 q23.2.2) j14).2.2.2.1, ((va_up p8_rules0 j14 q23.2.2) j14).2.2.2.2.1, ((va_up p8_rules0 j14 q23.2.2) j14).2.2.2.2.2.1, ((va_up p8_rules0 j14 q23.2.2) j14).2.2.2.2.2.2.1, ((va_up p8_rules0 j14 q23.2.2) j14).2.2.2.2.2.2.2.1, q27.2.2.2.2.2.2.2.2.1, q27.2.2.2.2.2.2.2.2.2)) (l := [bTrialsG K (a0 0) ((a0 1) 0) ((a0 2) 0) ((a0 3) 0) g0, bFair K (a0 1) q25.1 q25.2.1 q25.2.2.1 q25.2.2.2.1 q27.2.1 q27.2.2.1 q25.2.2.2.2.2.2.1 q25.2.2.2.2.2.2.2.1 q27.2.2.2.1 q27.2.2.2.2.1 q27.2.2.2.2.2.1 q25.2.2.2.2.2.2.2.2.2.2.2.1 q25.2.2.2.2.2.2.2.2.2.2.2.2.1 q27.2.2.2.2.2.2.1 q25.2.2.2.2.2.2.2.2.2.2.2.2.2.2.1 q27.2.2.2.2.2.2.2.1 q25.2.2.2.2.2.2.2.2.2.2.2.2.2.2.2.2.1 q25.2.2.2.2.2.2.2.2.2.2.2.2.2.2.2.2.2.1 q25.2.2.2.2.2.2.2.2.2.2.2.2.2.2.2.2.2.2, bOrderG K (a0 2) g2, bOrderG K (a0 3) g3, bWorldG K (a1 0) ((a1 1) 0) ((a1 2) 0) ((a1 3) 0) g4, bFairG K (a1 1) g5, bFairG K (a1 2) g6, bNotesG K (a1 3) g7, bNextStallG K a2 (fun j => some (f8_rules j 0)) f8_images r8_tape r8_cursor r8_world r8_past r8_trials g8]) rfl hj14) stm_n)) rfl rfl rfl rfl dX9_findLook_66 ?_
            refine r_pop dX9_findLook_69 rfl ?_
            refine r_aload_n 1 dX9_findLook_70 rfl ?_
            refine gTrials_fair 0 rfl (tb_in (i := 9) (j := 23) rfl rfl) dX9_findLook_71 ?_
            refine gFair_tillN 1 rfl (List.mem_of_getElem? (i := 31) rfl) dX9_findLook_74 ?_
            refine r_iconst (x := (0 : Int32)) dX9_findLook_77 (by decide) ?_
            refine r_aload_n 1 dX9_findLook_78 rfl ?_
            refine gTrials_tills 0 rfl (tb_in (i := 10) (j := 0) rfl rfl) dX9_findLook_79 ?_
            refine r_iload 6 dX9_findLook_82 rfl ?_
            refine r_bipush (x := (6 : Int32)) dX9_findLook_84 (by decide) ?_
            refine r_imul dX9_findLook_86 ?_
            refine r_bipush (x := (6 : Int32)) dX9_findLook_87 (by decide) ?_
            obtain ⟨h28, h⟩ := rq_some h
            obtain ⟨u28, e28, h⟩ := lt_some h
            refine b_copy (bs1 := ([bTrials K (a0 0) ((a0 1) 0) ((a0 2) 0) ((a0 3) 0) g0.1 g0.2.1 g0.2.2.1 g0.2.2.2.1 u28, bFair K (a0 1) q25.1 q25.2.1 q25.2.2.1 q25.2.2.2.1 q27.2.1 q27.2.2.1 q25.2.2.2.2.2.2.1 q25.2.2.2.2.2.2.2.1 q27.2.2.2.1 q27.2.2.2.2.1 q27.2.2.2.2.2.1 q25.2.2.2.2.2.2.2.2.2.2.2.1 q25.2.2.2.2.2.2.2.2.2.2.2.2.1 q27.2.2.2.2.2.2.1 q25.2.2.2.2.2.2.2.2.2.2.2.2.2.2.1 q27.2.2.2.2.2.2.2.1 q25.2.2.2.2.2.2.2.2.2.2.2.2.2.2.2.2.1 q25.2.2.2.2.2.2.2.2.2.2.2.2.2.2.2.2.2.1 q25.2.2.2.2.2.2.2.2.2.2.2.2.2.2.2.2.2.2, bOrderG K (a0 2) g2, bOrderG K (a0 3) g3, bWorldG K (a1 0) ((a1 1) 0) ((a1 2) 0) ((a1 3) 0) g4, bFairG K (a1 1) g5, bFairG K (a1 2) g6, bNotesG K (a1 3) g7, bNextStallG K a2 (fun j => some (f8_rules j 0)) f8_images r8_tape r8_cursor r8_world r8_past r8_trials g8] ++ (fam 6 (fun j => bRuleG K (f8_rules j) ((va_up (va_up p8_rules0 j14 q23.2.2) j14 (((va_up p8_rules0 j14 q23.2.2) j14).1, ((va_up p8_rules0 j14 q23.2.2) j14).2.1, ((va_up p8_rules0 j14 q23.2.2) j14).2.2.1, ((va_up p8_rules0 j14 q23.2.2) j14).2.2.2.1, ((va_up p8_rules0 j14 q23.2.2) j14).2.2.2.2.1, ((va_up p8_rules0 j14 q23.2.2) j14).2.2.2.2.2.1, ((va_up p8_rules0 j14 q23.2.2) j14).2.2.2.2.2.2.1, ((va_up p8_rules0 j14 q23.2.2) j14).2.2.2.2.2.2.2.1, q27.2.2.2.2.2.2.2.2.1, q27.2.2.2.2.2.2.2.2.2)) j)) ++ []))) (ty := .int) 1 4 0 5 1 e28 h28 (fun _ _ => rfl) rfl rfl rfl rfl rfl rfl rfl (tb_in (i := 11) (j := 3) rfl rfl) (tb_in (i := 0) (j := 11) rfl rfl) (tb_in (i := 0) (j := 12) rfl rfl) (tb_in (i := 0) (j := 13) rfl rfl) (by decide) (Nat.le_of_ble_eq_true rfl) dX9_findLook_89 ?_
            refine r_iinc (y := (x5 + (1 : Int32))) (lv' := [(5, .int (x5 + (1 : Int32))), (7, .ref (f8_rules j14 0)), (0, .ref ((a0 0) 0)), (1, .ref ((a1 0) 0)), (2, .ref (a2 1)), (3, .int x3), (4, .int x4), (6, .int x6)]) 6 dX9_findLook_92 rfl rfl (Nat.le_of_ble_eq_true rfl) rfl ?_
            refine r_iinc (y := (x6 + (1 : Int32))) (lv' := [(6, .int (x6 + (1 : Int32))), (5, .int (x5 + (1 : Int32))), (7, .ref (f8_rules j14 0)), (0, .ref ((a0 0) 0)), (1, .ref ((a1 0) 0)), (2, .ref (a2 1)), (3, .int x3), (4, .int x4)]) 7 dX9_findLook_95 rfl rfl (Nat.le_of_ble_eq_true rfl) rfl ?_
            refine r_goto 6 dX9_findLook_98 (by decide) ?_
            refine r_sub (lv' := [(0, .ref ((a0 0) 0)), (1, .ref ((a1 0) 0)), (2, .ref (a2 1)), (3, .int x3), (4, .int x4), (5, .int (x5 + (1 : Int32))), (6, .int (x6 + (1 : Int32)))]) [3, 4, 5, 6, 7, 1, 0] rfl ?_
            exact ih (x5 + (1 : Int32)) (x6 + (1 : Int32)) (g0.1, g0.2.1, g0.2.2.1, g0.2.2.2.1, u28) (q25.1, q25.2.1, q25.2.2.1, q25.2.2.2.1, q27.2.1, q27.2.2.1, q25.2.2.2.2.2.2.1, q25.2.2.2.2.2.2.2.1, q27.2.2.2.1, q27.2.2.2.2.1, q27.2.2.2.2.2.1, q25.2.2.2.2.2.2.2.2.2.2.2.1, q25.2.2.2.2.2.2.2.2.2.2.2.2.1, q27.2.2.2.2.2.2.1, q25.2.2.2.2.2.2.2.2.2.2.2.2.2.2.1, q27.2.2.2.2.2.2.2.1, q25.2.2.2.2.2.2.2.2.2.2.2.2.2.2.2.2.1, q25.2.2.2.2.2.2.2.2.2.2.2.2.2.2.2.2.2.1, q25.2.2.2.2.2.2.2.2.2.2.2.2.2.2.2.2.2.2) (va_up (va_up p8_rules0 j14 q23.2.2) j14 (((va_up p8_rules0 j14 q23.2.2) j14).1, ((va_up p8_rules0 j14 q23.2.2) j14).2.1, ((va_up p8_rules0 j14 q23.2.2) j14).2.2.1, ((va_up p8_rules0 j14 q23.2.2) j14).2.2.2.1, ((va_up p8_rules0 j14 q23.2.2) j14).2.2.2.2.1, ((va_up p8_rules0 j14 q23.2.2) j14).2.2.2.2.2.1, ((va_up p8_rules0 j14 q23.2.2) j14).2.2.2.2.2.2.1, ((va_up p8_rules0 j14 q23.2.2) j14).2.2.2.2.2.2.2.1, q27.2.2.2.2.2.2.2.2.1, q27.2.2.2.2.2.2.2.2.2)) h
          · replace h := it_pos c24 h
            refine r_goto 95 dX9_findLook_47 (by decide) ?_
            refine r_iinc (y := (x6 + (1 : Int32))) (lv' := [(6, .int (x6 + (1 : Int32))), (7, .ref (f8_rules j14 0)), (0, .ref ((a0 0) 0)), (1, .ref ((a1 0) 0)), (2, .ref (a2 1)), (3, .int x3), (4, .int x4), (5, .int x5)]) 7 dX9_findLook_95 rfl rfl (Nat.le_of_ble_eq_true rfl) rfl ?_
            refine r_goto 6 dX9_findLook_98 (by decide) ?_
            refine r_sub (lv' := [(0, .ref ((a0 0) 0)), (1, .ref ((a1 0) 0)), (2, .ref (a2 1)), (3, .int x3), (4, .int x4), (5, .int x5), (6, .int (x6 + (1 : Int32)))]) [2, 3, 4, 5, 6, 7, 0] rfl ?_
            exact ih x5 (x6 + (1 : Int32)) g0 q23.2.1 (va_up p8_rules0 j14 q23.2.2) h
def mTrials_findLookr_rules (x3 : Int32) (x4 : Int32) (g0 : tyTrials) (g1 : tyFair) (g5 : tyFair) (g7 : tyNotes) (p8_rules0 : Nat → tyRule) : Option (tyTrials × tyFair × (Nat → tyRule)) := mTrials_findLookr_rules_l6 g5 g7 x3 x4 FU (0 : Int32) (-1 : Int32) g0 g1 p8_rules0
set_option maxHeartbeats 4000000 in
set_option maxRecDepth 20000 in
theorem cTrials_findLookr_rules {q : tyTrials × tyFair × (Nat → tyRule)} {x3 : Int32} {x4 : Int32} (h : mTrials_findLookr_rules x3 x4 g0 g1 g5 g7 p8_rules0 = some q) : rMet l D Z (ty7 K) MTrials_findLookr_rules [.ref ((a0 0) 0), .ref ((a1 0) 0), .ref (a2 1), .int x3, .int x4] (List.flatten ([bTrialsG K (a0 0) ((a0 1) 0) ((a0 2) 0) ((a0 3) 0) g0, bFairG K (a0 1) g1, bOrderG K (a0 2) g2, bOrderG K (a0 3) g3, bWorldG K (a1 0) ((a1 1) 0) ((a1 2) 0) ((a1 3) 0) g4, bFairG K (a1 1) g5, bFairG K (a1 2) g6, bNotesG K (a1 3) g7, bNextStallG K a2 (fun j => some (f8_rules j 0)) f8_images r8_tape r8_cursor r8_world r8_past r8_trials g8] ++ (fam 6 (fun j => bRuleG K (f8_rules j) (p8_rules0 j)) ++ []))) (List.flatten ([bTrialsG K (a0 0) ((a0 1) 0) ((a0 2) 0) ((a0 3) 0) q.1, bFairG K (a0 1) q.2.1, bOrderG K (a0 2) g2, bOrderG K (a0 3) g3, bWorldG K (a1 0) ((a1 1) 0) ((a1 2) 0) ((a1 3) 0) g4, bFairG K (a1 1) g5, bFairG K (a1 2) g6, bNotesG K (a1 3) g7, bNextStallG K a2 (fun j => some (f8_rules j 0)) f8_images r8_tape r8_cursor r8_world r8_past r8_trials g8] ++ (fam 6 (fun j => bRuleG K (f8_rules j) (q.2.2 j)) ++ []))) none := by
  refine rMet.of (by decide) rfl (Nat.le_of_ble_eq_true rfl) ?_
  refine r_sub (lv' := [(0, .ref ((a0 0) 0)), (1, .ref ((a1 0) 0)), (2, .ref (a2 1)), (3, .int x3), (4, .int x4)]) [0, 1, 2, 3, 4] rfl ?_
  unfold mTrials_findLookr_rules at h
  refine r_iconst (x := (0 : Int32)) dX9_findLook_0 (by decide) ?_
  refine r_istore (lv' := [(5, .int (0 : Int32)), (0, .ref ((a0 0) 0)), (1, .ref ((a1 0) 0)), (2, .ref (a2 1)), (3, .int x3), (4, .int x4)]) dX9_findLook_1 (Nat.le_of_ble_eq_true rfl) rfl ?_
  refine r_iconst (x := (-1 : Int32)) dX9_findLook_3 (by decide) ?_
  refine r_istore (lv' := [(6, .int (-1 : Int32)), (5, .int (0 : Int32)), (0, .ref ((a0 0) 0)), (1, .ref ((a1 0) 0)), (2, .ref (a2 1)), (3, .int x3), (4, .int x4)]) dX9_findLook_4 (Nat.le_of_ble_eq_true rfl) rfl ?_
  refine r_sub (lv' := [(0, .ref ((a0 0) 0)), (1, .ref ((a1 0) 0)), (2, .ref (a2 1)), (3, .int x3), (4, .int x4), (5, .int (0 : Int32)), (6, .int (-1 : Int32))]) [2, 3, 4, 5, 6, 1, 0] rfl ?_
  exact cTrials_findLookr_rules_l6 (g5 := g5) (g7 := g7)  FU (0 : Int32) (-1 : Int32) g0 g1 p8_rules0 h
end
theorem dX11_feed_0 : decode cX11_feed 0 = .ok (.aload_n 0, 1) := by decide +kernel
theorem dX11_feed_1 : decode cX11_feed 1 = .ok (.getfield 10, 3) := by decide +kernel
theorem dX11_feed_4 : decode cX11_feed 4 = .ok (.getfield 63, 3) := by decide +kernel
theorem dX11_feed_7 : decode cX11_feed 7 = .ok (.bipush 20, 2) := by decide +kernel
theorem dX11_feed_9 : decode cX11_feed 9 = .ok (.iadd, 1) := by decide +kernel
theorem dX11_feed_10 : decode cX11_feed 10 = .ok (.sipush 400, 3) := by decide +kernel
theorem dX11_feed_13 : decode cX11_feed 13 = .ok (.if_icmp .le 5, 3) := by decide +kernel
theorem dX11_feed_16 : decode cX11_feed 16 = .ok (.iconst (-1), 1) := by decide +kernel
theorem dX11_feed_17 : decode cX11_feed 17 = .ok (.ireturn, 1) := by decide +kernel
theorem dX11_feed_18 : decode cX11_feed 18 = .ok (.aload_n 0, 1) := by decide +kernel
theorem dX11_feed_19 : decode cX11_feed 19 = .ok (.getfield 10, 3) := by decide +kernel
theorem dX11_feed_22 : decode cX11_feed 22 = .ok (.iload_n 1, 1) := by decide +kernel
theorem dX11_feed_23 : decode cX11_feed 23 = .ok (.invokevirtual 66, 3) := by decide +kernel
theorem dX11_feed_26 : decode cX11_feed 26 = .ok (.aload_n 0, 1) := by decide +kernel
theorem dX11_feed_27 : decode cX11_feed 27 = .ok (.getfield 10, 3) := by decide +kernel
theorem dX11_feed_30 : decode cX11_feed 30 = .ok (.iload_n 2, 1) := by decide +kernel
theorem dX11_feed_31 : decode cX11_feed 31 = .ok (.invokevirtual 66, 3) := by decide +kernel
theorem dX11_feed_34 : decode cX11_feed 34 = .ok (.aload_n 0, 1) := by decide +kernel
theorem dX11_feed_35 : decode cX11_feed 35 = .ok (.getfield 10, 3) := by decide +kernel
theorem dX11_feed_38 : decode cX11_feed 38 = .ok (.iload_n 3, 1) := by decide +kernel
theorem dX11_feed_39 : decode cX11_feed 39 = .ok (.invokevirtual 66, 3) := by decide +kernel
theorem dX11_feed_42 : decode cX11_feed 42 = .ok (.aload_n 0, 1) := by decide +kernel
theorem dX11_feed_43 : decode cX11_feed 43 = .ok (.getfield 10, 3) := by decide +kernel
theorem dX11_feed_46 : decode cX11_feed 46 = .ok (.iload 4, 2) := by decide +kernel
theorem dX11_feed_48 : decode cX11_feed 48 = .ok (.invokevirtual 66, 3) := by decide +kernel
theorem dX11_feed_51 : decode cX11_feed 51 = .ok (.aload_n 0, 1) := by decide +kernel
theorem dX11_feed_52 : decode cX11_feed 52 = .ok (.getfield 10, 3) := by decide +kernel
theorem dX11_feed_55 : decode cX11_feed 55 = .ok (.iload 5, 2) := by decide +kernel
theorem dX11_feed_57 : decode cX11_feed 57 = .ok (.invokevirtual 66, 3) := by decide +kernel
theorem dX11_feed_60 : decode cX11_feed 60 = .ok (.aload_n 0, 1) := by decide +kernel
theorem dX11_feed_61 : decode cX11_feed 61 = .ok (.getfield 10, 3) := by decide +kernel
theorem dX11_feed_64 : decode cX11_feed 64 = .ok (.getfield 63, 3) := by decide +kernel
theorem dX11_feed_67 : decode cX11_feed 67 = .ok (.ireturn, 1) := by decide +kernel
abbrev MNextStall_feed : rx_M := (RX11, yX11_feed, cX11_feed, 6, (some .int), 2)
theorem kNextStall_feed : rKv MNextStall_feed 5 := ⟨tb_in (i := 30) (j := 17) rfl rfl, tb_in (i := 30) (j := 18) rfl rfl, tb_in (i := 2) (j := 22) rfl rfl, tb_in (i := 13) (j := 13) rfl rfl, ⟨by decide, by decide, by decide +kernel⟩, by decide⟩
section
variable {a0 : Nat → Nat → Nat} {g0 : tyNextStall} {g1 : tyTape} {g2 : tyCursor} {g3 : tyWorld} {g4 : tyFair} {g5 : tyFair} {g6 : tyNotes} {g7 : tyPast} {g8 : tyTrials} {g9 : tyFair} {g10 : tyOrder} {g11 : tyOrder} {f0_rules : Nat → Option Nat} {f0_images : Nat → Option Nat} {f7_fairs : Nat → Option Nat}
def mNextStall_feed (x1 : Int32) (x2 : Int32) (x3 : Int32) (x4 : Int32) (x5 : Int32) (g1 : tyTape) : Option (Int32 × tyTape) := (if (g1.2 + (20 : Int32)) ≤ (400 : Int32) then (mTape_add x1 g1.1 g1.2).bind (fun q2 => (mTape_add x2 q2.1 q2.2).bind (fun q3 => (mTape_add x3 q3.1 q3.2).bind (fun q4 => (mTape_add x4 q4.1 q4.2).bind (fun q5 => (mTape_add x5 q5.1 q5.2).bind (fun q6 => some (q6.2, q6)))))) else some ((-1 : Int32), g1))
set_option maxHeartbeats 4000000 in
set_option maxRecDepth 20000 in
theorem cNextStall_feed {q : Int32 × tyTape} {x1 : Int32} {x2 : Int32} {x3 : Int32} {x4 : Int32} {x5 : Int32} (h : mNextStall_feed x1 x2 x3 x4 x5 g1 = some q) : rMet l D Z (ty7 K) MNextStall_feed [.ref ((a0 0) 0), .int x1, .int x2, .int x3, .int x4, .int x5] (List.flatten [bNextStallG K (a0 0) f0_rules f0_images ((a0 1) 0) ((a0 2) 0) ((a0 3) 0) ((a0 7) 0) ((a0 8) 0) g0, bTapeG K (a0 1) g1, bCursorG K (a0 2) g2, bWorldG K (a0 3) ((a0 4) 0) ((a0 5) 0) ((a0 6) 0) g3, bFairG K (a0 4) g4, bFairG K (a0 5) g5, bNotesG K (a0 6) g6, bPastG K (a0 7) f7_fairs g7, bTrialsG K (a0 8) ((a0 9) 0) ((a0 10) 0) ((a0 11) 0) g8, bFairG K (a0 9) g9, bOrderG K (a0 10) g10, bOrderG K (a0 11) g11]) (List.flatten [bNextStallG K (a0 0) f0_rules f0_images ((a0 1) 0) ((a0 2) 0) ((a0 3) 0) ((a0 7) 0) ((a0 8) 0) g0, bTapeG K (a0 1) q.2, bCursorG K (a0 2) g2, bWorldG K (a0 3) ((a0 4) 0) ((a0 5) 0) ((a0 6) 0) g3, bFairG K (a0 4) g4, bFairG K (a0 5) g5, bNotesG K (a0 6) g6, bPastG K (a0 7) f7_fairs g7, bTrialsG K (a0 8) ((a0 9) 0) ((a0 10) 0) ((a0 11) 0) g8, bFairG K (a0 9) g9, bOrderG K (a0 10) g10, bOrderG K (a0 11) g11]) (some (.int q.1)) := by
  refine rMet.of (by decide) rfl (Nat.le_of_ble_eq_true rfl) ?_
  refine r_sub (lv' := [(0, .ref ((a0 0) 0)), (1, .int x1), (2, .int x2), (3, .int x3), (4, .int x4), (5, .int x5)]) [0, 1, 2, 3, 4, 5] rfl ?_
  unfold mNextStall_feed at h
  refine r_aload_n 0 dX11_feed_0 rfl ?_
  refine gNextStall_tape 0 rfl (tb_in (i := 12) (j := 16) rfl rfl) dX11_feed_1 ?_
  refine gTape_sizeN 1 rfl (List.mem_of_getElem? (i := 2) rfl) dX11_feed_4 ?_
  refine r_bipush (x := (20 : Int32)) dX11_feed_7 (by decide) ?_
  refine r_iadd dX11_feed_9 ?_
  refine r_sipush (x := (400 : Int32)) dX11_feed_10 (by decide) ?_
  refine r_icmp_le 18 dX11_feed_13 (by decide) (fun c1 => ?_) (fun c1 => ?_)
  · replace h := it_pos c1 h
    refine r_aload_n 0 dX11_feed_18 rfl ?_
    refine gNextStall_tape 0 rfl (tb_in (i := 12) (j := 16) rfl rfl) dX11_feed_19 ?_
    refine r_iload_n 1 dX11_feed_22 rfl ?_
    obtain ⟨q2, h2, h⟩ := bd_some h
    refine b_callVN (isC := [1]) (ci := 6)  (st := []) (bs1 := [bNextStallG K (a0 0) f0_rules f0_images ((a0 1) 0) ((a0 2) 0) ((a0 3) 0) ((a0 7) 0) ((a0 8) 0) g0, bTapeG K (a0 1) q2, bCursorG K (a0 2) g2, bWorldG K (a0 3) ((a0 4) 0) ((a0 5) 0) ((a0 6) 0) g3, bFairG K (a0 4) g4, bFairG K (a0 5) g5, bNotesG K (a0 6) g6, bPastG K (a0 7) f7_fairs g7, bTrialsG K (a0 8) ((a0 9) 0) ((a0 10) 0) ((a0 11) 0) g8, bFairG K (a0 9) g9, bOrderG K (a0 10) g10, bOrderG K (a0 11) g11]) (cTape_add (a0 := (a0 1)) (z0_bytes := g1.1) (z0_size := g1.2) h2) rfl rfl (Nat.le_of_ble_eq_true rfl) kTape_add (List.mem_of_getElem? (i := 11) rfl) (by decide) (by decide) rfl rfl rfl rfl rfl rfl rfl dX11_feed_23 ?_
    refine r_aload_n 0 dX11_feed_26 rfl ?_
    refine gNextStall_tape 0 rfl (tb_in (i := 12) (j := 16) rfl rfl) dX11_feed_27 ?_
    refine r_iload_n 2 dX11_feed_30 rfl ?_
    obtain ⟨q3, h3, h⟩ := bd_some h
    refine b_callVN (isC := [1]) (ci := 6)  (st := []) (bs1 := [bNextStallG K (a0 0) f0_rules f0_images ((a0 1) 0) ((a0 2) 0) ((a0 3) 0) ((a0 7) 0) ((a0 8) 0) g0, bTapeG K (a0 1) q3, bCursorG K (a0 2) g2, bWorldG K (a0 3) ((a0 4) 0) ((a0 5) 0) ((a0 6) 0) g3, bFairG K (a0 4) g4, bFairG K (a0 5) g5, bNotesG K (a0 6) g6, bPastG K (a0 7) f7_fairs g7, bTrialsG K (a0 8) ((a0 9) 0) ((a0 10) 0) ((a0 11) 0) g8, bFairG K (a0 9) g9, bOrderG K (a0 10) g10, bOrderG K (a0 11) g11]) (cTape_add (a0 := (a0 1)) (z0_bytes := q2.1) (z0_size := q2.2) h3) rfl rfl (Nat.le_of_ble_eq_true rfl) kTape_add (List.mem_of_getElem? (i := 11) rfl) (by decide) (by decide) rfl rfl rfl rfl rfl rfl rfl dX11_feed_31 ?_
    refine r_aload_n 0 dX11_feed_34 rfl ?_
    refine gNextStall_tape 0 rfl (tb_in (i := 12) (j := 16) rfl rfl) dX11_feed_35 ?_
    refine r_iload_n 3 dX11_feed_38 rfl ?_
    obtain ⟨q4, h4, h⟩ := bd_some h
    refine b_callVN (isC := [1]) (ci := 6)  (st := []) (bs1 := [bNextStallG K (a0 0) f0_rules f0_images ((a0 1) 0) ((a0 2) 0) ((a0 3) 0) ((a0 7) 0) ((a0 8) 0) g0, bTapeG K (a0 1) q4, bCursorG K (a0 2) g2, bWorldG K (a0 3) ((a0 4) 0) ((a0 5) 0) ((a0 6) 0) g3, bFairG K (a0 4) g4, bFairG K (a0 5) g5, bNotesG K (a0 6) g6, bPastG K (a0 7) f7_fairs g7, bTrialsG K (a0 8) ((a0 9) 0) ((a0 10) 0) ((a0 11) 0) g8, bFairG K (a0 9) g9, bOrderG K (a0 10) g10, bOrderG K (a0 11) g11]) (cTape_add (a0 := (a0 1)) (z0_bytes := q3.1) (z0_size := q3.2) h4) rfl rfl (Nat.le_of_ble_eq_true rfl) kTape_add (List.mem_of_getElem? (i := 11) rfl) (by decide) (by decide) rfl rfl rfl rfl rfl rfl rfl dX11_feed_39 ?_
    refine r_aload_n 0 dX11_feed_42 rfl ?_
    refine gNextStall_tape 0 rfl (tb_in (i := 12) (j := 16) rfl rfl) dX11_feed_43 ?_
    refine r_iload 4 dX11_feed_46 rfl ?_
    obtain ⟨q5, h5, h⟩ := bd_some h
    refine b_callVN (isC := [1]) (ci := 6)  (st := []) (bs1 := [bNextStallG K (a0 0) f0_rules f0_images ((a0 1) 0) ((a0 2) 0) ((a0 3) 0) ((a0 7) 0) ((a0 8) 0) g0, bTapeG K (a0 1) q5, bCursorG K (a0 2) g2, bWorldG K (a0 3) ((a0 4) 0) ((a0 5) 0) ((a0 6) 0) g3, bFairG K (a0 4) g4, bFairG K (a0 5) g5, bNotesG K (a0 6) g6, bPastG K (a0 7) f7_fairs g7, bTrialsG K (a0 8) ((a0 9) 0) ((a0 10) 0) ((a0 11) 0) g8, bFairG K (a0 9) g9, bOrderG K (a0 10) g10, bOrderG K (a0 11) g11]) (cTape_add (a0 := (a0 1)) (z0_bytes := q4.1) (z0_size := q4.2) h5) rfl rfl (Nat.le_of_ble_eq_true rfl) kTape_add (List.mem_of_getElem? (i := 11) rfl) (by decide) (by decide) rfl rfl rfl rfl rfl rfl rfl dX11_feed_48 ?_
    refine r_aload_n 0 dX11_feed_51 rfl ?_
    refine gNextStall_tape 0 rfl (tb_in (i := 12) (j := 16) rfl rfl) dX11_feed_52 ?_
    refine r_iload 5 dX11_feed_55 rfl ?_
    obtain ⟨q6, h6, h⟩ := bd_some h
    refine b_callVN (isC := [1]) (ci := 6)  (st := []) (bs1 := [bNextStallG K (a0 0) f0_rules f0_images ((a0 1) 0) ((a0 2) 0) ((a0 3) 0) ((a0 7) 0) ((a0 8) 0) g0, bTapeG K (a0 1) q6, bCursorG K (a0 2) g2, bWorldG K (a0 3) ((a0 4) 0) ((a0 5) 0) ((a0 6) 0) g3, bFairG K (a0 4) g4, bFairG K (a0 5) g5, bNotesG K (a0 6) g6, bPastG K (a0 7) f7_fairs g7, bTrialsG K (a0 8) ((a0 9) 0) ((a0 10) 0) ((a0 11) 0) g8, bFairG K (a0 9) g9, bOrderG K (a0 10) g10, bOrderG K (a0 11) g11]) (cTape_add (a0 := (a0 1)) (z0_bytes := q5.1) (z0_size := q5.2) h6) rfl rfl (Nat.le_of_ble_eq_true rfl) kTape_add (List.mem_of_getElem? (i := 11) rfl) (by decide) (by decide) rfl rfl rfl rfl rfl rfl rfl dX11_feed_57 ?_
    refine r_aload_n 0 dX11_feed_60 rfl ?_
    refine gNextStall_tape 0 rfl (tb_in (i := 12) (j := 16) rfl rfl) dX11_feed_61 ?_
    refine gTape_sizeN 1 rfl (List.mem_of_getElem? (i := 2) rfl) dX11_feed_64 ?_
    have hq := Option.some.inj h
    subst hq
    exact r_iret rfl dX11_feed_67
  · replace h := it_neg c1 h
    refine r_iconst (x := (-1 : Int32)) dX11_feed_16 (by decide) ?_
    have hq := Option.some.inj h
    subst hq
    exact r_iret rfl dX11_feed_17
end
theorem dX11_end_0 : decode cX11_end 0 = .ok (.iload_n 1, 1) := by decide +kernel
theorem dX11_end_1 : decode cX11_end 1 = .ok (.iconst 0, 1) := by decide +kernel
theorem dX11_end_2 : decode cX11_end 2 = .ok (.aload_n 0, 1) := by decide +kernel
theorem dX11_end_3 : decode cX11_end 3 = .ok (.getfield 10, 3) := by decide +kernel
theorem dX11_end_6 : decode cX11_end 6 = .ok (.getfield 63, 3) := by decide +kernel
theorem dX11_end_9 : decode cX11_end 9 = .ok (.invokestatic 70, 3) := by decide +kernel
theorem dX11_end_12 : decode cX11_end 12 = .ok (.ifCond .ne 5, 3) := by decide +kernel
theorem dX11_end_15 : decode cX11_end 15 = .ok (.iconst (-1), 1) := by decide +kernel
theorem dX11_end_16 : decode cX11_end 16 = .ok (.ireturn, 1) := by decide +kernel
theorem dX11_end_17 : decode cX11_end 17 = .ok (.aload_n 0, 1) := by decide +kernel
theorem dX11_end_18 : decode cX11_end 18 = .ok (.getfield 10, 3) := by decide +kernel
theorem dX11_end_21 : decode cX11_end 21 = .ok (.iload_n 1, 1) := by decide +kernel
theorem dX11_end_22 : decode cX11_end 22 = .ok (.putfield 63, 3) := by decide +kernel
theorem dX11_end_25 : decode cX11_end 25 = .ok (.iload_n 1, 1) := by decide +kernel
theorem dX11_end_26 : decode cX11_end 26 = .ok (.ireturn, 1) := by decide +kernel
abbrev MNextStall_end : rx_M := (RX11, yX11_end, cX11_end, 2, (some .int), 2)
theorem kNextStall_end : rKv MNextStall_end 1 := ⟨tb_in (i := 30) (j := 23) rfl rfl, tb_in (i := 30) (j := 24) rfl rfl, tb_in (i := 2) (j := 22) rfl rfl, tb_in (i := 13) (j := 16) rfl rfl, ⟨by decide, by decide, by decide +kernel⟩, by decide⟩
section
variable {a0 : Nat → Nat → Nat} {g0 : tyNextStall} {g1 : tyTape} {g2 : tyCursor} {g3 : tyWorld} {g4 : tyFair} {g5 : tyFair} {g6 : tyNotes} {g7 : tyPast} {g8 : tyTrials} {g9 : tyFair} {g10 : tyOrder} {g11 : tyOrder} {f0_rules : Nat → Option Nat} {f0_images : Nat → Option Nat} {f7_fairs : Nat → Option Nat}
def mNextStall_end (x1 : Int32) (g1 : tyTape) : Option (Int32 × tyTape) := (mNextStall_within x1 (0 : Int32) g1.2).bind (fun q1 => (if q1 = 0 then some ((-1 : Int32), g1) else some (x1, (g1.1, x1))))
set_option maxHeartbeats 4000000 in
set_option maxRecDepth 20000 in
theorem cNextStall_end {q : Int32 × tyTape} {x1 : Int32} (h : mNextStall_end x1 g1 = some q) : rMet l D Z (ty7 K) MNextStall_end [.ref ((a0 0) 0), .int x1] (List.flatten [bNextStallG K (a0 0) f0_rules f0_images ((a0 1) 0) ((a0 2) 0) ((a0 3) 0) ((a0 7) 0) ((a0 8) 0) g0, bTapeG K (a0 1) g1, bCursorG K (a0 2) g2, bWorldG K (a0 3) ((a0 4) 0) ((a0 5) 0) ((a0 6) 0) g3, bFairG K (a0 4) g4, bFairG K (a0 5) g5, bNotesG K (a0 6) g6, bPastG K (a0 7) f7_fairs g7, bTrialsG K (a0 8) ((a0 9) 0) ((a0 10) 0) ((a0 11) 0) g8, bFairG K (a0 9) g9, bOrderG K (a0 10) g10, bOrderG K (a0 11) g11]) (List.flatten [bNextStallG K (a0 0) f0_rules f0_images ((a0 1) 0) ((a0 2) 0) ((a0 3) 0) ((a0 7) 0) ((a0 8) 0) g0, bTapeG K (a0 1) q.2, bCursorG K (a0 2) g2, bWorldG K (a0 3) ((a0 4) 0) ((a0 5) 0) ((a0 6) 0) g3, bFairG K (a0 4) g4, bFairG K (a0 5) g5, bNotesG K (a0 6) g6, bPastG K (a0 7) f7_fairs g7, bTrialsG K (a0 8) ((a0 9) 0) ((a0 10) 0) ((a0 11) 0) g8, bFairG K (a0 9) g9, bOrderG K (a0 10) g10, bOrderG K (a0 11) g11]) (some (.int q.1)) := by
  refine rMet.of (by decide) rfl (Nat.le_of_ble_eq_true rfl) ?_
  refine r_sub (lv' := [(0, .ref ((a0 0) 0)), (1, .int x1)]) [0, 1] rfl ?_
  unfold mNextStall_end at h
  refine r_iload_n 1 dX11_end_0 rfl ?_
  refine r_iconst (x := (0 : Int32)) dX11_end_1 (by decide) ?_
  refine r_aload_n 0 dX11_end_2 rfl ?_
  refine gNextStall_tape 0 rfl (tb_in (i := 12) (j := 16) rfl rfl) dX11_end_3 ?_
  refine gTape_sizeN 1 rfl (List.mem_of_getElem? (i := 2) rfl) dX11_end_6 ?_
  obtain ⟨q1, h1, h⟩ := bd_some h
  refine b_callS (isC := []) (st := []) (bs1 := [bNextStallG K (a0 0) f0_rules f0_images ((a0 1) 0) ((a0 2) 0) ((a0 3) 0) ((a0 7) 0) ((a0 8) 0) g0, bTapeG K (a0 1) g1, bCursorG K (a0 2) g2, bWorldG K (a0 3) ((a0 4) 0) ((a0 5) 0) ((a0 6) 0) g3, bFairG K (a0 4) g4, bFairG K (a0 5) g5, bNotesG K (a0 6) g6, bPastG K (a0 7) f7_fairs g7, bTrialsG K (a0 8) ((a0 9) 0) ((a0 10) 0) ((a0 11) 0) g8, bFairG K (a0 9) g9, bOrderG K (a0 10) g10, bOrderG K (a0 11) g11]) (cNextStall_within   h1) rfl rfl (Nat.le_of_ble_eq_true rfl) kNextStall_within (tb_in (i := 13) (j := 17) rfl rfl) (by decide) (by decide) rfl rfl rfl dX11_end_9 ?_
  refine r_if_ne 17 dX11_end_12 (by decide) (fun c2 => ?_) (fun c2 => ?_)
  · replace h := it_neg c2 h
    refine r_aload_n 0 dX11_end_17 rfl ?_
    refine gNextStall_tape 0 rfl (tb_in (i := 12) (j := 16) rfl rfl) dX11_end_18 ?_
    refine r_iload_n 1 dX11_end_21 rfl ?_
    refine pTape_sizeN (bs1 := [bNextStallG K (a0 0) f0_rules f0_images ((a0 1) 0) ((a0 2) 0) ((a0 3) 0) ((a0 7) 0) ((a0 8) 0) g0, bTape K (a0 1) g1.1 x1, bCursorG K (a0 2) g2, bWorldG K (a0 3) ((a0 4) 0) ((a0 5) 0) ((a0 6) 0) g3, bFairG K (a0 4) g4, bFairG K (a0 5) g5, bNotesG K (a0 6) g6, bPastG K (a0 7) f7_fairs g7, bTrialsG K (a0 8) ((a0 9) 0) ((a0 10) 0) ((a0 11) 0) g8, bFairG K (a0 9) g9, bOrderG K (a0 10) g10, bOrderG K (a0 11) g11]) 1 rfl rfl (List.mem_of_getElem? (i := 2) rfl) dX11_end_22 ?_
    refine r_iload_n 1 dX11_end_25 rfl ?_
    have hq := Option.some.inj h
    subst hq
    exact r_iret rfl dX11_end_26
  · replace h := it_pos c2 h
    refine r_iconst (x := (-1 : Int32)) dX11_end_15 (by decide) ?_
    have hq := Option.some.inj h
    subst hq
    exact r_iret rfl dX11_end_16
end
theorem dX11_fair_0 : decode cX11_fair 0 = .ok (.aload_n 0, 1) := by decide +kernel
theorem dX11_fair_1 : decode cX11_fair 1 = .ok (.getfield 19, 3) := by decide +kernel
theorem dX11_fair_4 : decode cX11_fair 4 = .ok (.aload_n 0, 1) := by decide +kernel
theorem dX11_fair_5 : decode cX11_fair 5 = .ok (.getfield 10, 3) := by decide +kernel
theorem dX11_fair_8 : decode cX11_fair 8 = .ok (.invokevirtual 74, 3) := by decide +kernel
theorem dX11_fair_11 : decode cX11_fair 11 = .ok (.aload_n 0, 1) := by decide +kernel
theorem dX11_fair_12 : decode cX11_fair 12 = .ok (.getfield 58, 3) := by decide +kernel
theorem dX11_fair_15 : decode cX11_fair 15 = .ok (.getfield 78, 3) := by decide +kernel
theorem dX11_fair_18 : decode cX11_fair 18 = .ok (.astore_n 1, 1) := by decide +kernel
theorem dX11_fair_19 : decode cX11_fair 19 = .ok (.aload_n 0, 1) := by decide +kernel
theorem dX11_fair_20 : decode cX11_fair 20 = .ok (.getfield 19, 3) := by decide +kernel
theorem dX11_fair_23 : decode cX11_fair 23 = .ok (.aload_n 1, 1) := by decide +kernel
theorem dX11_fair_24 : decode cX11_fair 24 = .ok (.invokestatic 82, 3) := by decide +kernel
theorem dX11_fair_27 : decode cX11_fair 27 = .ok (.aload_n 0, 1) := by decide +kernel
theorem dX11_fair_28 : decode cX11_fair 28 = .ok (.getfield 19, 3) := by decide +kernel
theorem dX11_fair_31 : decode cX11_fair 31 = .ok (.invokevirtual 88, 3) := by decide +kernel
theorem dX11_fair_34 : decode cX11_fair 34 = .ok (.ifCond .ne 14, 3) := by decide +kernel
theorem dX11_fair_37 : decode cX11_fair 37 = .ok (.bipush (-2), 2) := by decide +kernel
theorem dX11_fair_39 : decode cX11_fair 39 = .ok (.aload_n 0, 1) := by decide +kernel
theorem dX11_fair_40 : decode cX11_fair 40 = .ok (.getfield 19, 3) := by decide +kernel
theorem dX11_fair_43 : decode cX11_fair 43 = .ok (.getfield 92, 3) := by decide +kernel
theorem dX11_fair_46 : decode cX11_fair 46 = .ok (.isub, 1) := by decide +kernel
theorem dX11_fair_47 : decode cX11_fair 47 = .ok (.ireturn, 1) := by decide +kernel
theorem dX11_fair_48 : decode cX11_fair 48 = .ok (.aload_n 0, 1) := by decide +kernel
theorem dX11_fair_49 : decode cX11_fair 49 = .ok (.getfield 36, 3) := by decide +kernel
theorem dX11_fair_52 : decode cX11_fair 52 = .ok (.aload_n 1, 1) := by decide +kernel
theorem dX11_fair_53 : decode cX11_fair 53 = .ok (.invokevirtual 95, 3) := by decide +kernel
theorem dX11_fair_56 : decode cX11_fair 56 = .ok (.aload_n 0, 1) := by decide +kernel
theorem dX11_fair_57 : decode cX11_fair 57 = .ok (.getfield 43, 3) := by decide +kernel
theorem dX11_fair_60 : decode cX11_fair 60 = .ok (.invokevirtual 99, 3) := by decide +kernel
theorem dX11_fair_63 : decode cX11_fair 63 = .ok (.aload_n 1, 1) := by decide +kernel
theorem dX11_fair_64 : decode cX11_fair 64 = .ok (.getfield 102, 3) := by decide +kernel
theorem dX11_fair_67 : decode cX11_fair 67 = .ok (.ireturn, 1) := by decide +kernel
abbrev MNextStall_fair : rx_M := (RX11, yX11_fair, cX11_fair, 2, (some .int), 10)
theorem kNextStall_fair : rKv MNextStall_fair 0 := ⟨tb_in (i := 30) (j := 29) rfl rfl, tb_in (i := 30) (j := 30) rfl rfl, tb_in (i := 2) (j := 22) rfl rfl, tb_in (i := 13) (j := 25) rfl rfl, ⟨by decide, by decide, by decide +kernel⟩, by decide⟩
section
variable {a0 : Nat → Nat → Nat} {g0 : tyNextStall} {g1 : tyTape} {g2 : tyCursor} {g3 : tyWorld} {g4 : tyFair} {g5 : tyFair} {g6 : tyNotes} {g7 : tyPast} {g8 : tyTrials} {g9 : tyFair} {g10 : tyOrder} {g11 : tyOrder} {f0_rules : Nat → Option Nat} {f0_images : Nat → Option Nat} {f7_fairs : Nat → Option Nat}
def mNextStall_fair (g1 : tyTape) (g2 : tyCursor) (g3 : tyWorld) (g4 : tyFair) (g5 : tyFair) (g6 : tyNotes) (g7 : tyPast) (g9 : tyFair) : Option (Int32 × tyTape × tyCursor × tyWorld × tyFair × tyFair × tyNotes × tyPast × tyFair) := (mCursor_take g2.1 g2.2.1 g2.2.2.1 g2.2.2.2 g1.1 g1.2).bind (fun q1 => (mFairReader_read q1.1 q1.2.1 q1.2.2.1 q1.2.2.2.1 g9.1 g9.2.1 g9.2.2.1 g9.2.2.2.1 g9.2.2.2.2.1 g9.2.2.2.2.2.1 g9.2.2.2.2.2.2.1 g9.2.2.2.2.2.2.2.1 g9.2.2.2.2.2.2.2.2.1 g9.2.2.2.2.2.2.2.2.2.1 g9.2.2.2.2.2.2.2.2.2.2.1 g9.2.2.2.2.2.2.2.2.2.2.2.1 g9.2.2.2.2.2.2.2.2.2.2.2.2.1 g9.2.2.2.2.2.2.2.2.2.2.2.2.2.1 g9.2.2.2.2.2.2.2.2.2.2.2.2.2.2.1 g9.2.2.2.2.2.2.2.2.2.2.2.2.2.2.2.1 g9.2.2.2.2.2.2.2.2.2.2.2.2.2.2.2.2.1 g9.2.2.2.2.2.2.2.2.2.2.2.2.2.2.2.2.2.1 g9.2.2.2.2.2.2.2.2.2.2.2.2.2.2.2.2.2.2).bind (fun q2 => (mCursor_isFine q2.2.1).bind (fun q3 => (if q3 = 0 then some (((-2 : Int32) - q2.2.1), (g1.1, q1.2.2.2.2), (q1.1, q1.2.1, q2.1, q2.2.1), g3, g4, g5, g6, g7, q2.2.2) else (mWorld_begin g3 g4 g5 g6 q2.2.2).bind (fun q5 => (mPast_forget g7).bind (fun q6 => some (q2.2.2.2.2.1, (g1.1, q1.2.2.2.2), (q1.1, q1.2.1, q2.1, q2.2.1), q5.1, q5.2.1, q5.2.2.1, q5.2.2.2, q6, q2.2.2)))))))
set_option maxHeartbeats 4000000 in
set_option maxRecDepth 20000 in
theorem cNextStall_fair {q : Int32 × tyTape × tyCursor × tyWorld × tyFair × tyFair × tyNotes × tyPast × tyFair}  (h : mNextStall_fair g1 g2 g3 g4 g5 g6 g7 g9 = some q) : rMet l D Z (ty7 K) MNextStall_fair [.ref ((a0 0) 0)] (List.flatten [bNextStallG K (a0 0) f0_rules f0_images ((a0 1) 0) ((a0 2) 0) ((a0 3) 0) ((a0 7) 0) ((a0 8) 0) g0, bTapeG K (a0 1) g1, bCursorG K (a0 2) g2, bWorldG K (a0 3) ((a0 4) 0) ((a0 5) 0) ((a0 6) 0) g3, bFairG K (a0 4) g4, bFairG K (a0 5) g5, bNotesG K (a0 6) g6, bPastG K (a0 7) f7_fairs g7, bTrialsG K (a0 8) ((a0 9) 0) ((a0 10) 0) ((a0 11) 0) g8, bFairG K (a0 9) g9, bOrderG K (a0 10) g10, bOrderG K (a0 11) g11]) (List.flatten [bNextStallG K (a0 0) f0_rules f0_images ((a0 1) 0) ((a0 2) 0) ((a0 3) 0) ((a0 7) 0) ((a0 8) 0) g0, bTapeG K (a0 1) q.2.1, bCursorG K (a0 2) q.2.2.1, bWorldG K (a0 3) ((a0 4) 0) ((a0 5) 0) ((a0 6) 0) q.2.2.2.1, bFairG K (a0 4) q.2.2.2.2.1, bFairG K (a0 5) q.2.2.2.2.2.1, bNotesG K (a0 6) q.2.2.2.2.2.2.1, bPastG K (a0 7) f7_fairs q.2.2.2.2.2.2.2.1, bTrialsG K (a0 8) ((a0 9) 0) ((a0 10) 0) ((a0 11) 0) g8, bFairG K (a0 9) q.2.2.2.2.2.2.2.2, bOrderG K (a0 10) g10, bOrderG K (a0 11) g11]) (some (.int q.1)) := by
  refine rMet.of (by decide) rfl (Nat.le_of_ble_eq_true rfl) ?_
  refine r_sub (lv' := [(0, .ref ((a0 0) 0))]) [0] rfl ?_
  unfold mNextStall_fair at h
  refine r_aload_n 0 dX11_fair_0 rfl ?_
  refine gNextStall_cursor 0 rfl (tb_in (i := 12) (j := 19) rfl rfl) dX11_fair_1 ?_
  refine r_aload_n 0 dX11_fair_4 rfl ?_
  refine gNextStall_tape 0 rfl (tb_in (i := 12) (j := 16) rfl rfl) dX11_fair_5 ?_
  obtain ⟨q1, h1, h⟩ := bd_some h
  refine b_callVN (isC := [2, 1]) (ci := 0)  (st := []) (bs1 := [bNextStallG K (a0 0) f0_rules f0_images ((a0 1) 0) ((a0 2) 0) ((a0 3) 0) ((a0 7) 0) ((a0 8) 0) g0, bTape K (a0 1) g1.1 q1.2.2.2.2, bCursor K (a0 2) q1.1 q1.2.1 q1.2.2.1 q1.2.2.2.1, bWorldG K (a0 3) ((a0 4) 0) ((a0 5) 0) ((a0 6) 0) g3, bFairG K (a0 4) g4, bFairG K (a0 5) g5, bNotesG K (a0 6) g6, bPastG K (a0 7) f7_fairs g7, bTrialsG K (a0 8) ((a0 9) 0) ((a0 10) 0) ((a0 11) 0) g8, bFairG K (a0 9) g9, bOrderG K (a0 10) g10, bOrderG K (a0 11) g11]) (cCursor_take (a0 := (a0 2)) (a1 := (a0 1)) (z0_text := g2.1) (z0_size := g2.2.1) (z0_at := g2.2.2.1) (z0_fault := g2.2.2.2) (z1_bytes := g1.1) (z1_size := g1.2) h1) rfl rfl (Nat.le_of_ble_eq_true rfl) kCursor_take (List.mem_of_getElem? (i := 12) rfl) (by decide) (by decide) rfl rfl rfl rfl rfl rfl rfl dX11_fair_8 ?_
  refine r_aload_n 0 dX11_fair_11 rfl ?_
  refine gNextStall_trials 0 rfl (tb_in (i := 13) (j := 4) rfl rfl) dX11_fair_12 ?_
  refine gTrials_fairN 8 rfl (List.mem_of_getElem? (i := 62) rfl) dX11_fair_15 ?_
  refine r_astore_n (lv' := [(1, .ref ((a0 9) 0)), (0, .ref ((a0 0) 0))]) dX11_fair_18 (Nat.le_of_ble_eq_true rfl) rfl ?_
  refine r_aload_n 1 dX11_fair_19 rfl ?_
  refine gNextStall_cursor 0 rfl (tb_in (i := 12) (j := 19) rfl rfl) dX11_fair_20 ?_
  refine r_aload_n 0 dX11_fair_23 rfl ?_
  obtain ⟨q2, h2, h⟩ := bd_some h
  refine b_callSN (isC := [2, 9]) (st := []) (bs1 := [bNextStallG K (a0 0) f0_rules f0_images ((a0 1) 0) ((a0 2) 0) ((a0 3) 0) ((a0 7) 0) ((a0 8) 0) g0, bTape K (a0 1) g1.1 q1.2.2.2.2, bCursor K (a0 2) q1.1 q1.2.1 q2.1 q2.2.1, bWorldG K (a0 3) ((a0 4) 0) ((a0 5) 0) ((a0 6) 0) g3, bFairG K (a0 4) g4, bFairG K (a0 5) g5, bNotesG K (a0 6) g6, bPastG K (a0 7) f7_fairs g7, bTrialsG K (a0 8) ((a0 9) 0) ((a0 10) 0) ((a0 11) 0) g8, bFairG K (a0 9) q2.2.2, bOrderG K (a0 10) g10, bOrderG K (a0 11) g11]) (cFairReader_read (a0 := (a0 2)) (a1 := (a0 9)) (z0_text := q1.1) (z0_size := q1.2.1) (z0_at := q1.2.2.1) (z0_fault := q1.2.2.2.1) (z1_lasts := g9.1) (z1_keeps := g9.2.1) (z1_stalls := g9.2.2.1) (z1_buyers := g9.2.2.2.1) (z1_minute := g9.2.2.2.2.1) (z1_goods := g9.2.2.2.2.2.1) (z1_price := g9.2.2.2.2.2.2.1) (z1_tongue := g9.2.2.2.2.2.2.2.1) (z1_till := g9.2.2.2.2.2.2.2.2.1) (z1_wealth := g9.2.2.2.2.2.2.2.2.2.1) (z1_sold := g9.2.2.2.2.2.2.2.2.2.2.1) (z1_ring := g9.2.2.2.2.2.2.2.2.2.2.2.1) (z1_grudges := g9.2.2.2.2.2.2.2.2.2.2.2.2.1) (z1_purse := g9.2.2.2.2.2.2.2.2.2.2.2.2.2.1) (z1_came := g9.2.2.2.2.2.2.2.2.2.2.2.2.2.2.1) (z1_had := g9.2.2.2.2.2.2.2.2.2.2.2.2.2.2.2.1) (z1_seller := g9.2.2.2.2.2.2.2.2.2.2.2.2.2.2.2.2.1) (z1_praise := g9.2.2.2.2.2.2.2.2.2.2.2.2.2.2.2.2.2.1) (z1_borne := g9.2.2.2.2.2.2.2.2.2.2.2.2.2.2.2.2.2.2) h2) rfl rfl (Nat.le_of_ble_eq_true rfl) kFairReader_read (List.mem_of_getElem? (i := 13) rfl) (by decide) (by decide) rfl rfl rfl dX11_fair_24 ?_
  refine r_aload_n 1 dX11_fair_27 rfl ?_
  refine gNextStall_cursor 0 rfl (tb_in (i := 12) (j := 19) rfl rfl) dX11_fair_28 ?_
  obtain ⟨q3, h3, h⟩ := bd_some h
  refine b_callVN (isC := [2]) (ci := 0)  (st := []) (bs1 := [bNextStallG K (a0 0) f0_rules f0_images ((a0 1) 0) ((a0 2) 0) ((a0 3) 0) ((a0 7) 0) ((a0 8) 0) g0, bTape K (a0 1) g1.1 q1.2.2.2.2, bCursor K (a0 2) q1.1 q1.2.1 q2.1 q2.2.1, bWorldG K (a0 3) ((a0 4) 0) ((a0 5) 0) ((a0 6) 0) g3, bFairG K (a0 4) g4, bFairG K (a0 5) g5, bNotesG K (a0 6) g6, bPastG K (a0 7) f7_fairs g7, bTrialsG K (a0 8) ((a0 9) 0) ((a0 10) 0) ((a0 11) 0) g8, bFairG K (a0 9) q2.2.2, bOrderG K (a0 10) g10, bOrderG K (a0 11) g11]) (cCursor_isFine (a0 := (a0 2)) (z0_text := q1.1) (z0_size := q1.2.1) (z0_at := q2.1) (z0_fault := q2.2.1) h3) rfl rfl (Nat.le_of_ble_eq_true rfl) kCursor_isFine (List.mem_of_getElem? (i := 27) rfl) (by decide) (by decide) rfl rfl rfl rfl rfl rfl rfl dX11_fair_31 ?_
  refine r_if_ne 48 dX11_fair_34 (by decide) (fun c4 => ?_) (fun c4 => ?_)
  · replace h := it_neg c4 h
    refine r_aload_n 1 dX11_fair_48 rfl ?_
    refine gNextStall_world 0 rfl (tb_in (i := 12) (j := 26) rfl rfl) dX11_fair_49 ?_
    refine r_aload_n 0 dX11_fair_52 rfl ?_
    obtain ⟨q5, h5, h⟩ := bd_some h
    refine b_callVN (isC := [3, 4, 5, 6, 9]) (ci := 8)  (st := []) (bs1 := [bNextStallG K (a0 0) f0_rules f0_images ((a0 1) 0) ((a0 2) 0) ((a0 3) 0) ((a0 7) 0) ((a0 8) 0) g0, bTape K (a0 1) g1.1 q1.2.2.2.2, bCursor K (a0 2) q1.1 q1.2.1 q2.1 q2.2.1, bWorldG K (a0 3) ((a0 4) 0) ((a0 5) 0) ((a0 6) 0) q5.1, bFairG K (a0 4) q5.2.1, bFairG K (a0 5) q5.2.2.1, bNotesG K (a0 6) q5.2.2.2, bPastG K (a0 7) f7_fairs g7, bTrialsG K (a0 8) ((a0 9) 0) ((a0 10) 0) ((a0 11) 0) g8, bFairG K (a0 9) q2.2.2, bOrderG K (a0 10) g10, bOrderG K (a0 11) g11]) (cWorld_begin (a0 := fun b => a0 (3 + b)) (a1 := (a0 9)) (g0 := g3) (g1 := g4) (g2 := g5) (g3 := g6) (g4 := q2.2.2) h5) rfl rfl (Nat.le_of_ble_eq_true rfl) kWorld_begin (List.mem_of_getElem? (i := 28) rfl) (by decide) (by decide) rfl rfl rfl rfl rfl rfl rfl dX11_fair_53 ?_
    refine r_aload_n 1 dX11_fair_56 rfl ?_
    refine gNextStall_past 0 rfl (tb_in (i := 12) (j := 30) rfl rfl) dX11_fair_57 ?_
    obtain ⟨q6, h6, h⟩ := bd_some h
    refine b_callVN (isC := [7]) (ci := 4)  (st := []) (bs1 := [bNextStallG K (a0 0) f0_rules f0_images ((a0 1) 0) ((a0 2) 0) ((a0 3) 0) ((a0 7) 0) ((a0 8) 0) g0, bTape K (a0 1) g1.1 q1.2.2.2.2, bCursor K (a0 2) q1.1 q1.2.1 q2.1 q2.2.1, bWorldG K (a0 3) ((a0 4) 0) ((a0 5) 0) ((a0 6) 0) q5.1, bFairG K (a0 4) q5.2.1, bFairG K (a0 5) q5.2.2.1, bNotesG K (a0 6) q5.2.2.2, bPastG K (a0 7) f7_fairs q6, bTrialsG K (a0 8) ((a0 9) 0) ((a0 10) 0) ((a0 11) 0) g8, bFairG K (a0 9) q2.2.2, bOrderG K (a0 10) g10, bOrderG K (a0 11) g11]) (cPast_forget (a0 := (a0 7)) (g0 := g7) h6) rfl rfl (Nat.le_of_ble_eq_true rfl) kPast_forget (List.mem_of_getElem? (i := 30) rfl) (by decide) (by decide) rfl rfl rfl rfl rfl rfl rfl dX11_fair_60 ?_
    refine r_aload_n 0 dX11_fair_63 rfl ?_
    refine gFair_stallsN 9 rfl (List.mem_of_getElem? (i := 15) rfl) dX11_fair_64 ?_
    have hq := Option.some.inj h
    subst hq
    exact r_iret rfl dX11_fair_67
  · replace h := it_pos c4 h
    refine r_bipush (x := (-2 : Int32)) dX11_fair_37 (by decide) ?_
    refine r_aload_n 1 dX11_fair_39 rfl ?_
    refine gNextStall_cursor 0 rfl (tb_in (i := 12) (j := 19) rfl rfl) dX11_fair_40 ?_
    refine gCursor_faultN 2 rfl (List.mem_of_getElem? (i := 7) rfl) dX11_fair_43 ?_
    refine r_isub dX11_fair_46 ?_
    have hq := Option.some.inj h
    subst hq
    exact r_iret rfl dX11_fair_47
end
theorem dX11_rule_0 : decode cX11_rule 0 = .ok (.aload_n 0, 1) := by decide +kernel
theorem dX11_rule_1 : decode cX11_rule 1 = .ok (.getfield 29, 3) := by decide +kernel
theorem dX11_rule_4 : decode cX11_rule 4 = .ok (.bipush 6, 2) := by decide +kernel
theorem dX11_rule_6 : decode cX11_rule 6 = .ok (.if_icmp .lt 5, 3) := by decide +kernel
theorem dX11_rule_9 : decode cX11_rule 9 = .ok (.iconst (-1), 1) := by decide +kernel
theorem dX11_rule_10 : decode cX11_rule 10 = .ok (.ireturn, 1) := by decide +kernel
theorem dX11_rule_11 : decode cX11_rule 11 = .ok (.aload_n 0, 1) := by decide +kernel
theorem dX11_rule_12 : decode cX11_rule 12 = .ok (.getfield 19, 3) := by decide +kernel
theorem dX11_rule_15 : decode cX11_rule 15 = .ok (.aload_n 0, 1) := by decide +kernel
theorem dX11_rule_16 : decode cX11_rule 16 = .ok (.getfield 10, 3) := by decide +kernel
theorem dX11_rule_19 : decode cX11_rule 19 = .ok (.invokevirtual 74, 3) := by decide +kernel
theorem dX11_rule_22 : decode cX11_rule 22 = .ok (.aload_n 0, 1) := by decide +kernel
theorem dX11_rule_23 : decode cX11_rule 23 = .ok (.getfield 19, 3) := by decide +kernel
theorem dX11_rule_26 : decode cX11_rule 26 = .ok (.aload_n 0, 1) := by decide +kernel
theorem dX11_rule_27 : decode cX11_rule 27 = .ok (.getfield 25, 3) := by decide +kernel
theorem dX11_rule_30 : decode cX11_rule 30 = .ok (.aload_n 0, 1) := by decide +kernel
theorem dX11_rule_31 : decode cX11_rule 31 = .ok (.getfield 29, 3) := by decide +kernel
theorem dX11_rule_34 : decode cX11_rule 34 = .ok (.aaload, 1) := by decide +kernel
theorem dX11_rule_35 : decode cX11_rule 35 = .ok (.invokestatic 107, 3) := by decide +kernel
theorem dX11_rule_38 : decode cX11_rule 38 = .ok (.aload_n 0, 1) := by decide +kernel
theorem dX11_rule_39 : decode cX11_rule 39 = .ok (.getfield 19, 3) := by decide +kernel
theorem dX11_rule_42 : decode cX11_rule 42 = .ok (.invokevirtual 88, 3) := by decide +kernel
theorem dX11_rule_45 : decode cX11_rule 45 = .ok (.ifCond .ne 14, 3) := by decide +kernel
theorem dX11_rule_48 : decode cX11_rule 48 = .ok (.bipush (-2), 2) := by decide +kernel
theorem dX11_rule_50 : decode cX11_rule 50 = .ok (.aload_n 0, 1) := by decide +kernel
theorem dX11_rule_51 : decode cX11_rule 51 = .ok (.getfield 19, 3) := by decide +kernel
theorem dX11_rule_54 : decode cX11_rule 54 = .ok (.getfield 92, 3) := by decide +kernel
theorem dX11_rule_57 : decode cX11_rule 57 = .ok (.isub, 1) := by decide +kernel
theorem dX11_rule_58 : decode cX11_rule 58 = .ok (.ireturn, 1) := by decide +kernel
theorem dX11_rule_59 : decode cX11_rule 59 = .ok (.aload_n 0, 1) := by decide +kernel
theorem dX11_rule_60 : decode cX11_rule 60 = .ok (.dup, 1) := by decide +kernel
theorem dX11_rule_61 : decode cX11_rule 61 = .ok (.getfield 29, 3) := by decide +kernel
theorem dX11_rule_64 : decode cX11_rule 64 = .ok (.iconst 1, 1) := by decide +kernel
theorem dX11_rule_65 : decode cX11_rule 65 = .ok (.iadd, 1) := by decide +kernel
theorem dX11_rule_66 : decode cX11_rule 66 = .ok (.putfield 29, 3) := by decide +kernel
theorem dX11_rule_69 : decode cX11_rule 69 = .ok (.aload_n 0, 1) := by decide +kernel
theorem dX11_rule_70 : decode cX11_rule 70 = .ok (.getfield 29, 3) := by decide +kernel
theorem dX11_rule_73 : decode cX11_rule 73 = .ok (.iconst 1, 1) := by decide +kernel
theorem dX11_rule_74 : decode cX11_rule 74 = .ok (.isub, 1) := by decide +kernel
theorem dX11_rule_75 : decode cX11_rule 75 = .ok (.ireturn, 1) := by decide +kernel
abbrev MNextStall_rule : rx_M := (RX11, yX11_rule, cX11_rule, 1, (some .int), 52)
theorem kNextStall_rule : rKv MNextStall_rule 0 := ⟨tb_in (i := 31) (j := 3) rfl rfl, tb_in (i := 31) (j := 4) rfl rfl, tb_in (i := 2) (j := 22) rfl rfl, tb_in (i := 13) (j := 27) rfl rfl, ⟨by decide, by decide, by decide +kernel⟩, by decide⟩
section
variable {a0 : Nat → Nat → Nat} {g0 : tyNextStall} {g1 : tyTape} {g2 : tyCursor} {g3 : tyWorld} {g4 : tyFair} {g5 : tyFair} {g6 : tyNotes} {g7 : tyPast} {g8 : tyTrials} {g9 : tyFair} {g10 : tyOrder} {g11 : tyOrder} {f0_rules : Nat → Nat → Nat} {f0_images : Nat → Option Nat} {f7_fairs : Nat → Option Nat} {p0_rules0 : Nat → tyRule}
def mNextStall_rule (g0 : tyNextStall) (g1 : tyTape) (g2 : tyCursor) (p0_rules0 : Nat → tyRule) : Option (Int32 × tyNextStall × tyTape × tyCursor × (Nat → tyRule)) := (if g0.1 < (6 : Int32) then (mCursor_take g2.1 g2.2.1 g2.2.2.1 g2.2.2.2 g1.1 g1.2).bind (fun q2 => rq (inb g0.1 6) (lt (g0.1.toNatClampNeg) (fun j3 => (mRuleReader_read q2.1 q2.2.1 q2.2.2.1 q2.2.2.2.1 ((p0_rules0 j3).1) ((p0_rules0 j3).2.1) ((p0_rules0 j3).2.2.1) ((p0_rules0 j3).2.2.2.1) ((p0_rules0 j3).2.2.2.2.1) ((p0_rules0 j3).2.2.2.2.2.1) ((p0_rules0 j3).2.2.2.2.2.2.1) ((p0_rules0 j3).2.2.2.2.2.2.2.1)).bind (fun q4 => (mCursor_isFine q4.2.1).bind (fun q5 => (if q5 = 0 then some (((-2 : Int32) - q4.2.1), g0, (g1.1, q2.2.2.2.2), (q2.1, q2.2.1, q4.1, q4.2.1), (va_up p0_rules0 j3 (q4.2.2.1, q4.2.2.2.1, q4.2.2.2.2.1, q4.2.2.2.2.2.1, q4.2.2.2.2.2.2.1, q4.2.2.2.2.2.2.2.1, q4.2.2.2.2.2.2.2.2.1, q4.2.2.2.2.2.2.2.2.2, (p0_rules0 j3).2.2.2.2.2.2.2.2.1, (p0_rules0 j3).2.2.2.2.2.2.2.2.2))) else lt (g0.1 + (1 : Int32)) (fun y7 => some ((y7 - (1 : Int32)), (y7, g0.2), (g1.1, q2.2.2.2.2), (q2.1, q2.2.1, q4.1, q4.2.1), (va_up p0_rules0 j3 (q4.2.2.1, q4.2.2.2.1, q4.2.2.2.2.1, q4.2.2.2.2.2.1, q4.2.2.2.2.2.2.1, q4.2.2.2.2.2.2.2.1, q4.2.2.2.2.2.2.2.2.1, q4.2.2.2.2.2.2.2.2.2, (p0_rules0 j3).2.2.2.2.2.2.2.2.1, (p0_rules0 j3).2.2.2.2.2.2.2.2.2)))))))))) else some ((-1 : Int32), g0, g1, g2, p0_rules0))
set_option maxHeartbeats 4000000 in
set_option maxRecDepth 20000 in
theorem cNextStall_rule {q : Int32 × tyNextStall × tyTape × tyCursor × (Nat → tyRule)}  (h : mNextStall_rule g0 g1 g2 p0_rules0 = some q) : rMet l D Z (ty7 K) MNextStall_rule [.ref ((a0 0) 0)] (List.flatten ([bNextStallG K (a0 0) (fun j => some (f0_rules j 0)) f0_images ((a0 1) 0) ((a0 2) 0) ((a0 3) 0) ((a0 7) 0) ((a0 8) 0) g0, bTapeG K (a0 1) g1, bCursorG K (a0 2) g2, bWorldG K (a0 3) ((a0 4) 0) ((a0 5) 0) ((a0 6) 0) g3, bFairG K (a0 4) g4, bFairG K (a0 5) g5, bNotesG K (a0 6) g6, bPastG K (a0 7) f7_fairs g7, bTrialsG K (a0 8) ((a0 9) 0) ((a0 10) 0) ((a0 11) 0) g8, bFairG K (a0 9) g9, bOrderG K (a0 10) g10, bOrderG K (a0 11) g11] ++ (fam 6 (fun j => bRuleG K (f0_rules j) (p0_rules0 j)) ++ []))) (List.flatten ([bNextStallG K (a0 0) (fun j => some (f0_rules j 0)) f0_images ((a0 1) 0) ((a0 2) 0) ((a0 3) 0) ((a0 7) 0) ((a0 8) 0) q.2.1, bTapeG K (a0 1) q.2.2.1, bCursorG K (a0 2) q.2.2.2.1, bWorldG K (a0 3) ((a0 4) 0) ((a0 5) 0) ((a0 6) 0) g3, bFairG K (a0 4) g4, bFairG K (a0 5) g5, bNotesG K (a0 6) g6, bPastG K (a0 7) f7_fairs g7, bTrialsG K (a0 8) ((a0 9) 0) ((a0 10) 0) ((a0 11) 0) g8, bFairG K (a0 9) g9, bOrderG K (a0 10) g10, bOrderG K (a0 11) g11] ++ (fam 6 (fun j => bRuleG K (f0_rules j) (q.2.2.2.2 j)) ++ []))) (some (.int q.1)) := by
  refine rMet.of (by decide) rfl (Nat.le_of_ble_eq_true rfl) ?_
  refine r_sub (lv' := [(0, .ref ((a0 0) 0))]) [0] rfl ?_
  unfold mNextStall_rule at h
  refine r_aload_n 0 dX11_rule_0 rfl ?_
  refine gNextStall_ruleCount 0 rfl (tb_in (i := 12) (j := 22) rfl rfl) dX11_rule_1 ?_
  refine r_bipush (x := (6 : Int32)) dX11_rule_4 (by decide) ?_
  refine r_icmp_lt 11 dX11_rule_6 (by decide) (fun c1 => ?_) (fun c1 => ?_)
  · replace h := it_pos c1 h
    refine r_aload_n 0 dX11_rule_11 rfl ?_
    refine gNextStall_cursor 0 rfl (tb_in (i := 12) (j := 19) rfl rfl) dX11_rule_12 ?_
    refine r_aload_n 0 dX11_rule_15 rfl ?_
    refine gNextStall_tape 0 rfl (tb_in (i := 12) (j := 16) rfl rfl) dX11_rule_16 ?_
    obtain ⟨q2, h2, h⟩ := bd_some h
    refine b_callVN (isC := [2, 1]) (ci := 0)  (st := []) (bs1 := ([bNextStallG K (a0 0) (fun j => some (f0_rules j 0)) f0_images ((a0 1) 0) ((a0 2) 0) ((a0 3) 0) ((a0 7) 0) ((a0 8) 0) g0, bTape K (a0 1) g1.1 q2.2.2.2.2, bCursor K (a0 2) q2.1 q2.2.1 q2.2.2.1 q2.2.2.2.1, bWorldG K (a0 3) ((a0 4) 0) ((a0 5) 0) ((a0 6) 0) g3, bFairG K (a0 4) g4, bFairG K (a0 5) g5, bNotesG K (a0 6) g6, bPastG K (a0 7) f7_fairs g7, bTrialsG K (a0 8) ((a0 9) 0) ((a0 10) 0) ((a0 11) 0) g8, bFairG K (a0 9) g9, bOrderG K (a0 10) g10, bOrderG K (a0 11) g11] ++ (fam 6 (fun j => bRuleG K (f0_rules j) (p0_rules0 j)) ++ []))) (cCursor_take (a0 := (a0 2)) (a1 := (a0 1)) (z0_text := g2.1) (z0_size := g2.2.1) (z0_at := g2.2.2.1) (z0_fault := g2.2.2.2) (z1_bytes := g1.1) (z1_size := g1.2) h2) rfl rfl (Nat.le_of_ble_eq_true rfl) kCursor_take (List.mem_of_getElem? (i := 12) rfl) (by decide) (by decide) rfl rfl rfl rfl rfl rfl rfl dX11_rule_19 ?_
    refine r_aload_n 0 dX11_rule_22 rfl ?_
    refine gNextStall_cursor 0 rfl (tb_in (i := 12) (j := 19) rfl rfl) dX11_rule_23 ?_
    refine r_aload_n 0 dX11_rule_26 rfl ?_
    refine gNextStall_rules 0 rfl (tb_in (i := 12) (j := 21) rfl rfl) dX11_rule_27 ?_
    refine r_aload_n 0 dX11_rule_30 rfl ?_
    refine gNextStall_ruleCount 0 rfl (tb_in (i := 12) (j := 22) rfl rfl) dX11_rule_31 ?_
    obtain ⟨h3, h⟩ := rq_some h
    obtain ⟨j3, e3, h⟩ := lt_some h
    have hj3 : j3 < 6 := by rw [e3]; exact inb_lt h3
    refine b_aald 0 1 5 rfl rfl rfl (inb_in h3) dX11_rule_34 ?_
    refine r_st (st' := [.ref (f0_rules j3 0), .ref ((a0 2) 0)]) (by rw [e3]; rfl) ?_
    obtain ⟨q4, h4, h⟩ := bd_some h
    refine b_callSN (isC := [2, 12 + j3]) (st := []) (bs1 := ([bNextStallG K (a0 0) (fun j => some (f0_rules j 0)) f0_images ((a0 1) 0) ((a0 2) 0) ((a0 3) 0) ((a0 7) 0) ((a0 8) 0) g0, bTape K (a0 1) g1.1 q2.2.2.2.2, bCursor K (a0 2) q2.1 q2.2.1 q4.1 q4.2.1, bWorldG K (a0 3) ((a0 4) 0) ((a0 5) 0) ((a0 6) 0) g3, bFairG K (a0 4) g4, bFairG K (a0 5) g5, bNotesG K (a0 6) g6, bPastG K (a0 7) f7_fairs g7, bTrialsG K (a0 8) ((a0 9) 0) ((a0 10) 0) ((a0 11) 0) g8, bFairG K (a0 9) g9, bOrderG K (a0 10) g10, bOrderG K (a0 11) g11] ++ (fam 6 (fun j => bRuleG K (f0_rules j) ((va_up p0_rules0 j3 (q4.2.2.1, q4.2.2.2.1, q4.2.2.2.2.1, q4.2.2.2.2.2.1, q4.2.2.2.2.2.2.1, q4.2.2.2.2.2.2.2.1, q4.2.2.2.2.2.2.2.2.1, q4.2.2.2.2.2.2.2.2.2, (p0_rules0 j3).2.2.2.2.2.2.2.2.1, (p0_rules0 j3).2.2.2.2.2.2.2.2.2)) j)) ++ []))) (cRuleReader_read (a0 := (a0 2)) (a1 := f0_rules j3) (z0_text := q2.1) (z0_size := q2.2.1) (z0_at := q2.2.2.1) (z0_fault := q2.2.2.2.1) (z1_steps := (p0_rules0 j3).1) (z1_size := (p0_rules0 j3).2.1) (z1_sumFrom := (p0_rules0 j3).2.2.1) (z1_testFrom := (p0_rules0 j3).2.2.2.1) (z1_testTo := (p0_rules0 j3).2.2.2.2.1) (z1_clauses := (p0_rules0 j3).2.2.2.2.2.1) (z1_parts := (p0_rules0 j3).2.2.2.2.2.2.1) (z1_readsTime := (p0_rules0 j3).2.2.2.2.2.2.2.1) (z1_words := (p0_rules0 j3).2.2.2.2.2.2.2.2.1) (z1_stack := (p0_rules0 j3).2.2.2.2.2.2.2.2.2) h4) rfl rfl (Nat.le_of_ble_eq_true rfl) kRuleReader_read (List.mem_of_getElem? (i := 31) rfl) (by decide) (by simp only [List.nodup_cons, List.mem_cons, List.not_mem_nil, or_false, not_or, List.nodup_nil, not_false_eq_true, and_true]; omega) (map_s (rfl) (map_s (fq0 (B := fun j g => bRuleG K (f0_rules j) g) (l := [bNextStallG K (a0 0) (fun j => some (f0_rules j 0)) f0_images ((a0 1) 0) ((a0 2) 0) ((a0 3) 0) ((a0 7) 0) ((a0 8) 0) g0, bTape K (a0 1) g1.1 q2.2.2.2.2, bCursor K (a0 2) q2.1 q2.2.1 q2.2.2.1 q2.2.2.2.1, bWorldG K (a0 3) ((a0 4) 0) ((a0 5) 0) ((a0 6) 0) g3, bFairG K (a0 4) g4, bFairG K (a0 5) g5, bNotesG K (a0 6) g6, bPastG K (a0 7) f7_fairs g7, bTrialsG K (a0 8) ((a0 9) 0) ((a0 10) 0) ((a0 11) 0) g8, bFairG K (a0 9) g9, bOrderG K (a0 10) g10, bOrderG K (a0 11) g11]) rfl hj3) map_n)) rfl (stm_s (bs1 := ([bNextStallG K (a0 0) (fun j => some (f0_rules j 0)) f0_images ((a0 1) 0) ((a0 2) 0) ((a0 3) 0) ((a0 7) 0) ((a0 8) 0) g0, bTape K (a0 1) g1.1 q2.2.2.2.2, bCursor K (a0 2) q2.1 q2.2.1 q4.1 q4.2.1, bWorldG K (a0 3) ((a0 4) 0) ((a0 5) 0) ((a0 6) 0) g3, bFairG K (a0 4) g4, bFairG K (a0 5) g5, bNotesG K (a0 6) g6, bPastG K (a0 7) f7_fairs g7, bTrialsG K (a0 8) ((a0 9) 0) ((a0 10) 0) ((a0 11) 0) g8, bFairG K (a0 9) g9, bOrderG K (a0 10) g10, bOrderG K (a0 11) g11] ++ (fam 6 (fun j => bRuleG K (f0_rules j) (p0_rules0 j)) ++ []))) (rfl) (stm_s (bs1 := ([bNextStallG K (a0 0) (fun j => some (f0_rules j 0)) f0_images ((a0 1) 0) ((a0 2) 0) ((a0 3) 0) ((a0 7) 0) ((a0 8) 0) g0, bTape K (a0 1) g1.1 q2.2.2.2.2, bCursor K (a0 2) q2.1 q2.2.1 q4.1 q4.2.1, bWorldG K (a0 3) ((a0 4) 0) ((a0 5) 0) ((a0 6) 0) g3, bFairG K (a0 4) g4, bFairG K (a0 5) g5, bNotesG K (a0 6) g6, bPastG K (a0 7) f7_fairs g7, bTrialsG K (a0 8) ((a0 9) 0) ((a0 10) 0) ((a0 11) 0) g8, bFairG K (a0 9) g9, bOrderG K (a0 10) g10, bOrderG K (a0 11) g11] ++ (fam 6 (fun j => bRuleG K (f0_rules j) ((va_up p0_rules0 j3 (q4.2.2.1, q4.2.2.2.1, q4.2.2.2.2.1, q4.2.2.2.2.2.1, q4.2.2.2.2.2.2.1, q4.2.2.2.2.2.2.2.1, q4.2.2.2.2.2.2.2.2.1, q4.2.2.2.2.2.2.2.2.2, (p0_rules0 j3).2.2.2.2.2.2.2.2.1, (p0_rules0 j3).2.2.2.2.2.2.2.2.2)) j)) ++ []))) (fs0 (B := fun j g => bRuleG K (f0_rules j) g) (g := (q4.2.2.1, q4.2.2.2.1, q4.2.2.2.2.1, q4.2.2.2.2.2.1, q4.2.2.2.2.2.2.1, q4.2.2.2.2.2.2.2.1, q4.2.2.2.2.2.2.2.2.1, q4.2.2.2.2.2.2.2.2.2, (p0_rules0 j3).2.2.2.2.2.2.2.2.1, (p0_rules0 j3).2.2.2.2.2.2.2.2.2)) (l := [bNextStallG K (a0 0) (fun j => some (f0_rules j 0)) f0_images ((a0 1) 0) ((a0 2) 0) ((a0 3) 0) ((a0 7) 0) ((a0 8) 0) g0, bTape K (a0 1) g1.1 q2.2.2.2.2, bCursor K (a0 2) q2.1 q2.2.1 q4.1 q4.2.1, bWorldG K (a0 3) ((a0 4) 0) ((a0 5) 0) ((a0 6) 0) g3, bFairG K (a0 4) g4, bFairG K (a0 5) g5, bNotesG K (a0 6) g6, bPastG K (a0 7) f7_fairs g7, bTrialsG K (a0 8) ((a0 9) 0) ((a0 10) 0) ((a0 11) 0) g8, bFairG K (a0 9) g9, bOrderG K (a0 10) g10, bOrderG K (a0 11) g11]) rfl hj3) stm_n)) dX11_rule_35 ?_
    refine r_aload_n 0 dX11_rule_38 rfl ?_
    refine gNextStall_cursor 0 rfl (tb_in (i := 12) (j := 19) rfl rfl) dX11_rule_39 ?_
    obtain ⟨q5, h5, h⟩ := bd_some h
    refine b_callVN (isC := [2]) (ci := 0)  (st := []) (bs1 := ([bNextStallG K (a0 0) (fun j => some (f0_rules j 0)) f0_images ((a0 1) 0) ((a0 2) 0) ((a0 3) 0) ((a0 7) 0) ((a0 8) 0) g0, bTape K (a0 1) g1.1 q2.2.2.2.2, bCursor K (a0 2) q2.1 q2.2.1 q4.1 q4.2.1, bWorldG K (a0 3) ((a0 4) 0) ((a0 5) 0) ((a0 6) 0) g3, bFairG K (a0 4) g4, bFairG K (a0 5) g5, bNotesG K (a0 6) g6, bPastG K (a0 7) f7_fairs g7, bTrialsG K (a0 8) ((a0 9) 0) ((a0 10) 0) ((a0 11) 0) g8, bFairG K (a0 9) g9, bOrderG K (a0 10) g10, bOrderG K (a0 11) g11] ++ (fam 6 (fun j => bRuleG K (f0_rules j) ((va_up p0_rules0 j3 (q4.2.2.1, q4.2.2.2.1, q4.2.2.2.2.1, q4.2.2.2.2.2.1, q4.2.2.2.2.2.2.1, q4.2.2.2.2.2.2.2.1, q4.2.2.2.2.2.2.2.2.1, q4.2.2.2.2.2.2.2.2.2, (p0_rules0 j3).2.2.2.2.2.2.2.2.1, (p0_rules0 j3).2.2.2.2.2.2.2.2.2)) j)) ++ []))) (cCursor_isFine (a0 := (a0 2)) (z0_text := q2.1) (z0_size := q2.2.1) (z0_at := q4.1) (z0_fault := q4.2.1) h5) rfl rfl (Nat.le_of_ble_eq_true rfl) kCursor_isFine (List.mem_of_getElem? (i := 27) rfl) (by decide) (by decide) rfl rfl rfl rfl rfl rfl rfl dX11_rule_42 ?_
    refine r_if_ne 59 dX11_rule_45 (by decide) (fun c6 => ?_) (fun c6 => ?_)
    · replace h := it_neg c6 h
      refine r_aload_n 0 dX11_rule_59 rfl ?_
      refine r_dup dX11_rule_60 rfl ?_
      refine gNextStall_ruleCount 0 rfl (tb_in (i := 12) (j := 22) rfl rfl) dX11_rule_61 ?_
      refine r_iconst (x := (1 : Int32)) dX11_rule_64 (by decide) ?_
      refine r_iadd dX11_rule_65 ?_
      obtain ⟨y7, e7, h⟩ := lt_some h
      refine r_top e7 ?_
      refine pNextStall_ruleCount (bs1 := ([bNextStall K (a0 0) (fun j => some (f0_rules j 0)) f0_images ((a0 1) 0) ((a0 2) 0) ((a0 3) 0) ((a0 7) 0) ((a0 8) 0) y7 g0.2, bTape K (a0 1) g1.1 q2.2.2.2.2, bCursor K (a0 2) q2.1 q2.2.1 q4.1 q4.2.1, bWorldG K (a0 3) ((a0 4) 0) ((a0 5) 0) ((a0 6) 0) g3, bFairG K (a0 4) g4, bFairG K (a0 5) g5, bNotesG K (a0 6) g6, bPastG K (a0 7) f7_fairs g7, bTrialsG K (a0 8) ((a0 9) 0) ((a0 10) 0) ((a0 11) 0) g8, bFairG K (a0 9) g9, bOrderG K (a0 10) g10, bOrderG K (a0 11) g11] ++ (fam 6 (fun j => bRuleG K (f0_rules j) ((va_up p0_rules0 j3 (q4.2.2.1, q4.2.2.2.1, q4.2.2.2.2.1, q4.2.2.2.2.2.1, q4.2.2.2.2.2.2.1, q4.2.2.2.2.2.2.2.1, q4.2.2.2.2.2.2.2.2.1, q4.2.2.2.2.2.2.2.2.2, (p0_rules0 j3).2.2.2.2.2.2.2.2.1, (p0_rules0 j3).2.2.2.2.2.2.2.2.2)) j)) ++ []))) 0 rfl rfl (tb_in (i := 12) (j := 22) rfl rfl) dX11_rule_66 ?_
      refine r_aload_n 0 dX11_rule_69 rfl ?_
      refine gNextStall_ruleCount 0 rfl (tb_in (i := 12) (j := 22) rfl rfl) dX11_rule_70 ?_
      refine r_iconst (x := (1 : Int32)) dX11_rule_73 (by decide) ?_
      refine r_isub dX11_rule_74 ?_
      have hq := Option.some.inj h
      subst hq
      exact r_iret rfl dX11_rule_75
    · replace h := it_pos c6 h
      refine r_bipush (x := (-2 : Int32)) dX11_rule_48 (by decide) ?_
      refine r_aload_n 0 dX11_rule_50 rfl ?_
      refine gNextStall_cursor 0 rfl (tb_in (i := 12) (j := 19) rfl rfl) dX11_rule_51 ?_
      refine gCursor_faultN 2 rfl (List.mem_of_getElem? (i := 7) rfl) dX11_rule_54 ?_
      refine r_isub dX11_rule_57 ?_
      have hq := Option.some.inj h
      subst hq
      exact r_iret rfl dX11_rule_58
  · replace h := it_neg c1 h
    refine r_iconst (x := (-1 : Int32)) dX11_rule_9 (by decide) ?_
    have hq := Option.some.inj h
    subst hq
    exact r_iret rfl dX11_rule_10
end
theorem dX11_force_0 : decode cX11_force 0 = .ok (.iload_n 1, 1) := by decide +kernel
theorem dX11_force_1 : decode cX11_force 1 = .ok (.iconst (-1), 1) := by decide +kernel
theorem dX11_force_2 : decode cX11_force 2 = .ok (.aload_n 0, 1) := by decide +kernel
theorem dX11_force_3 : decode cX11_force 3 = .ok (.getfield 29, 3) := by decide +kernel
theorem dX11_force_6 : decode cX11_force 6 = .ok (.iconst 1, 1) := by decide +kernel
theorem dX11_force_7 : decode cX11_force 7 = .ok (.isub, 1) := by decide +kernel
theorem dX11_force_8 : decode cX11_force 8 = .ok (.invokestatic 70, 3) := by decide +kernel
theorem dX11_force_11 : decode cX11_force 11 = .ok (.ifCond .ne 6, 3) := by decide +kernel
theorem dX11_force_14 : decode cX11_force 14 = .ok (.bipush (-2), 2) := by decide +kernel
theorem dX11_force_16 : decode cX11_force 16 = .ok (.ireturn, 1) := by decide +kernel
theorem dX11_force_17 : decode cX11_force 17 = .ok (.aload_n 0, 1) := by decide +kernel
theorem dX11_force_18 : decode cX11_force 18 = .ok (.getfield 36, 3) := by decide +kernel
theorem dX11_force_21 : decode cX11_force 21 = .ok (.getfield 112, 3) := by decide +kernel
theorem dX11_force_24 : decode cX11_force 24 = .ok (.istore_n 2, 1) := by decide +kernel
theorem dX11_force_25 : decode cX11_force 25 = .ok (.aload_n 0, 1) := by decide +kernel
theorem dX11_force_26 : decode cX11_force 26 = .ok (.getfield 36, 3) := by decide +kernel
theorem dX11_force_29 : decode cX11_force 29 = .ok (.iload_n 1, 1) := by decide +kernel
theorem dX11_force_30 : decode cX11_force 30 = .ok (.putfield 112, 3) := by decide +kernel
theorem dX11_force_33 : decode cX11_force 33 = .ok (.iload_n 2, 1) := by decide +kernel
theorem dX11_force_34 : decode cX11_force 34 = .ok (.ireturn, 1) := by decide +kernel
abbrev MNextStall_force : rx_M := (RX11, yX11_force, cX11_force, 3, (some .int), 2)
theorem kNextStall_force : rKv MNextStall_force 1 := ⟨tb_in (i := 31) (j := 9) rfl rfl, tb_in (i := 31) (j := 10) rfl rfl, tb_in (i := 2) (j := 22) rfl rfl, tb_in (i := 13) (j := 28) rfl rfl, ⟨by decide, by decide, by decide +kernel⟩, by decide⟩
section
variable {a0 : Nat → Nat → Nat} {g0 : tyNextStall} {g1 : tyTape} {g2 : tyCursor} {g3 : tyWorld} {g4 : tyFair} {g5 : tyFair} {g6 : tyNotes} {g7 : tyPast} {g8 : tyTrials} {g9 : tyFair} {g10 : tyOrder} {g11 : tyOrder} {f0_rules : Nat → Option Nat} {f0_images : Nat → Option Nat} {f7_fairs : Nat → Option Nat}
def mNextStall_force (x1 : Int32) (g0 : tyNextStall) (g3 : tyWorld) : Option (Int32 × tyWorld) := (mNextStall_within x1 (-1 : Int32) (g0.1 - (1 : Int32))).bind (fun q1 => (if q1 = 0 then some ((-2 : Int32), g3) else some (g3.2.1, (g3.1, x1, g3.2.2))))
set_option maxHeartbeats 4000000 in
set_option maxRecDepth 20000 in
theorem cNextStall_force {q : Int32 × tyWorld} {x1 : Int32} (h : mNextStall_force x1 g0 g3 = some q) : rMet l D Z (ty7 K) MNextStall_force [.ref ((a0 0) 0), .int x1] (List.flatten [bNextStallG K (a0 0) f0_rules f0_images ((a0 1) 0) ((a0 2) 0) ((a0 3) 0) ((a0 7) 0) ((a0 8) 0) g0, bTapeG K (a0 1) g1, bCursorG K (a0 2) g2, bWorldG K (a0 3) ((a0 4) 0) ((a0 5) 0) ((a0 6) 0) g3, bFairG K (a0 4) g4, bFairG K (a0 5) g5, bNotesG K (a0 6) g6, bPastG K (a0 7) f7_fairs g7, bTrialsG K (a0 8) ((a0 9) 0) ((a0 10) 0) ((a0 11) 0) g8, bFairG K (a0 9) g9, bOrderG K (a0 10) g10, bOrderG K (a0 11) g11]) (List.flatten [bNextStallG K (a0 0) f0_rules f0_images ((a0 1) 0) ((a0 2) 0) ((a0 3) 0) ((a0 7) 0) ((a0 8) 0) g0, bTapeG K (a0 1) g1, bCursorG K (a0 2) g2, bWorldG K (a0 3) ((a0 4) 0) ((a0 5) 0) ((a0 6) 0) q.2, bFairG K (a0 4) g4, bFairG K (a0 5) g5, bNotesG K (a0 6) g6, bPastG K (a0 7) f7_fairs g7, bTrialsG K (a0 8) ((a0 9) 0) ((a0 10) 0) ((a0 11) 0) g8, bFairG K (a0 9) g9, bOrderG K (a0 10) g10, bOrderG K (a0 11) g11]) (some (.int q.1)) := by
  refine rMet.of (by decide) rfl (Nat.le_of_ble_eq_true rfl) ?_
  refine r_sub (lv' := [(0, .ref ((a0 0) 0)), (1, .int x1)]) [0, 1] rfl ?_
  unfold mNextStall_force at h
  refine r_iload_n 1 dX11_force_0 rfl ?_
  refine r_iconst (x := (-1 : Int32)) dX11_force_1 (by decide) ?_
  refine r_aload_n 0 dX11_force_2 rfl ?_
  refine gNextStall_ruleCount 0 rfl (tb_in (i := 12) (j := 22) rfl rfl) dX11_force_3 ?_
  refine r_iconst (x := (1 : Int32)) dX11_force_6 (by decide) ?_
  refine r_isub dX11_force_7 ?_
  obtain ⟨q1, h1, h⟩ := bd_some h
  refine b_callS (isC := []) (st := []) (bs1 := [bNextStallG K (a0 0) f0_rules f0_images ((a0 1) 0) ((a0 2) 0) ((a0 3) 0) ((a0 7) 0) ((a0 8) 0) g0, bTapeG K (a0 1) g1, bCursorG K (a0 2) g2, bWorldG K (a0 3) ((a0 4) 0) ((a0 5) 0) ((a0 6) 0) g3, bFairG K (a0 4) g4, bFairG K (a0 5) g5, bNotesG K (a0 6) g6, bPastG K (a0 7) f7_fairs g7, bTrialsG K (a0 8) ((a0 9) 0) ((a0 10) 0) ((a0 11) 0) g8, bFairG K (a0 9) g9, bOrderG K (a0 10) g10, bOrderG K (a0 11) g11]) (cNextStall_within   h1) rfl rfl (Nat.le_of_ble_eq_true rfl) kNextStall_within (tb_in (i := 13) (j := 17) rfl rfl) (by decide) (by decide) rfl rfl rfl dX11_force_8 ?_
  refine r_if_ne 17 dX11_force_11 (by decide) (fun c2 => ?_) (fun c2 => ?_)
  · replace h := it_neg c2 h
    refine r_aload_n 0 dX11_force_17 rfl ?_
    refine gNextStall_world 0 rfl (tb_in (i := 12) (j := 26) rfl rfl) dX11_force_18 ?_
    refine gWorld_inForceN 3 rfl (List.mem_of_getElem? (i := 51) rfl) dX11_force_21 ?_
    refine r_istore_n (lv' := [(2, .int g3.2.1), (0, .ref ((a0 0) 0)), (1, .int x1)]) dX11_force_24 (Nat.le_of_ble_eq_true rfl) rfl ?_
    refine r_aload_n 1 dX11_force_25 rfl ?_
    refine gNextStall_world 0 rfl (tb_in (i := 12) (j := 26) rfl rfl) dX11_force_26 ?_
    refine r_iload_n 2 dX11_force_29 rfl ?_
    refine pWorld_inForceN (bs1 := [bNextStallG K (a0 0) f0_rules f0_images ((a0 1) 0) ((a0 2) 0) ((a0 3) 0) ((a0 7) 0) ((a0 8) 0) g0, bTapeG K (a0 1) g1, bCursorG K (a0 2) g2, bWorld K (a0 3) ((a0 4) 0) ((a0 5) 0) ((a0 6) 0) g3.1 x1 g3.2.2, bFairG K (a0 4) g4, bFairG K (a0 5) g5, bNotesG K (a0 6) g6, bPastG K (a0 7) f7_fairs g7, bTrialsG K (a0 8) ((a0 9) 0) ((a0 10) 0) ((a0 11) 0) g8, bFairG K (a0 9) g9, bOrderG K (a0 10) g10, bOrderG K (a0 11) g11]) 3 rfl rfl (List.mem_of_getElem? (i := 51) rfl) dX11_force_30 ?_
    refine r_iload_n 0 dX11_force_33 rfl ?_
    have hq := Option.some.inj h
    subst hq
    exact r_iret rfl dX11_force_34
  · replace h := it_pos c2 h
    refine r_bipush (x := (-2 : Int32)) dX11_force_14 (by decide) ?_
    have hq := Option.some.inj h
    subst hq
    exact r_iret rfl dX11_force_16
end
theorem dX11_isStall_0 : decode cX11_isStall 0 = .ok (.iload_n 1, 1) := by decide +kernel
theorem dX11_isStall_1 : decode cX11_isStall 1 = .ok (.iconst 0, 1) := by decide +kernel
theorem dX11_isStall_2 : decode cX11_isStall 2 = .ok (.aload_n 0, 1) := by decide +kernel
theorem dX11_isStall_3 : decode cX11_isStall 3 = .ok (.getfield 36, 3) := by decide +kernel
theorem dX11_isStall_6 : decode cX11_isStall 6 = .ok (.getfield 119, 3) := by decide +kernel
theorem dX11_isStall_9 : decode cX11_isStall 9 = .ok (.getfield 102, 3) := by decide +kernel
theorem dX11_isStall_12 : decode cX11_isStall 12 = .ok (.iconst 1, 1) := by decide +kernel
theorem dX11_isStall_13 : decode cX11_isStall 13 = .ok (.isub, 1) := by decide +kernel
theorem dX11_isStall_14 : decode cX11_isStall 14 = .ok (.invokestatic 70, 3) := by decide +kernel
theorem dX11_isStall_17 : decode cX11_isStall 17 = .ok (.ireturn, 1) := by decide +kernel
abbrev MNextStall_isStall : rx_M := (RX11, yX11_isStall, cX11_isStall, 2, (some .boolean), 2)
theorem kNextStall_isStall : rKv MNextStall_isStall 1 := ⟨tb_in (i := 14) (j := 0) rfl rfl, tb_in (i := 14) (j := 1) rfl rfl, tb_in (i := 2) (j := 22) rfl rfl, tb_in (i := 13) (j := 29) rfl rfl, ⟨by decide, by decide, by decide +kernel⟩, by decide⟩
section
variable {a0 : Nat → Nat → Nat} {g0 : tyNextStall} {g1 : tyTape} {g2 : tyCursor} {g3 : tyWorld} {g4 : tyFair} {g5 : tyFair} {g6 : tyNotes} {g7 : tyPast} {g8 : tyTrials} {g9 : tyFair} {g10 : tyOrder} {g11 : tyOrder} {f0_rules : Nat → Option Nat} {f0_images : Nat → Option Nat} {f7_fairs : Nat → Option Nat}
def mNextStall_isStall (x1 : Int32) (g5 : tyFair) : Option (Int32) := (mNextStall_within x1 (0 : Int32) (g5.2.2.1 - (1 : Int32))).bind (fun q1 => rq (bo q1) (some (q1)))
set_option maxHeartbeats 4000000 in
set_option maxRecDepth 20000 in
theorem cNextStall_isStall {q : Int32} {x1 : Int32} (h : mNextStall_isStall x1 g5 = some q) : rMet l D Z (ty7 K) MNextStall_isStall [.ref ((a0 0) 0), .int x1] (List.flatten [bNextStallG K (a0 0) f0_rules f0_images ((a0 1) 0) ((a0 2) 0) ((a0 3) 0) ((a0 7) 0) ((a0 8) 0) g0, bTapeG K (a0 1) g1, bCursorG K (a0 2) g2, bWorldG K (a0 3) ((a0 4) 0) ((a0 5) 0) ((a0 6) 0) g3, bFairG K (a0 4) g4, bFairG K (a0 5) g5, bNotesG K (a0 6) g6, bPastG K (a0 7) f7_fairs g7, bTrialsG K (a0 8) ((a0 9) 0) ((a0 10) 0) ((a0 11) 0) g8, bFairG K (a0 9) g9, bOrderG K (a0 10) g10, bOrderG K (a0 11) g11]) (List.flatten [bNextStallG K (a0 0) f0_rules f0_images ((a0 1) 0) ((a0 2) 0) ((a0 3) 0) ((a0 7) 0) ((a0 8) 0) g0, bTapeG K (a0 1) g1, bCursorG K (a0 2) g2, bWorldG K (a0 3) ((a0 4) 0) ((a0 5) 0) ((a0 6) 0) g3, bFairG K (a0 4) g4, bFairG K (a0 5) g5, bNotesG K (a0 6) g6, bPastG K (a0 7) f7_fairs g7, bTrialsG K (a0 8) ((a0 9) 0) ((a0 10) 0) ((a0 11) 0) g8, bFairG K (a0 9) g9, bOrderG K (a0 10) g10, bOrderG K (a0 11) g11]) (some (.int q)) := by
  refine rMet.of (by decide) rfl (Nat.le_of_ble_eq_true rfl) ?_
  refine r_sub (lv' := [(0, .ref ((a0 0) 0)), (1, .int x1)]) [0, 1] rfl ?_
  unfold mNextStall_isStall at h
  refine r_iload_n 1 dX11_isStall_0 rfl ?_
  refine r_iconst (x := (0 : Int32)) dX11_isStall_1 (by decide) ?_
  refine r_aload_n 0 dX11_isStall_2 rfl ?_
  refine gNextStall_world 0 rfl (tb_in (i := 12) (j := 26) rfl rfl) dX11_isStall_3 ?_
  refine gWorld_nowN 3 rfl (List.mem_of_getElem? (i := 55) rfl) dX11_isStall_6 ?_
  refine gFair_stallsN 5 rfl (List.mem_of_getElem? (i := 15) rfl) dX11_isStall_9 ?_
  refine r_iconst (x := (1 : Int32)) dX11_isStall_12 (by decide) ?_
  refine r_isub dX11_isStall_13 ?_
  obtain ⟨q1, h1, h⟩ := bd_some h
  refine b_callS (isC := []) (st := []) (bs1 := [bNextStallG K (a0 0) f0_rules f0_images ((a0 1) 0) ((a0 2) 0) ((a0 3) 0) ((a0 7) 0) ((a0 8) 0) g0, bTapeG K (a0 1) g1, bCursorG K (a0 2) g2, bWorldG K (a0 3) ((a0 4) 0) ((a0 5) 0) ((a0 6) 0) g3, bFairG K (a0 4) g4, bFairG K (a0 5) g5, bNotesG K (a0 6) g6, bPastG K (a0 7) f7_fairs g7, bTrialsG K (a0 8) ((a0 9) 0) ((a0 10) 0) ((a0 11) 0) g8, bFairG K (a0 9) g9, bOrderG K (a0 10) g10, bOrderG K (a0 11) g11]) (cNextStall_within   h1) rfl rfl (Nat.le_of_ble_eq_true rfl) kNextStall_within (tb_in (i := 13) (j := 17) rfl rfl) (by decide) (by decide) rfl rfl rfl dX11_isStall_14 ?_
  obtain ⟨h2, h⟩ := rq_some h
  have hq := Option.some.inj h
  subst hq
  exact r_zret (ty := .boolean) rfl (bo_nar h2) dX11_isStall_17
end
theorem dX11_stall_0 : decode cX11_stall 0 = .ok (.aload_n 0, 1) := by decide +kernel
theorem dX11_stall_1 : decode cX11_stall 1 = .ok (.iload_n 1, 1) := by decide +kernel
theorem dX11_stall_2 : decode cX11_stall 2 = .ok (.invokevirtual 115, 3) := by decide +kernel
theorem dX11_stall_5 : decode cX11_stall 5 = .ok (.ifCond .ne 5, 3) := by decide +kernel
theorem dX11_stall_8 : decode cX11_stall 8 = .ok (.iconst (-1), 1) := by decide +kernel
theorem dX11_stall_9 : decode cX11_stall 9 = .ok (.ireturn, 1) := by decide +kernel
theorem dX11_stall_10 : decode cX11_stall 10 = .ok (.aload_n 0, 1) := by decide +kernel
theorem dX11_stall_11 : decode cX11_stall 11 = .ok (.getfield 36, 3) := by decide +kernel
theorem dX11_stall_14 : decode cX11_stall 14 = .ok (.getfield 119, 3) := by decide +kernel
theorem dX11_stall_17 : decode cX11_stall 17 = .ok (.astore_n 3, 1) := by decide +kernel
theorem dX11_stall_18 : decode cX11_stall 18 = .ok (.iload_n 2, 1) := by decide +kernel
theorem dX11_stall_19 : decode cX11_stall 19 = .ok (.tableswitch 111 0 8 #[49, 56, 63, 70, 77, 83, 90, 97, 104], 49) := by decide +kernel
theorem dX11_stall_68 : decode cX11_stall 68 = .ok (.aload_n 3, 1) := by decide +kernel
theorem dX11_stall_69 : decode cX11_stall 69 = .ok (.getfield 122, 3) := by decide +kernel
theorem dX11_stall_72 : decode cX11_stall 72 = .ok (.iload_n 1, 1) := by decide +kernel
theorem dX11_stall_73 : decode cX11_stall 73 = .ok (.iaload, 1) := by decide +kernel
theorem dX11_stall_74 : decode cX11_stall 74 = .ok (.ireturn, 1) := by decide +kernel
theorem dX11_stall_75 : decode cX11_stall 75 = .ok (.aload_n 3, 1) := by decide +kernel
theorem dX11_stall_76 : decode cX11_stall 76 = .ok (.getfield 126, 3) := by decide +kernel
theorem dX11_stall_79 : decode cX11_stall 79 = .ok (.iload_n 1, 1) := by decide +kernel
theorem dX11_stall_80 : decode cX11_stall 80 = .ok (.iaload, 1) := by decide +kernel
theorem dX11_stall_81 : decode cX11_stall 81 = .ok (.ireturn, 1) := by decide +kernel
theorem dX11_stall_82 : decode cX11_stall 82 = .ok (.aload_n 3, 1) := by decide +kernel
theorem dX11_stall_83 : decode cX11_stall 83 = .ok (.getfield 129, 3) := by decide +kernel
theorem dX11_stall_86 : decode cX11_stall 86 = .ok (.iload_n 1, 1) := by decide +kernel
theorem dX11_stall_87 : decode cX11_stall 87 = .ok (.iaload, 1) := by decide +kernel
theorem dX11_stall_88 : decode cX11_stall 88 = .ok (.ireturn, 1) := by decide +kernel
theorem dX11_stall_89 : decode cX11_stall 89 = .ok (.aload_n 3, 1) := by decide +kernel
theorem dX11_stall_90 : decode cX11_stall 90 = .ok (.getfield 132, 3) := by decide +kernel
theorem dX11_stall_93 : decode cX11_stall 93 = .ok (.iload_n 1, 1) := by decide +kernel
theorem dX11_stall_94 : decode cX11_stall 94 = .ok (.iaload, 1) := by decide +kernel
theorem dX11_stall_95 : decode cX11_stall 95 = .ok (.ireturn, 1) := by decide +kernel
theorem dX11_stall_96 : decode cX11_stall 96 = .ok (.aload_n 3, 1) := by decide +kernel
theorem dX11_stall_97 : decode cX11_stall 97 = .ok (.iload_n 1, 1) := by decide +kernel
theorem dX11_stall_98 : decode cX11_stall 98 = .ok (.invokevirtual 135, 3) := by decide +kernel
theorem dX11_stall_101 : decode cX11_stall 101 = .ok (.ireturn, 1) := by decide +kernel
theorem dX11_stall_102 : decode cX11_stall 102 = .ok (.aload_n 3, 1) := by decide +kernel
theorem dX11_stall_103 : decode cX11_stall 103 = .ok (.getfield 139, 3) := by decide +kernel
theorem dX11_stall_106 : decode cX11_stall 106 = .ok (.iload_n 1, 1) := by decide +kernel
theorem dX11_stall_107 : decode cX11_stall 107 = .ok (.iaload, 1) := by decide +kernel
theorem dX11_stall_108 : decode cX11_stall 108 = .ok (.ireturn, 1) := by decide +kernel
theorem dX11_stall_109 : decode cX11_stall 109 = .ok (.aload_n 3, 1) := by decide +kernel
theorem dX11_stall_110 : decode cX11_stall 110 = .ok (.getfield 142, 3) := by decide +kernel
theorem dX11_stall_113 : decode cX11_stall 113 = .ok (.iload_n 1, 1) := by decide +kernel
theorem dX11_stall_114 : decode cX11_stall 114 = .ok (.iaload, 1) := by decide +kernel
theorem dX11_stall_115 : decode cX11_stall 115 = .ok (.ireturn, 1) := by decide +kernel
theorem dX11_stall_116 : decode cX11_stall 116 = .ok (.aload_n 3, 1) := by decide +kernel
theorem dX11_stall_117 : decode cX11_stall 117 = .ok (.getfield 145, 3) := by decide +kernel
theorem dX11_stall_120 : decode cX11_stall 120 = .ok (.iload_n 1, 1) := by decide +kernel
theorem dX11_stall_121 : decode cX11_stall 121 = .ok (.iaload, 1) := by decide +kernel
theorem dX11_stall_122 : decode cX11_stall 122 = .ok (.ireturn, 1) := by decide +kernel
theorem dX11_stall_123 : decode cX11_stall 123 = .ok (.aload_n 3, 1) := by decide +kernel
theorem dX11_stall_124 : decode cX11_stall 124 = .ok (.getfield 148, 3) := by decide +kernel
theorem dX11_stall_127 : decode cX11_stall 127 = .ok (.iload_n 1, 1) := by decide +kernel
theorem dX11_stall_128 : decode cX11_stall 128 = .ok (.iaload, 1) := by decide +kernel
theorem dX11_stall_129 : decode cX11_stall 129 = .ok (.ireturn, 1) := by decide +kernel
theorem dX11_stall_130 : decode cX11_stall 130 = .ok (.iconst (-1), 1) := by decide +kernel
theorem dX11_stall_131 : decode cX11_stall 131 = .ok (.ireturn, 1) := by decide +kernel
abbrev MNextStall_stall : rx_M := (RX11, yX11_stall, cX11_stall, 4, (some .int), 3)
theorem kNextStall_stall : rKv MNextStall_stall 2 := ⟨tb_in (i := 31) (j := 15) rfl rfl, tb_in (i := 31) (j := 16) rfl rfl, tb_in (i := 2) (j := 22) rfl rfl, tb_in (i := 13) (j := 30) rfl rfl, ⟨by decide, by decide, by decide +kernel⟩, by decide⟩
section
variable {a0 : Nat → Nat → Nat} {g0 : tyNextStall} {g1 : tyTape} {g2 : tyCursor} {g3 : tyWorld} {g4 : tyFair} {g5 : tyFair} {g6 : tyNotes} {g7 : tyPast} {g8 : tyTrials} {g9 : tyFair} {g10 : tyOrder} {g11 : tyOrder} {f0_rules : Nat → Option Nat} {f0_images : Nat → Option Nat} {f7_fairs : Nat → Option Nat}
def mNextStall_stall (x1 : Int32) (x2 : Int32) (g5 : tyFair) : Option (Int32) := (mNextStall_isStall x1 g5).bind (fun q1 => (if q1 = 0 then some ((-1 : Int32)) else (if x2 = (0 : Int32) then rq (inb x1 6) (some ((g5.2.2.2.2.2.1 x1.toNatClampNeg))) else if x2 = (1 : Int32) then rq (inb x1 6) (some ((g5.2.2.2.2.2.2.1 x1.toNatClampNeg))) else if x2 = (2 : Int32) then rq (inb x1 6) (some ((g5.2.2.2.2.2.2.2.2.1 x1.toNatClampNeg))) else if x2 = (3 : Int32) then rq (inb x1 6) (some ((g5.2.2.2.2.2.2.2.2.2.1 x1.toNatClampNeg))) else if x2 = (4 : Int32) then (mFair_placeOf x1 g5.2.2.1 g5.2.2.2.2.2.2.2.2.2.2.2.1).bind (fun q12 => some (q12)) else if x2 = (5 : Int32) then rq (inb x1 6) (some ((g5.2.2.2.2.2.2.2.2.2.2.2.2.2.2.2.2.1 x1.toNatClampNeg))) else if x2 = (6 : Int32) then rq (inb x1 6) (some ((g5.2.2.2.2.2.2.2.2.2.2.2.2.2.2.2.2.2.1 x1.toNatClampNeg))) else if x2 = (7 : Int32) then rq (inb x1 6) (some ((g5.2.2.2.2.2.2.2.2.2.2.2.2.1 x1.toNatClampNeg))) else if x2 = (8 : Int32) then rq (inb x1 6) (some ((g5.2.2.2.2.2.2.2.2.2.2.1 x1.toNatClampNeg))) else some ((-1 : Int32)))))
set_option maxHeartbeats 4000000 in
set_option maxRecDepth 20000 in
theorem cNextStall_stall {q : Int32} {x1 : Int32} {x2 : Int32} (h : mNextStall_stall x1 x2 g5 = some q) : rMet l D Z (ty7 K) MNextStall_stall [.ref ((a0 0) 0), .int x1, .int x2] (List.flatten [bNextStallG K (a0 0) f0_rules f0_images ((a0 1) 0) ((a0 2) 0) ((a0 3) 0) ((a0 7) 0) ((a0 8) 0) g0, bTapeG K (a0 1) g1, bCursorG K (a0 2) g2, bWorldG K (a0 3) ((a0 4) 0) ((a0 5) 0) ((a0 6) 0) g3, bFairG K (a0 4) g4, bFairG K (a0 5) g5, bNotesG K (a0 6) g6, bPastG K (a0 7) f7_fairs g7, bTrialsG K (a0 8) ((a0 9) 0) ((a0 10) 0) ((a0 11) 0) g8, bFairG K (a0 9) g9, bOrderG K (a0 10) g10, bOrderG K (a0 11) g11]) (List.flatten [bNextStallG K (a0 0) f0_rules f0_images ((a0 1) 0) ((a0 2) 0) ((a0 3) 0) ((a0 7) 0) ((a0 8) 0) g0, bTapeG K (a0 1) g1, bCursorG K (a0 2) g2, bWorldG K (a0 3) ((a0 4) 0) ((a0 5) 0) ((a0 6) 0) g3, bFairG K (a0 4) g4, bFairG K (a0 5) g5, bNotesG K (a0 6) g6, bPastG K (a0 7) f7_fairs g7, bTrialsG K (a0 8) ((a0 9) 0) ((a0 10) 0) ((a0 11) 0) g8, bFairG K (a0 9) g9, bOrderG K (a0 10) g10, bOrderG K (a0 11) g11]) (some (.int q)) := by
  refine rMet.of (by decide) rfl (Nat.le_of_ble_eq_true rfl) ?_
  refine r_sub (lv' := [(0, .ref ((a0 0) 0)), (1, .int x1), (2, .int x2)]) [0, 1, 2] rfl ?_
  unfold mNextStall_stall at h
  refine r_aload_n 0 dX11_stall_0 rfl ?_
  refine r_iload_n 1 dX11_stall_1 rfl ?_
  obtain ⟨q1, h1, h⟩ := bd_some h
  refine b_callV (isC := [0, 1, 2, 3, 4, 5, 6, 7, 8, 9, 10, 11]) (ci := 9)  (st := []) (bs1 := [bNextStallG K (a0 0) f0_rules f0_images ((a0 1) 0) ((a0 2) 0) ((a0 3) 0) ((a0 7) 0) ((a0 8) 0) g0, bTapeG K (a0 1) g1, bCursorG K (a0 2) g2, bWorldG K (a0 3) ((a0 4) 0) ((a0 5) 0) ((a0 6) 0) g3, bFairG K (a0 4) g4, bFairG K (a0 5) g5, bNotesG K (a0 6) g6, bPastG K (a0 7) f7_fairs g7, bTrialsG K (a0 8) ((a0 9) 0) ((a0 10) 0) ((a0 11) 0) g8, bFairG K (a0 9) g9, bOrderG K (a0 10) g10, bOrderG K (a0 11) g11]) (cNextStall_isStall (a0 := a0) (g0 := g0) (g1 := g1) (g2 := g2) (g3 := g3) (g4 := g4) (g5 := g5) (g6 := g6) (g7 := g7) (g8 := g8) (g9 := g9) (g10 := g10) (g11 := g11) h1) rfl rfl (Nat.le_of_ble_eq_true rfl) kNextStall_isStall (tb_in (i := 13) (j := 31) rfl rfl) (by decide) (by decide) rfl rfl rfl rfl rfl rfl rfl dX11_stall_2 ?_
  refine r_if_ne 10 dX11_stall_5 (by decide) (fun c2 => ?_) (fun c2 => ?_)
  · replace h := it_neg c2 h
    refine r_aload_n 0 dX11_stall_10 rfl ?_
    refine gNextStall_world 0 rfl (tb_in (i := 12) (j := 26) rfl rfl) dX11_stall_11 ?_
    refine gWorld_nowN 3 rfl (List.mem_of_getElem? (i := 55) rfl) dX11_stall_14 ?_
    refine r_astore_n (lv' := [(3, .ref ((a0 5) 0)), (0, .ref ((a0 0) 0)), (1, .int x1), (2, .int x2)]) dX11_stall_17 (Nat.le_of_ble_eq_true rfl) rfl ?_
    refine r_iload_n 3 dX11_stall_18 rfl ?_
    by_cases c3 : x2 = (0 : Int32)
    · replace h := it_pos c3 h
      refine r_tableIn 68 dX11_stall_19 (by rw [c3]; decide) (by rw [c3]; decide) (by rw [c3]; rfl) (by decide) ?_
      refine r_aload_n 0 dX11_stall_68 rfl ?_
      refine gFair_goodsN 5 rfl (List.mem_of_getElem? (i := 24) rfl) dX11_stall_69 ?_
      refine r_iload_n 2 dX11_stall_72 rfl ?_
      obtain ⟨h4, h⟩ := rq_some h
      refine lFair_goods 5 rfl (inb_in h4) dX11_stall_73 ?_
      have hq := Option.some.inj h
      subst hq
      exact r_iret rfl dX11_stall_74
    replace h := it_neg c3 h
    by_cases c5 : x2 = (1 : Int32)
    · replace h := it_pos c5 h
      refine r_tableIn 75 dX11_stall_19 (by rw [c5]; decide) (by rw [c5]; decide) (by rw [c5]; rfl) (by decide) ?_
      refine r_aload_n 0 dX11_stall_75 rfl ?_
      refine gFair_priceN 5 rfl (List.mem_of_getElem? (i := 28) rfl) dX11_stall_76 ?_
      refine r_iload_n 2 dX11_stall_79 rfl ?_
      obtain ⟨h6, h⟩ := rq_some h
      refine lFair_price 5 rfl (inb_in h6) dX11_stall_80 ?_
      have hq := Option.some.inj h
      subst hq
      exact r_iret rfl dX11_stall_81
    replace h := it_neg c5 h
    by_cases c7 : x2 = (2 : Int32)
    · replace h := it_pos c7 h
      refine r_tableIn 82 dX11_stall_19 (by rw [c7]; decide) (by rw [c7]; decide) (by rw [c7]; rfl) (by decide) ?_
      refine r_aload_n 0 dX11_stall_82 rfl ?_
      refine gFair_tillN 5 rfl (List.mem_of_getElem? (i := 30) rfl) dX11_stall_83 ?_
      refine r_iload_n 2 dX11_stall_86 rfl ?_
      obtain ⟨h8, h⟩ := rq_some h
      refine lFair_till 5 rfl (inb_in h8) dX11_stall_87 ?_
      have hq := Option.some.inj h
      subst hq
      exact r_iret rfl dX11_stall_88
    replace h := it_neg c7 h
    by_cases c9 : x2 = (3 : Int32)
    · replace h := it_pos c9 h
      refine r_tableIn 89 dX11_stall_19 (by rw [c9]; decide) (by rw [c9]; decide) (by rw [c9]; rfl) (by decide) ?_
      refine r_aload_n 0 dX11_stall_89 rfl ?_
      refine gFair_wealthN 5 rfl (List.mem_of_getElem? (i := 33) rfl) dX11_stall_90 ?_
      refine r_iload_n 2 dX11_stall_93 rfl ?_
      obtain ⟨h10, h⟩ := rq_some h
      refine lFair_wealth 5 rfl (inb_in h10) dX11_stall_94 ?_
      have hq := Option.some.inj h
      subst hq
      exact r_iret rfl dX11_stall_95
    replace h := it_neg c9 h
    by_cases c11 : x2 = (4 : Int32)
    · replace h := it_pos c11 h
      refine r_tableIn 96 dX11_stall_19 (by rw [c11]; decide) (by rw [c11]; decide) (by rw [c11]; rfl) (by decide) ?_
      refine r_aload_n 0 dX11_stall_96 rfl ?_
      refine r_iload_n 2 dX11_stall_97 rfl ?_
      obtain ⟨q12, h12, h⟩ := bd_some h
      refine b_callVN (isC := [5]) (ci := 1)  (st := []) (bs1 := [bNextStallG K (a0 0) f0_rules f0_images ((a0 1) 0) ((a0 2) 0) ((a0 3) 0) ((a0 7) 0) ((a0 8) 0) g0, bTapeG K (a0 1) g1, bCursorG K (a0 2) g2, bWorldG K (a0 3) ((a0 4) 0) ((a0 5) 0) ((a0 6) 0) g3, bFairG K (a0 4) g4, bFairG K (a0 5) g5, bNotesG K (a0 6) g6, bPastG K (a0 7) f7_fairs g7, bTrialsG K (a0 8) ((a0 9) 0) ((a0 10) 0) ((a0 11) 0) g8, bFairG K (a0 9) g9, bOrderG K (a0 10) g10, bOrderG K (a0 11) g11]) (cFair_placeOf (a0 := (a0 5)) (z0_lasts := g5.1) (z0_keeps := g5.2.1) (z0_stalls := g5.2.2.1) (z0_buyers := g5.2.2.2.1) (z0_minute := g5.2.2.2.2.1) (z0_goods := g5.2.2.2.2.2.1) (z0_price := g5.2.2.2.2.2.2.1) (z0_tongue := g5.2.2.2.2.2.2.2.1) (z0_till := g5.2.2.2.2.2.2.2.2.1) (z0_wealth := g5.2.2.2.2.2.2.2.2.2.1) (z0_sold := g5.2.2.2.2.2.2.2.2.2.2.1) (z0_ring := g5.2.2.2.2.2.2.2.2.2.2.2.1) (z0_grudges := g5.2.2.2.2.2.2.2.2.2.2.2.2.1) (z0_purse := g5.2.2.2.2.2.2.2.2.2.2.2.2.2.1) (z0_came := g5.2.2.2.2.2.2.2.2.2.2.2.2.2.2.1) (z0_had := g5.2.2.2.2.2.2.2.2.2.2.2.2.2.2.2.1) (z0_seller := g5.2.2.2.2.2.2.2.2.2.2.2.2.2.2.2.2.1) (z0_praise := g5.2.2.2.2.2.2.2.2.2.2.2.2.2.2.2.2.2.1) (z0_borne := g5.2.2.2.2.2.2.2.2.2.2.2.2.2.2.2.2.2.2) h12) rfl rfl (Nat.le_of_ble_eq_true rfl) kFair_placeOf (List.mem_of_getElem? (i := 42) rfl) (by decide) (by decide) rfl rfl rfl rfl rfl rfl rfl dX11_stall_98 ?_
      have hq := Option.some.inj h
      subst hq
      exact r_iret rfl dX11_stall_101
    replace h := it_neg c11 h
    by_cases c13 : x2 = (5 : Int32)
    · replace h := it_pos c13 h
      refine r_tableIn 102 dX11_stall_19 (by rw [c13]; decide) (by rw [c13]; decide) (by rw [c13]; rfl) (by decide) ?_
      refine r_aload_n 0 dX11_stall_102 rfl ?_
      refine gFair_sellerN 5 rfl (List.mem_of_getElem? (i := 43) rfl) dX11_stall_103 ?_
      refine r_iload_n 2 dX11_stall_106 rfl ?_
      obtain ⟨h14, h⟩ := rq_some h
      refine lFair_seller 5 rfl (inb_in h14) dX11_stall_107 ?_
      have hq := Option.some.inj h
      subst hq
      exact r_iret rfl dX11_stall_108
    replace h := it_neg c13 h
    by_cases c15 : x2 = (6 : Int32)
    · replace h := it_pos c15 h
      refine r_tableIn 109 dX11_stall_19 (by rw [c15]; decide) (by rw [c15]; decide) (by rw [c15]; rfl) (by decide) ?_
      refine r_aload_n 0 dX11_stall_109 rfl ?_
      refine gFair_praiseN 5 rfl (List.mem_of_getElem? (i := 45) rfl) dX11_stall_110 ?_
      refine r_iload_n 2 dX11_stall_113 rfl ?_
      obtain ⟨h16, h⟩ := rq_some h
      refine lFair_praise 5 rfl (inb_in h16) dX11_stall_114 ?_
      have hq := Option.some.inj h
      subst hq
      exact r_iret rfl dX11_stall_115
    replace h := it_neg c15 h
    by_cases c17 : x2 = (7 : Int32)
    · replace h := it_pos c17 h
      refine r_tableIn 116 dX11_stall_19 (by rw [c17]; decide) (by rw [c17]; decide) (by rw [c17]; rfl) (by decide) ?_
      refine r_aload_n 0 dX11_stall_116 rfl ?_
      refine gFair_grudgesN 5 rfl (List.mem_of_getElem? (i := 36) rfl) dX11_stall_117 ?_
      refine r_iload_n 2 dX11_stall_120 rfl ?_
      obtain ⟨h18, h⟩ := rq_some h
      refine lFair_grudges 5 rfl (inb_in h18) dX11_stall_121 ?_
      have hq := Option.some.inj h
      subst hq
      exact r_iret rfl dX11_stall_122
    replace h := it_neg c17 h
    by_cases c19 : x2 = (8 : Int32)
    · replace h := it_pos c19 h
      refine r_tableIn 123 dX11_stall_19 (by rw [c19]; decide) (by rw [c19]; decide) (by rw [c19]; rfl) (by decide) ?_
      refine r_aload_n 0 dX11_stall_123 rfl ?_
      refine gFair_soldN 5 rfl (List.mem_of_getElem? (i := 35) rfl) dX11_stall_124 ?_
      refine r_iload_n 2 dX11_stall_127 rfl ?_
      obtain ⟨h20, h⟩ := rq_some h
      refine lFair_sold 5 rfl (inb_in h20) dX11_stall_128 ?_
      have hq := Option.some.inj h
      subst hq
      exact r_iret rfl dX11_stall_129
    replace h := it_neg c19 h
    refine r_tableOut 130 dX11_stall_19 (tbl_out (by decide) (by decide) (fun k h1 h2 => by
      rcases (show k = 0 ∨ k = 1 ∨ k = 2 ∨ k = 3 ∨ k = 4 ∨ k = 5 ∨ k = 6 ∨ k = 7 ∨ k = 8 by omega) with rfl | rfl | rfl | rfl | rfl | rfl | rfl | rfl | rfl
      · exact c3
      · exact c5
      · exact c7
      · exact c9
      · exact c11
      · exact c13
      · exact c15
      · exact c17
      · exact c19
      )) (by decide) ?_
    refine r_iconst (x := (-1 : Int32)) dX11_stall_130 (by decide) ?_
    have hq := Option.some.inj h
    subst hq
    exact r_iret rfl dX11_stall_131
  · replace h := it_pos c2 h
    refine r_iconst (x := (-1 : Int32)) dX11_stall_8 (by decide) ?_
    have hq := Option.some.inj h
    subst hq
    exact r_iret rfl dX11_stall_9
end
end PC7
