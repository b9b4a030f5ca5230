section PC2
variable {l : Launch} {D : va_G} {Z : (Nat → Nat) × (Nat → Nat)} {K : Nat → ClassId}
abbrev MFair_staysSon : rx_M := (RX1, yX1_staysSo, cX1_staysSo, 4, (some .boolean), 1)
theorem kFair_staysSon : rKv MFair_staysSon 1 := ⟨tb_in (i := 5) (j := 25) rfl rfl, tb_in (i := 5) (j := 26) rfl rfl, tb_in (i := 3) (j := 26) rfl rfl, tb_in (i := 5) (j := 12) rfl rfl, ⟨by decide, by decide, by decide +kernel⟩, by decide⟩
section
variable {a0 : Nat → Nat} {z0_lasts : Int32} {z0_keeps : Int32} {z0_stalls : Int32} {z0_buyers : Int32} {z0_minute : Int32} {z0_goods : Nat → Int32} {z0_price : Nat → Int32} {z0_tongue : Nat → Int32} {z0_till : Nat → Int32} {z0_wealth : Nat → Int32} {z0_sold : Nat → Int32} {z0_ring : Nat → Int32} {z0_grudges : Nat → Int32} {z0_purse : Nat → Int32} {z0_came : Nat → Int32} {z0_had : Nat → Int32} {z0_seller : Nat → Int32} {z0_praise : Nat → Int32} {z0_borne : Nat → Int32}
def mFair_staysSon  : Option (Int32) := some ((1 : Int32))
set_option maxHeartbeats 4000000 in
set_option maxRecDepth 20000 in
theorem cFair_staysSon {q : Int32}  (h : mFair_staysSon = some q) : rMet l D Z (ty7 K) MFair_staysSon [.ref (a0 0), .null] (List.flatten [bFair K a0 z0_lasts z0_keeps z0_stalls z0_buyers z0_minute z0_goods z0_price z0_tongue z0_till z0_wealth z0_sold z0_ring z0_grudges z0_purse z0_came z0_had z0_seller z0_praise z0_borne]) (List.flatten [bFair K a0 z0_lasts z0_keeps z0_stalls z0_buyers z0_minute z0_goods z0_price z0_tongue z0_till z0_wealth z0_sold z0_ring z0_grudges z0_purse z0_came z0_had z0_seller z0_praise z0_borne]) (some (.int q)) := by
  refine rMet.of (by decide) rfl (Nat.le_of_ble_eq_true rfl) ?_
  refine r_sub (lv' := [(0, .ref (a0 0)), (1, .null)]) [0, 1] rfl ?_
  unfold mFair_staysSon at h
  refine r_aload_nN 1 dX1_staysSo_0 rfl ?_
  refine r_ifnull_nil 11 dX1_staysSo_1 (by decide) ?_
  refine r_iconst (x := (1 : Int32)) dX1_staysSo_11 (by decide) ?_
  have hq := Option.some.inj h
  subst hq
  exact r_zret (ty := .boolean) rfl rfl dX1_staysSo_12
end
abbrev MFair_gon : rx_M := (RX1, yX1_go, cX1_go, 8, (some .int), 4)
theorem kFair_gon : rKv MFair_gon 3 := ⟨tb_in (i := 7) (j := 17) rfl rfl, tb_in (i := 7) (j := 18) rfl rfl, tb_in (i := 3) (j := 26) rfl rfl, tb_in (i := 5) (j := 30) rfl rfl, ⟨by decide, by decide, by decide +kernel⟩, by decide⟩
section
variable {a0 : Nat → Nat} {z0_lasts : Int32} {z0_keeps : Int32} {z0_stalls : Int32} {z0_buyers : Int32} {z0_minute : Int32} {z0_goods : Nat → Int32} {z0_price : Nat → Int32} {z0_tongue : Nat → Int32} {z0_till : Nat → Int32} {z0_wealth : Nat → Int32} {z0_sold : Nat → Int32} {z0_ring : Nat → Int32} {z0_grudges : Nat → Int32} {z0_purse : Nat → Int32} {z0_came : Nat → Int32} {z0_had : Nat → Int32} {z0_seller : Nat → Int32} {z0_praise : Nat → Int32} {z0_borne : Nat → Int32}
def mFair_gon_j30 (k9 : Int32 → Int32 → Int32 → Int32 → (Nat → Int32) → (Nat → Int32) → (Nat → Int32) → (Nat → Int32) → (Nat → Int32) → (Nat → Int32) → Option (Int32 × Int32 × (Nat → Int32) × (Nat → Int32) × (Nat → Int32) × (Nat → Int32) × (Nat → Int32) × (Nat → Int32))) (x2 : Int32) (x3 : Int32) (x4 : Int32) (x6 : Int32) (z0_lasts : Int32) (z0_keeps : Int32) (z0_stalls : Int32) (z0_buyers : Int32) (z0_minute : Int32) (z0_goods : Nat → Int32) (z0_price : Nat → Int32) (z0_till : Nat → Int32) (z0_wealth : Nat → Int32) (z0_sold : Nat → Int32) (z0_purse : Nat → Int32) (z0_came : Nat → Int32) (z0_had : Nat → Int32) (z0_seller : Nat → Int32) (z0_praise : Nat → Int32) (s0 : Int32) : Option (Int32 × Int32 × (Nat → Int32) × (Nat → Int32) × (Nat → Int32) × (Nat → Int32) × (Nat → Int32) × (Nat → Int32)) := (if s0 = 0 then (mFair_staysSon).bind (fun q7 => (if q7 = 0 then lt (x4 + s0) (fun y9 => (mFair_closeMinute z0_lasts z0_keeps z0_stalls z0_minute z0_till z0_wealth z0_seller).bind (fun q10 => k9 y9 (0 : Int32) (x6 + (1 : Int32)) q10.1 z0_goods q10.2.1 q10.2.2 z0_sold z0_purse z0_had)) else lt (x4 + s0) (fun y11 => (mFair_closeMinute z0_lasts z0_keeps z0_stalls z0_minute z0_till z0_wealth z0_seller).bind (fun q12 => k9 y11 (1 : Int32) (x6 + (1 : Int32)) q12.1 z0_goods q12.2.1 q12.2.2 z0_sold z0_purse z0_had)))) else lt (x4 + s0) (fun y5 => (mFair_closeMinute z0_lasts z0_keeps z0_stalls z0_minute z0_till z0_wealth z0_seller).bind (fun q6 => k9 y5 (0 : Int32) (x6 + (1 : Int32)) q6.1 z0_goods q6.2.1 q6.2.2 z0_sold z0_purse z0_had)))
set_option maxHeartbeats 4000000 in
set_option maxRecDepth 20000 in
theorem cFair_gon_j30 {q : Int32 × Int32 × (Nat → Int32) × (Nat → Int32) × (Nat → Int32) × (Nat → Int32) × (Nat → Int32) × (Nat → Int32)} {x2 : Int32} {x3 : Int32} {x4 : Int32} {x6 : Int32} {s0 : Int32} {k9 : Int32 → Int32 → Int32 → Int32 → (Nat → Int32) → (Nat → Int32) → (Nat → Int32) → (Nat → Int32) → (Nat → Int32) → (Nat → Int32) → Option (Int32 × Int32 × (Nat → Int32) × (Nat → Int32) × (Nat → Int32) × (Nat → Int32) × (Nat → Int32) × (Nat → Int32))} (hk9 : ∀ (x4 : Int32) (x5 : Int32) (x6 : Int32) (z0_minute : Int32) (z0_goods : Nat → Int32) (z0_till : Nat → Int32) (z0_wealth : Nat → Int32) (z0_sold : Nat → Int32) (z0_purse : Nat → Int32) (z0_had : Nat → Int32), k9 x4 x5 x6 z0_minute z0_goods z0_till z0_wealth z0_sold z0_purse z0_had = some q → rW l D Z (ty7 K) MFair_gon 9 [(0, .ref (a0 0)), (1, .null), (2, .int x2), (3, .int x3), (4, .int x4), (5, .int x5), (6, .int x6)] [] (List.flatten [bFair K a0 z0_lasts z0_keeps z0_stalls z0_buyers z0_minute z0_goods z0_price z0_tongue z0_till z0_wealth z0_sold z0_ring z0_grudges z0_purse z0_came z0_had z0_seller z0_praise z0_borne]) (List.flatten [bFair K a0 z0_lasts z0_keeps z0_stalls z0_buyers q.2.1 q.2.2.1 z0_price z0_tongue q.2.2.2.1 q.2.2.2.2.1 q.2.2.2.2.2.1 z0_ring z0_grudges q.2.2.2.2.2.2.1 z0_came q.2.2.2.2.2.2.2 z0_seller z0_praise z0_borne]) (some (.int q.1))) (h : mFair_gon_j30 k9 x2 x3 x4 x6 z0_lasts z0_keeps z0_stalls z0_buyers z0_minute z0_goods z0_price z0_till z0_wealth z0_sold z0_purse z0_came z0_had z0_seller z0_praise s0 = some q) : rW l D Z (ty7 K) MFair_gon 30 [(0, .ref (a0 0)), (1, .null), (2, .int x2), (3, .int x3), (4, .int x4), (6, .int x6)] [.int s0] (List.flatten [bFair K a0 z0_lasts z0_keeps z0_stalls z0_buyers z0_minute z0_goods z0_price z0_tongue z0_till z0_wealth z0_sold z0_ring z0_grudges z0_purse z0_came z0_had z0_seller z0_praise z0_borne]) (List.flatten [bFair K a0 z0_lasts z0_keeps z0_stalls z0_buyers q.2.1 q.2.2.1 z0_price z0_tongue q.2.2.2.1 q.2.2.2.2.1 q.2.2.2.2.2.1 z0_ring z0_grudges q.2.2.2.2.2.2.1 z0_came q.2.2.2.2.2.2.2 z0_seller z0_praise z0_borne]) (some (.int q.1)) := by
  unfold mFair_gon_j30 at h
  refine r_istore (lv' := [(7, .int s0), (0, .ref (a0 0)), (1, .null), (2, .int x2), (3, .int x3), (4, .int x4), (6, .int x6)]) dX1_go_30 (Nat.le_of_ble_eq_true rfl) rfl ?_
  refine r_iload 0 dX1_go_32 rfl ?_
  refine r_if_ne 49 dX1_go_34 (by decide) (fun c4 => ?_) (fun c4 => ?_)
  · replace h := it_neg c4 h
    refine r_iconst (x := (0 : Int32)) dX1_go_49 (by decide) ?_
    refine r_istore (lv' := [(5, .int (0 : Int32)), (7, .int s0), (0, .ref (a0 0)), (1, .null), (2, .int x2), (3, .int x3), (4, .int x4), (6, .int x6)]) dX1_go_50 (Nat.le_of_ble_eq_true rfl) rfl ?_
    refine r_iload 6 dX1_go_52 rfl ?_
    refine r_iload 1 dX1_go_54 rfl ?_
    refine r_iadd dX1_go_56 ?_
    obtain ⟨y5, e5, h⟩ := lt_some h
    refine r_top e5 ?_
    refine r_istore (lv' := [(4, .int y5), (5, .int (0 : Int32)), (7, .int s0), (0, .ref (a0 0)), (1, .null), (2, .int x2), (3, .int x3), (6, .int x6)]) dX1_go_57 (Nat.le_of_ble_eq_true rfl) rfl ?_
    refine r_aload_n 3 dX1_go_59 rfl ?_
    obtain ⟨q6, h6, h⟩ := bd_some h
    refine b_callV (isC := [0]) (ci := 1)  (st := []) (bs1 := [bFair K a0 z0_lasts z0_keeps z0_stalls z0_buyers q6.1 z0_goods z0_price z0_tongue q6.2.1 q6.2.2 z0_sold z0_ring z0_grudges z0_purse z0_came z0_had z0_seller z0_praise z0_borne]) (cFair_closeMinute (a0 := a0) (z0_lasts := z0_lasts) (z0_keeps := z0_keeps) (z0_stalls := z0_stalls) (z0_buyers := z0_buyers) (z0_minute := z0_minute) (z0_goods := z0_goods) (z0_price := z0_price) (z0_tongue := z0_tongue) (z0_till := z0_till) (z0_wealth := z0_wealth) (z0_sold := z0_sold) (z0_ring := z0_ring) (z0_grudges := z0_grudges) (z0_purse := z0_purse) (z0_came := z0_came) (z0_had := z0_had) (z0_seller := z0_seller) (z0_praise := z0_praise) (z0_borne := z0_borne) h6) rfl rfl (Nat.le_of_ble_eq_true rfl) kFair_closeMinute (tb_in (i := 5) (j := 27) rfl rfl) (by decide) (by decide) rfl rfl rfl rfl rfl rfl rfl dX1_go_60 ?_
    refine r_iinc (y := (x6 + (1 : Int32))) (lv' := [(6, .int (x6 + (1 : Int32))), (4, .int y5), (5, .int (0 : Int32)), (7, .int s0), (0, .ref (a0 0)), (1, .null), (2, .int x2), (3, .int x3)]) 7 dX1_go_63 rfl rfl (Nat.le_of_ble_eq_true rfl) rfl ?_
    refine r_goto 9 dX1_go_66 (by decide) ?_
    refine r_sub (lv' := [(0, .ref (a0 0)), (1, .null), (2, .int x2), (3, .int x3), (4, .int y5), (5, .int (0 : Int32)), (6, .int (x6 + (1 : Int32)))]) [4, 5, 6, 7, 1, 2, 0] rfl ?_
    exact hk9 y5 (0 : Int32) (x6 + (1 : Int32)) q6.1 z0_goods q6.2.1 q6.2.2 z0_sold z0_purse z0_had h
  · replace h := it_pos c4 h
    refine r_aload_n 1 dX1_go_37 rfl ?_
    refine r_aload_nN 2 dX1_go_38 rfl ?_
    obtain ⟨q7, h7, h⟩ := bd_some h
    refine b_callV (isC := [0]) (ci := 1)  (st := []) (bs1 := [bFair K a0 z0_lasts z0_keeps z0_stalls z0_buyers z0_minute z0_goods z0_price z0_tongue z0_till z0_wealth z0_sold z0_ring z0_grudges z0_purse z0_came z0_had z0_seller z0_praise z0_borne]) (cFair_staysSon (a0 := a0) (z0_lasts := z0_lasts) (z0_keeps := z0_keeps) (z0_stalls := z0_stalls) (z0_buyers := z0_buyers) (z0_minute := z0_minute) (z0_goods := z0_goods) (z0_price := z0_price) (z0_tongue := z0_tongue) (z0_till := z0_till) (z0_wealth := z0_wealth) (z0_sold := z0_sold) (z0_ring := z0_ring) (z0_grudges := z0_grudges) (z0_purse := z0_purse) (z0_came := z0_came) (z0_had := z0_had) (z0_seller := z0_seller) (z0_praise := z0_praise) (z0_borne := z0_borne) h7) rfl rfl (Nat.le_of_ble_eq_true rfl) kFair_staysSon (tb_in (i := 5) (j := 24) rfl rfl) (by decide) (by decide) rfl rfl rfl rfl rfl rfl rfl dX1_go_39 ?_
    refine r_if_eq 49 dX1_go_42 (by decide) (fun c8 => ?_) (fun c8 => ?_)
    · replace h := it_pos c8 h
      refine r_iconst (x := (0 : Int32)) dX1_go_49 (by decide) ?_
      refine r_istore (lv' := [(5, .int (0 : Int32)), (7, .int s0), (0, .ref (a0 0)), (1, .null), (2, .int x2), (3, .int x3), (4, .int x4), (6, .int x6)]) dX1_go_50 (Nat.le_of_ble_eq_true rfl) rfl ?_
      refine r_iload 6 dX1_go_52 rfl ?_
      refine r_iload 1 dX1_go_54 rfl ?_
      refine r_iadd dX1_go_56 ?_
      obtain ⟨y9, e9, h⟩ := lt_some h
      refine r_top e9 ?_
      refine r_istore (lv' := [(4, .int y9), (5, .int (0 : Int32)), (7, .int s0), (0, .ref (a0 0)), (1, .null), (2, .int x2), (3, .int x3), (6, .int x6)]) dX1_go_57 (Nat.le_of_ble_eq_true rfl) rfl ?_
      refine r_aload_n 3 dX1_go_59 rfl ?_
      obtain ⟨q10, h10, h⟩ := bd_some h
      refine b_callV (isC := [0]) (ci := 1)  (st := []) (bs1 := [bFair K a0 z0_lasts z0_keeps z0_stalls z0_buyers q10.1 z0_goods z0_price z0_tongue q10.2.1 q10.2.2 z0_sold z0_ring z0_grudges z0_purse z0_came z0_had z0_seller z0_praise z0_borne]) (cFair_closeMinute (a0 := a0) (z0_lasts := z0_lasts) (z0_keeps := z0_keeps) (z0_stalls := z0_stalls) (z0_buyers := z0_buyers) (z0_minute := z0_minute) (z0_goods := z0_goods) (z0_price := z0_price) (z0_tongue := z0_tongue) (z0_till := z0_till) (z0_wealth := z0_wealth) (z0_sold := z0_sold) (z0_ring := z0_ring) (z0_grudges := z0_grudges) (z0_purse := z0_purse) (z0_came := z0_came) (z0_had := z0_had) (z0_seller := z0_seller) (z0_praise := z0_praise) (z0_borne := z0_borne) h10) rfl rfl (Nat.le_of_ble_eq_true rfl) kFair_closeMinute (tb_in (i := 5) (j := 27) rfl rfl) (by decide) (by decide) rfl rfl rfl rfl rfl rfl rfl dX1_go_60 ?_
      refine r_iinc (y := (x6 + (1 : Int32))) (lv' := [(6, .int (x6 + (1 : Int32))), (4, .int y9), (5, .int (0 : Int32)), (7, .int s0), (0, .ref (a0 0)), (1, .null), (2, .int x2), (3, .int x3)]) 7 dX1_go_63 rfl rfl (Nat.le_of_ble_eq_true rfl) rfl ?_
      refine r_goto 9 dX1_go_66 (by decide) ?_
      refine r_sub (lv' := [(0, .ref (a0 0)), (1, .null), (2, .int x2), (3, .int x3), (4, .int y9), (5, .int (0 : Int32)), (6, .int (x6 + (1 : Int32)))]) [4, 5, 6, 7, 1, 2, 0] rfl ?_
      exact hk9 y9 (0 : Int32) (x6 + (1 : Int32)) q10.1 z0_goods q10.2.1 q10.2.2 z0_sold z0_purse z0_had h
    · replace h := it_neg c8 h
      refine r_iconst (x := (1 : Int32)) dX1_go_45 (by decide) ?_
      refine r_goto 50 dX1_go_46 (by decide) ?_
      refine r_istore (lv' := [(5, .int (1 : Int32)), (7, .int s0), (0, .ref (a0 0)), (1, .null), (2, .int x2), (3, .int x3), (4, .int x4), (6, .int x6)]) dX1_go_50 (Nat.le_of_ble_eq_true rfl) rfl ?_
      refine r_iload 6 dX1_go_52 rfl ?_
      refine r_iload 1 dX1_go_54 rfl ?_
      refine r_iadd dX1_go_56 ?_
      obtain ⟨y11, e11, h⟩ := lt_some h
      refine r_top e11 ?_
      refine r_istore (lv' := [(4, .int y11), (5, .int (1 : Int32)), (7, .int s0), (0, .ref (a0 0)), (1, .null), (2, .int x2), (3, .int x3), (6, .int x6)]) dX1_go_57 (Nat.le_of_ble_eq_true rfl) rfl ?_
      refine r_aload_n 3 dX1_go_59 rfl ?_
      obtain ⟨q12, h12, h⟩ := bd_some h
      refine b_callV (isC := [0]) (ci := 1)  (st := []) (bs1 := [bFair K a0 z0_lasts z0_keeps z0_stalls z0_buyers q12.1 z0_goods z0_price z0_tongue q12.2.1 q12.2.2 z0_sold z0_ring z0_grudges z0_purse z0_came z0_had z0_seller z0_praise z0_borne]) (cFair_closeMinute (a0 := a0) (z0_lasts := z0_lasts) (z0_keeps := z0_keeps) (z0_stalls := z0_stalls) (z0_buyers := z0_buyers) (z0_minute := z0_minute) (z0_goods := z0_goods) (z0_price := z0_price) (z0_tongue := z0_tongue) (z0_till := z0_till) (z0_wealth := z0_wealth) (z0_sold := z0_sold) (z0_ring := z0_ring) (z0_grudges := z0_grudges) (z0_purse := z0_purse) (z0_came := z0_came) (z0_had := z0_had) (z0_seller := z0_seller) (z0_praise := z0_praise) (z0_borne := z0_borne) h12) rfl rfl (Nat.le_of_ble_eq_true rfl) kFair_closeMinute (tb_in (i := 5) (j := 27) rfl rfl) (by decide) (by decide) rfl rfl rfl rfl rfl rfl rfl dX1_go_60 ?_
      refine r_iinc (y := (x6 + (1 : Int32))) (lv' := [(6, .int (x6 + (1 : Int32))), (4, .int y11), (5, .int (1 : Int32)), (7, .int s0), (0, .ref (a0 0)), (1, .null), (2, .int x2), (3, .int x3)]) 7 dX1_go_63 rfl rfl (Nat.le_of_ble_eq_true rfl) rfl ?_
      refine r_goto 9 dX1_go_66 (by decide) ?_
      refine r_sub (lv' := [(0, .ref (a0 0)), (1, .null), (2, .int x2), (3, .int x3), (4, .int y11), (5, .int (1 : Int32)), (6, .int (x6 + (1 : Int32)))]) [4, 5, 6, 7, 1, 2, 0] rfl ?_
      exact hk9 y11 (1 : Int32) (x6 + (1 : Int32)) q12.1 z0_goods q12.2.1 q12.2.2 z0_sold z0_purse z0_had h
def mFair_gon_l9 (z0_lasts : Int32) (z0_keeps : Int32) (z0_stalls : Int32) (z0_buyers : Int32) (z0_price : Nat → Int32) (z0_came : Nat → Int32) (z0_seller : Nat → Int32) (z0_praise : Nat → Int32) (x2 : Int32) (x3 : Int32) : Nat → Int32 → Int32 → Int32 → Int32 → (Nat → Int32) → (Nat → Int32) → (Nat → Int32) → (Nat → Int32) → (Nat → Int32) → (Nat → Int32) → Option (Int32 × Int32 × (Nat → Int32) × (Nat → Int32) × (Nat → Int32) × (Nat → Int32) × (Nat → Int32) × (Nat → Int32))
  | 0, _, _, _, _, _, _, _, _, _, _ => none
  | n + 1, x4, x5, x6, z0_minute, z0_goods, z0_till, z0_wealth, z0_sold, z0_purse, z0_had => (if x2 ≤ x6 then some (x4, z0_minute, z0_goods, z0_till, z0_wealth, z0_sold, z0_purse, z0_had) else (if x5 = 0 then (mFair_traden x3 z0_stalls z0_buyers z0_goods z0_price z0_till z0_sold z0_purse z0_came z0_had z0_seller z0_praise).bind (fun q3 => mFair_gon_j30 (mFair_gon_l9 z0_lasts z0_keeps z0_stalls z0_buyers z0_price z0_came z0_seller z0_praise x2 x3 n) x2 x3 x4 x6 z0_lasts z0_keeps z0_stalls z0_buyers z0_minute q3.2.1 z0_price q3.2.2.1 z0_wealth q3.2.2.2.1 q3.2.2.2.2.1 z0_came q3.2.2.2.2.2 z0_seller z0_praise q3.1) else mFair_gon_j30 (mFair_gon_l9 z0_lasts z0_keeps z0_stalls z0_buyers z0_price z0_came z0_seller z0_praise x2 x3 n) x2 x3 x4 x6 z0_lasts z0_keeps z0_stalls z0_buyers z0_minute z0_goods z0_price z0_till z0_wealth z0_sold z0_purse z0_came z0_had z0_seller z0_praise (0 : Int32)))
set_option maxHeartbeats 4000000 in
set_option maxRecDepth 20000 in
theorem cFair_gon_l9 {q : Int32 × Int32 × (Nat → Int32) × (Nat → Int32) × (Nat → Int32) × (Nat → Int32) × (Nat → Int32) × (Nat → Int32)} {x2 : Int32} {x3 : Int32}  : ∀ (n : Nat) (x4 : Int32) (x5 : Int32) (x6 : Int32) (z0_minute : Int32) (z0_goods : Nat → Int32) (z0_till : Nat → Int32) (z0_wealth : Nat → Int32) (z0_sold : Nat → Int32) (z0_purse : Nat → Int32) (z0_had : Nat → Int32), mFair_gon_l9 z0_lasts z0_keeps z0_stalls z0_buyers z0_price z0_came z0_seller z0_praise x2 x3 n x4 x5 x6 z0_minute z0_goods z0_till z0_wealth z0_sold z0_purse z0_had = some q → rW l D Z (ty7 K) MFair_gon 9 [(0, .ref (a0 0)), (1, .null), (2, .int x2), (3, .int x3), (4, .int x4), (5, .int x5), (6, .int x6)] [] (List.flatten [bFair K a0 z0_lasts z0_keeps z0_stalls z0_buyers z0_minute z0_goods z0_price z0_tongue z0_till z0_wealth z0_sold z0_ring z0_grudges z0_purse z0_came z0_had z0_seller z0_praise z0_borne]) (List.flatten [bFair K a0 z0_lasts z0_keeps z0_stalls z0_buyers q.2.1 q.2.2.1 z0_price z0_tongue q.2.2.2.1 q.2.2.2.2.1 q.2.2.2.2.2.1 z0_ring z0_grudges q.2.2.2.2.2.2.1 z0_came q.2.2.2.2.2.2.2 z0_seller z0_praise z0_borne]) (some (.int q.1)) := by
  intro n
  induction n with
  | zero => intro x4 x5 x6 z0_minute z0_goods z0_till z0_wealth z0_sold z0_purse z0_had h; unfold mFair_gon_l9 at h; cases h
  | succ n ih =>
    intro x4 x5 x6 z0_minute z0_goods z0_till z0_wealth z0_sold z0_purse z0_had h
    unfold mFair_gon_l9 at h
    refine r_iload 6 dX1_go_9 rfl ?_
    refine r_iload_n 2 dX1_go_11 rfl ?_
    refine r_icmp_ge 69 dX1_go_12 (by decide) (fun c1 => ?_) (fun c1 => ?_)
    · replace h := it_pos c1 h
      refine r_iload 4 dX1_go_69 rfl ?_
      have hq := Option.some.inj h
      subst hq
      exact r_iret rfl dX1_go_71
    · replace h := it_neg c1 h
      refine r_iload 5 dX1_go_15 rfl ?_
      refine r_if_eq 24 dX1_go_17 (by decide) (fun c2 => ?_) (fun c2 => ?_)
      · replace h := it_pos c2 h
        refine r_aload_n 0 dX1_go_24 rfl ?_
        refine r_aload_nN 1 dX1_go_25 rfl ?_
        refine r_iload_n 3 dX1_go_26 rfl ?_
        obtain ⟨q3, h3, h⟩ := bd_some h
        refine b_callV (isC := [0]) (ci := 1)  (st := []) (bs1 := [bFair K a0 z0_lasts z0_keeps z0_stalls z0_buyers z0_minute q3.2.1 z0_price z0_tongue q3.2.2.1 z0_wealth q3.2.2.2.1 z0_ring z0_grudges q3.2.2.2.2.1 z0_came q3.2.2.2.2.2 z0_seller z0_praise z0_borne]) (cFair_traden (a0 := a0) (z0_lasts := z0_lasts) (z0_keeps := z0_keeps) (z0_stalls := z0_stalls) (z0_buyers := z0_buyers) (z0_minute := z0_minute) (z0_goods := z0_goods) (z0_price := z0_price) (z0_tongue := z0_tongue) (z0_till := z0_till) (z0_wealth := z0_wealth) (z0_sold := z0_sold) (z0_ring := z0_ring) (z0_grudges := z0_grudges) (z0_purse := z0_purse) (z0_came := z0_came) (z0_had := z0_had) (z0_seller := z0_seller) (z0_praise := z0_praise) (z0_borne := z0_borne) h3) rfl rfl (Nat.le_of_ble_eq_true rfl) kFair_traden (tb_in (i := 5) (j := 21) rfl rfl) (by decide) (by decide) rfl rfl rfl rfl rfl rfl rfl dX1_go_27 ?_
        refine r_sub (lv' := [(0, .ref (a0 0)), (1, .null), (2, .int x2), (3, .int x3), (4, .int x4), (6, .int x6)]) [0, 1, 2, 3, 4, 6] rfl ?_
        exact cFair_gon_j30  (ih) h
      · replace h := it_neg c2 h
        refine r_iconst (x := (0 : Int32)) dX1_go_20 (by decide) ?_
        refine r_goto 30 dX1_go_21 (by decide) ?_
        refine r_sub (lv' := [(0, .ref (a0 0)), (1, .null), (2, .int x2), (3, .int x3), (4, .int x4), (6, .int x6)]) [0, 1, 2, 3, 4, 6] rfl ?_
        exact cFair_gon_j30  (ih) h
def mFair_gon (x2 : Int32) (x3 : Int32) (z0_lasts : Int32) (z0_keeps : Int32) (z0_stalls : Int32) (z0_buyers : Int32) (z0_minute : Int32) (z0_goods : Nat → Int32) (z0_price : Nat → Int32) (z0_till : Nat → Int32) (z0_wealth : Nat → Int32) (z0_sold : Nat → Int32) (z0_purse : Nat → Int32) (z0_came : Nat → Int32) (z0_had : Nat → Int32) (z0_seller : Nat → Int32) (z0_praise : Nat → Int32) : Option (Int32 × Int32 × (Nat → Int32) × (Nat → Int32) × (Nat → Int32) × (Nat → Int32) × (Nat → Int32) × (Nat → Int32)) := mFair_gon_l9 z0_lasts z0_keeps z0_stalls z0_buyers z0_price z0_came z0_seller z0_praise x2 x3 FU (0 : Int32) (0 : Int32) (0 : Int32) z0_minute z0_goods z0_till z0_wealth z0_sold z0_purse z0_had
set_option maxHeartbeats 4000000 in
set_option maxRecDepth 20000 in
theorem cFair_gon {q : Int32 × Int32 × (Nat → Int32) × (Nat → Int32) × (Nat → Int32) × (Nat → Int32) × (Nat → Int32) × (Nat → Int32)} {x2 : Int32} {x3 : Int32} (h : mFair_gon x2 x3 z0_lasts z0_keeps z0_stalls z0_buyers z0_minute z0_goods z0_price z0_till z0_wealth z0_sold z0_purse z0_came z0_had z0_seller z0_praise = some q) : rMet l D Z (ty7 K) MFair_gon [.ref (a0 0), .null, .int x2, .int x3] (List.flatten [bFair K a0 z0_lasts z0_keeps z0_stalls z0_buyers z0_minute z0_goods z0_price z0_tongue z0_till z0_wealth z0_sold z0_ring z0_grudges z0_purse z0_came z0_had z0_seller z0_praise z0_borne]) (List.flatten [bFair K a0 z0_lasts z0_keeps z0_stalls z0_buyers q.2.1 q.2.2.1 z0_price z0_tongue q.2.2.2.1 q.2.2.2.2.1 q.2.2.2.2.2.1 z0_ring z0_grudges q.2.2.2.2.2.2.1 z0_came q.2.2.2.2.2.2.2 z0_seller z0_praise z0_borne]) (some (.int q.1)) := by
  refine rMet.of (by decide) rfl (Nat.le_of_ble_eq_true rfl) ?_
  refine r_sub (lv' := [(0, .ref (a0 0)), (1, .null), (2, .int x2), (3, .int x3)]) [0, 1, 2, 3] rfl ?_
  unfold mFair_gon at h
  refine r_iconst (x := (0 : Int32)) dX1_go_0 (by decide) ?_
  refine r_istore (lv' := [(4, .int (0 : Int32)), (0, .ref (a0 0)), (1, .null), (2, .int x2), (3, .int x3)]) dX1_go_1 (Nat.le_of_ble_eq_true rfl) rfl ?_
  refine r_iconst (x := (0 : Int32)) dX1_go_3 (by decide) ?_
  refine r_istore (lv' := [(5, .int (0 : Int32)), (4, .int (0 : Int32)), (0, .ref (a0 0)), (1, .null), (2, .int x2), (3, .int x3)]) dX1_go_4 (Nat.le_of_ble_eq_true rfl) rfl ?_
  refine r_iconst (x := (0 : Int32)) dX1_go_6 (by decide) ?_
  refine r_istore (lv' := [(6, .int (0 : Int32)), (5, .int (0 : Int32)), (4, .int (0 : Int32)), (0, .ref (a0 0)), (1, .null), (2, .int x2), (3, .int x3)]) dX1_go_7 (Nat.le_of_ble_eq_true rfl) rfl ?_
  refine r_sub (lv' := [(0, .ref (a0 0)), (1, .null), (2, .int x2), (3, .int x3), (4, .int (0 : Int32)), (5, .int (0 : Int32)), (6, .int (0 : Int32))]) [3, 4, 5, 6, 2, 1, 0] rfl ?_
  exact cFair_gon_l9   FU (0 : Int32) (0 : Int32) (0 : Int32) z0_minute z0_goods z0_till z0_wealth z0_sold z0_purse z0_had h
end
theorem dX1_partOf_0 : decode cX1_partOf 0 = .ok (.aload_n 0, 1) := by decide +kernel
theorem dX1_partOf_1 : decode cX1_partOf 1 = .ok (.aload_n 0, 1) := by decide +kernel
theorem dX1_partOf_2 : decode cX1_partOf 2 = .ok (.getfield 40, 3) := by decide +kernel
theorem dX1_partOf_5 : decode cX1_partOf 5 = .ok (.invokevirtual 130, 3) := by decide +kernel
theorem dX1_partOf_8 : decode cX1_partOf 8 = .ok (.i2l, 1) := by decide +kernel
theorem dX1_partOf_9 : decode cX1_partOf 9 = .ok (.lstore_n 3, 1) := by decide +kernel
theorem dX1_partOf_10 : decode cX1_partOf 10 = .ok (.lload_n 3, 1) := by decide +kernel
theorem dX1_partOf_11 : decode cX1_partOf 11 = .ok (.lconst 0, 1) := by decide +kernel
theorem dX1_partOf_12 : decode cX1_partOf 12 = .ok (.lcmp, 1) := by decide +kernel
theorem dX1_partOf_13 : decode cX1_partOf 13 = .ok (.ifCond .gt 5, 3) := by decide +kernel
theorem dX1_partOf_16 : decode cX1_partOf 16 = .ok (.iconst 0, 1) := by decide +kernel
theorem dX1_partOf_17 : decode cX1_partOf 17 = .ok (.ireturn, 1) := by decide +kernel
theorem dX1_partOf_18 : decode cX1_partOf 18 = .ok (.iload_n 1, 1) := by decide +kernel
theorem dX1_partOf_19 : decode cX1_partOf 19 = .ok (.i2l, 1) := by decide +kernel
theorem dX1_partOf_20 : decode cX1_partOf 20 = .ok (.lstore 5, 2) := by decide +kernel
theorem dX1_partOf_22 : decode cX1_partOf 22 = .ok (.lconst 0, 1) := by decide +kernel
theorem dX1_partOf_23 : decode cX1_partOf 23 = .ok (.lstore 7, 2) := by decide +kernel
theorem dX1_partOf_25 : decode cX1_partOf 25 = .ok (.iload_n 1, 1) := by decide +kernel
theorem dX1_partOf_26 : decode cX1_partOf 26 = .ok (.i2l, 1) := by decide +kernel
theorem dX1_partOf_27 : decode cX1_partOf 27 = .ok (.aload_n 0, 1) := by decide +kernel
theorem dX1_partOf_28 : decode cX1_partOf 28 = .ok (.getfield 40, 3) := by decide +kernel
theorem dX1_partOf_31 : decode cX1_partOf 31 = .ok (.iload_n 2, 1) := by decide +kernel
theorem dX1_partOf_32 : decode cX1_partOf 32 = .ok (.iaload, 1) := by decide +kernel
theorem dX1_partOf_33 : decode cX1_partOf 33 = .ok (.i2l, 1) := by decide +kernel
theorem dX1_partOf_34 : decode cX1_partOf 34 = .ok (.lmul, 1) := by decide +kernel
theorem dX1_partOf_35 : decode cX1_partOf 35 = .ok (.lload_n 3, 1) := by decide +kernel
theorem dX1_partOf_36 : decode cX1_partOf 36 = .ok (.lrem, 1) := by decide +kernel
theorem dX1_partOf_37 : decode cX1_partOf 37 = .ok (.lstore 9, 2) := by decide +kernel
theorem dX1_partOf_39 : decode cX1_partOf 39 = .ok (.iconst 0, 1) := by decide +kernel
theorem dX1_partOf_40 : decode cX1_partOf 40 = .ok (.istore 11, 2) := by decide +kernel
theorem dX1_partOf_42 : decode cX1_partOf 42 = .ok (.iload 11, 2) := by decide +kernel
theorem dX1_partOf_44 : decode cX1_partOf 44 = .ok (.aload_n 0, 1) := by decide +kernel
theorem dX1_partOf_45 : decode cX1_partOf 45 = .ok (.getfield 18, 3) := by decide +kernel
theorem dX1_partOf_48 : decode cX1_partOf 48 = .ok (.if_icmp .ge 70, 3) := by decide +kernel
theorem dX1_partOf_51 : decode cX1_partOf 51 = .ok (.lload 5, 2) := by decide +kernel
theorem dX1_partOf_53 : decode cX1_partOf 53 = .ok (.iload_n 1, 1) := by decide +kernel
theorem dX1_partOf_54 : decode cX1_partOf 54 = .ok (.i2l, 1) := by decide +kernel
theorem dX1_partOf_55 : decode cX1_partOf 55 = .ok (.aload_n 0, 1) := by decide +kernel
theorem dX1_partOf_56 : decode cX1_partOf 56 = .ok (.getfield 40, 3) := by decide +kernel
theorem dX1_partOf_59 : decode cX1_partOf 59 = .ok (.iload 11, 2) := by decide +kernel
theorem dX1_partOf_61 : decode cX1_partOf 61 = .ok (.iaload, 1) := by decide +kernel
theorem dX1_partOf_62 : decode cX1_partOf 62 = .ok (.i2l, 1) := by decide +kernel
theorem dX1_partOf_63 : decode cX1_partOf 63 = .ok (.lmul, 1) := by decide +kernel
theorem dX1_partOf_64 : decode cX1_partOf 64 = .ok (.lload_n 3, 1) := by decide +kernel
theorem dX1_partOf_65 : decode cX1_partOf 65 = .ok (.ldiv, 1) := by decide +kernel
theorem dX1_partOf_66 : decode cX1_partOf 66 = .ok (.lsub, 1) := by decide +kernel
theorem dX1_partOf_67 : decode cX1_partOf 67 = .ok (.lstore 5, 2) := by decide +kernel
theorem dX1_partOf_69 : decode cX1_partOf 69 = .ok (.iload_n 1, 1) := by decide +kernel
theorem dX1_partOf_70 : decode cX1_partOf 70 = .ok (.i2l, 1) := by decide +kernel
theorem dX1_partOf_71 : decode cX1_partOf 71 = .ok (.aload_n 0, 1) := by decide +kernel
theorem dX1_partOf_72 : decode cX1_partOf 72 = .ok (.getfield 40, 3) := by decide +kernel
theorem dX1_partOf_75 : decode cX1_partOf 75 = .ok (.iload 11, 2) := by decide +kernel
theorem dX1_partOf_77 : decode cX1_partOf 77 = .ok (.iaload, 1) := by decide +kernel
theorem dX1_partOf_78 : decode cX1_partOf 78 = .ok (.i2l, 1) := by decide +kernel
theorem dX1_partOf_79 : decode cX1_partOf 79 = .ok (.lmul, 1) := by decide +kernel
theorem dX1_partOf_80 : decode cX1_partOf 80 = .ok (.lload_n 3, 1) := by decide +kernel
theorem dX1_partOf_81 : decode cX1_partOf 81 = .ok (.lrem, 1) := by decide +kernel
theorem dX1_partOf_82 : decode cX1_partOf 82 = .ok (.lstore 12, 2) := by decide +kernel
theorem dX1_partOf_84 : decode cX1_partOf 84 = .ok (.lload 12, 2) := by decide +kernel
theorem dX1_partOf_86 : decode cX1_partOf 86 = .ok (.lload 9, 2) := by decide +kernel
theorem dX1_partOf_88 : decode cX1_partOf 88 = .ok (.lcmp, 1) := by decide +kernel
theorem dX1_partOf_89 : decode cX1_partOf 89 = .ok (.ifCond .gt 17, 3) := by decide +kernel
theorem dX1_partOf_92 : decode cX1_partOf 92 = .ok (.lload 12, 2) := by decide +kernel
theorem dX1_partOf_94 : decode cX1_partOf 94 = .ok (.lload 9, 2) := by decide +kernel
theorem dX1_partOf_96 : decode cX1_partOf 96 = .ok (.lcmp, 1) := by decide +kernel
theorem dX1_partOf_97 : decode cX1_partOf 97 = .ok (.ifCond .ne 15, 3) := by decide +kernel
theorem dX1_partOf_100 : decode cX1_partOf 100 = .ok (.iload 11, 2) := by decide +kernel
theorem dX1_partOf_102 : decode cX1_partOf 102 = .ok (.iload_n 2, 1) := by decide +kernel
theorem dX1_partOf_103 : decode cX1_partOf 103 = .ok (.if_icmp .ge 9, 3) := by decide +kernel
theorem dX1_partOf_106 : decode cX1_partOf 106 = .ok (.lload 7, 2) := by decide +kernel
theorem dX1_partOf_108 : decode cX1_partOf 108 = .ok (.lconst 1, 1) := by decide +kernel
theorem dX1_partOf_109 : decode cX1_partOf 109 = .ok (.ladd, 1) := by decide +kernel
theorem dX1_partOf_110 : decode cX1_partOf 110 = .ok (.lstore 7, 2) := by decide +kernel
theorem dX1_partOf_112 : decode cX1_partOf 112 = .ok (.iinc 11 1, 3) := by decide +kernel
theorem dX1_partOf_115 : decode cX1_partOf 115 = .ok (.goto (-73), 3) := by decide +kernel
theorem dX1_partOf_118 : decode cX1_partOf 118 = .ok (.iload_n 1, 1) := by decide +kernel
theorem dX1_partOf_119 : decode cX1_partOf 119 = .ok (.i2l, 1) := by decide +kernel
theorem dX1_partOf_120 : decode cX1_partOf 120 = .ok (.aload_n 0, 1) := by decide +kernel
theorem dX1_partOf_121 : decode cX1_partOf 121 = .ok (.getfield 40, 3) := by decide +kernel
theorem dX1_partOf_124 : decode cX1_partOf 124 = .ok (.iload_n 2, 1) := by decide +kernel
theorem dX1_partOf_125 : decode cX1_partOf 125 = .ok (.iaload, 1) := by decide +kernel
theorem dX1_partOf_126 : decode cX1_partOf 126 = .ok (.i2l, 1) := by decide +kernel
theorem dX1_partOf_127 : decode cX1_partOf 127 = .ok (.lmul, 1) := by decide +kernel
theorem dX1_partOf_128 : decode cX1_partOf 128 = .ok (.lload_n 3, 1) := by decide +kernel
theorem dX1_partOf_129 : decode cX1_partOf 129 = .ok (.ldiv, 1) := by decide +kernel
theorem dX1_partOf_130 : decode cX1_partOf 130 = .ok (.lstore 11, 2) := by decide +kernel
theorem dX1_partOf_132 : decode cX1_partOf 132 = .ok (.lload 7, 2) := by decide +kernel
theorem dX1_partOf_134 : decode cX1_partOf 134 = .ok (.lload 5, 2) := by decide +kernel
theorem dX1_partOf_136 : decode cX1_partOf 136 = .ok (.lcmp, 1) := by decide +kernel
theorem dX1_partOf_137 : decode cX1_partOf 137 = .ok (.ifCond .ge 10, 3) := by decide +kernel
theorem dX1_partOf_140 : decode cX1_partOf 140 = .ok (.lload 11, 2) := by decide +kernel
theorem dX1_partOf_142 : decode cX1_partOf 142 = .ok (.lconst 1, 1) := by decide +kernel
theorem dX1_partOf_143 : decode cX1_partOf 143 = .ok (.ladd, 1) := by decide +kernel
theorem dX1_partOf_144 : decode cX1_partOf 144 = .ok (.goto 5, 3) := by decide +kernel
theorem dX1_partOf_147 : decode cX1_partOf 147 = .ok (.lload 11, 2) := by decide +kernel
theorem dX1_partOf_149 : decode cX1_partOf 149 = .ok (.l2i, 1) := by decide +kernel
theorem dX1_partOf_150 : decode cX1_partOf 150 = .ok (.ireturn, 1) := by decide +kernel
abbrev MFair_partOf : rx_M := (RX1, yX1_partOf, cX1_partOf, 14, (some .int), 2)
theorem kFair_partOf : rKv MFair_partOf 2 := ⟨tb_in (i := 15) (j := 28) rfl rfl, tb_in (i := 15) (j := 29) rfl rfl, tb_in (i := 3) (j := 26) rfl rfl, tb_in (i := 5) (j := 31) rfl rfl, ⟨by decide, by decide, by decide +kernel⟩, by decide⟩
section
variable {a0 : Nat → Nat} {z0_lasts : Int32} {z0_keeps : Int32} {z0_stalls : Int32} {z0_buyers : Int32} {z0_minute : Int32} {z0_goods : Nat → Int32} {z0_price : Nat → Int32} {z0_tongue : Nat → Int32} {z0_till : Nat → Int32} {z0_wealth : Nat → Int32} {z0_sold : Nat → Int32} {z0_ring : Nat → Int32} {z0_grudges : Nat → Int32} {z0_purse : Nat → Int32} {z0_came : Nat → Int32} {z0_had : Nat → Int32} {z0_seller : Nat → Int32} {z0_praise : Nat → Int32} {z0_borne : Nat → Int32}
def mFair_partOf_l42 (z0_stalls : Int32) (z0_wealth : Nat → Int32) (x1 : Int32) (x2 : Int32) (x3 : Int64) (x9 : Int64) : Nat → Int64 → Int64 → Int32 → Option (Int32)
  | 0, _, _, _ => none
  | n + 1, x5, x7, x11 => (if z0_stalls ≤ x11 then rq (inb x2 6) (rq (decide (¬ x3 = 0)) (lt (((x1.toInt64) * ((z0_wealth x2.toNatClampNeg).toInt64)) / x3) (fun y11 => (if 0 ≤ (lg_cmp x7 x5) then some ((y11.toInt32)) else some (((y11 + (1 : Int64)).toInt32)))))) else rq (inb x11 6) (rq (decide (¬ x3 = 0)) (lt (x5 - (((x1.toInt64) * ((z0_wealth x11.toNatClampNeg).toInt64)) / x3)) (fun y15 => rq (inb x11 6) (rq (decide (¬ x3 = 0)) (lt (((x1.toInt64) * ((z0_wealth x11.toNatClampNeg).toInt64)) - ((x1.toInt64) * ((z0_wealth x11.toNatClampNeg).toInt64)) / x3 * x3) (fun y18 => (if 0 < (lg_cmp y18 x9) then lt (x7 + (1 : Int64)) (fun y20 => mFair_partOf_l42 z0_stalls z0_wealth x1 x2 x3 x9 n y15 y20 (x11 + (1 : Int32))) else (if (lg_cmp y18 x9) = 0 then (if x2 ≤ x11 then mFair_partOf_l42 z0_stalls z0_wealth x1 x2 x3 x9 n y15 x7 (x11 + (1 : Int32)) else lt (x7 + (1 : Int64)) (fun y23 => mFair_partOf_l42 z0_stalls z0_wealth x1 x2 x3 x9 n y15 y23 (x11 + (1 : Int32)))) else mFair_partOf_l42 z0_stalls z0_wealth x1 x2 x3 x9 n y15 x7 (x11 + (1 : Int32)))))))))))
set_option maxHeartbeats 4000000 in
set_option maxRecDepth 20000 in
theorem cFair_partOf_l42 {q : Int32} {x1 : Int32} {x2 : Int32} {x3 : Int64} {x9 : Int64}  : ∀ (n : Nat) (x5 : Int64) (x7 : Int64) (x11 : Int32), mFair_partOf_l42 z0_stalls z0_wealth x1 x2 x3 x9 n x5 x7 x11 = some q → rW l D Z (ty7 K) MFair_partOf 42 [(0, .ref (a0 0)), (1, .int x1), (2, .int x2), (3, .long x3), (5, .long x5), (7, .long x7), (9, .long x9), (11, .int x11)] [] (List.flatten [bFair K a0 z0_lasts z0_keeps z0_stalls z0_buyers z0_minute z0_goods z0_price z0_tongue z0_till z0_wealth z0_sold z0_ring z0_grudges z0_purse z0_came z0_had z0_seller z0_praise z0_borne]) (List.flatten [bFair K a0 z0_lasts z0_keeps z0_stalls z0_buyers z0_minute z0_goods z0_price z0_tongue z0_till z0_wealth z0_sold z0_ring z0_grudges z0_purse z0_came z0_had z0_seller z0_praise z0_borne]) (some (.int q)) := by
  intro n
  induction n with
  | zero => intro x5 x7 x11 h; unfold mFair_partOf_l42 at h; cases h
  | succ n ih =>
    intro x5 x7 x11 h
    unfold mFair_partOf_l42 at h
    refine r_iload 7 dX1_partOf_42 rfl ?_
    refine r_aload_n 0 dX1_partOf_44 rfl ?_
    refine gFair_stalls 0 rfl (tb_in (i := 2) (j := 31) rfl rfl) dX1_partOf_45 ?_
    refine r_icmp_ge 118 dX1_partOf_48 (by decide) (fun c8 => ?_) (fun c8 => ?_)
    · replace h := it_pos c8 h
      refine r_iload_n 1 dX1_partOf_118 rfl ?_
      refine r_i2l dX1_partOf_119 ?_
      refine r_aload_n 0 dX1_partOf_120 rfl ?_
      refine gFair_wealth 0 rfl (tb_in (i := 3) (j := 7) rfl rfl) dX1_partOf_121 ?_
      refine r_iload_n 2 dX1_partOf_124 rfl ?_
      obtain ⟨h9, h⟩ := rq_some h
      refine lFair_wealth 0 rfl (inb_in h9) dX1_partOf_125 ?_
      refine r_i2l dX1_partOf_126 ?_
      refine r_lmul dX1_partOf_127 ?_
      refine r_lload_n 3 dX1_partOf_128 rfl ?_
      obtain ⟨h10, h⟩ := rq_some h
      refine r_ldiv dX1_partOf_129 (of_decide_eq_true h10) ?_
      obtain ⟨y11, e11, h⟩ := lt_some h
      refine r_topl e11 ?_
      refine r_lstore (lv' := [(11, .long y11), (0, .ref (a0 0)), (1, .int x1), (2, .int x2), (3, .long x3), (5, .long x5), (7, .long x7), (9, .long x9)]) dX1_partOf_130 (Nat.le_of_ble_eq_true rfl) rfl ?_
      refine r_lload 6 dX1_partOf_132 rfl ?_
      refine r_lload 5 dX1_partOf_134 rfl ?_
      refine r_lcmp dX1_partOf_136 ?_
      refine r_if_ge 147 dX1_partOf_137 (by decide) (fun c12 => ?_) (fun c12 => ?_)
      · replace h := it_pos c12 h
        refine r_lload 0 dX1_partOf_147 rfl ?_
        refine r_l2i dX1_partOf_149 ?_
        have hq := Option.some.inj h
        subst hq
        exact r_iret rfl dX1_partOf_150
      · replace h := it_neg c12 h
        refine r_lload 0 dX1_partOf_140 rfl ?_
        refine r_lconst (x := (1 : Int64)) dX1_partOf_142 (by decide) ?_
        refine r_ladd dX1_partOf_143 ?_
        refine r_goto 149 dX1_partOf_144 (by decide) ?_
        refine r_l2i dX1_partOf_149 ?_
        have hq := Option.some.inj h
        subst hq
        exact r_iret rfl dX1_partOf_150
    · replace h := it_neg c8 h
      refine r_lload 4 dX1_partOf_51 rfl ?_
      refine r_iload_n 1 dX1_partOf_53 rfl ?_
      refine r_i2l dX1_partOf_54 ?_
      refine r_aload_n 0 dX1_partOf_55 rfl ?_
      refine gFair_wealth 0 rfl (tb_in (i := 3) (j := 7) rfl rfl) dX1_partOf_56 ?_
      refine r_iload 7 dX1_partOf_59 rfl ?_
      obtain ⟨h13, h⟩ := rq_some h
      refine lFair_wealth 0 rfl (inb_in h13) dX1_partOf_61 ?_
      refine r_i2l dX1_partOf_62 ?_
      refine r_lmul dX1_partOf_63 ?_
      refine r_lload_n 3 dX1_partOf_64 rfl ?_
      obtain ⟨h14, h⟩ := rq_some h
      refine r_ldiv dX1_partOf_65 (of_decide_eq_true h14) ?_
      refine r_lsub dX1_partOf_66 ?_
      obtain ⟨y15, e15, h⟩ := lt_some h
      refine r_topl e15 ?_
      refine r_lstore (lv' := [(5, .long y15), (0, .ref (a0 0)), (1, .int x1), (2, .int x2), (3, .long x3), (7, .long x7), (9, .long x9), (11, .int x11)]) dX1_partOf_67 (Nat.le_of_ble_eq_true rfl) rfl ?_
      refine r_iload_n 2 dX1_partOf_69 rfl ?_
      refine r_i2l dX1_partOf_70 ?_
      refine r_aload_n 1 dX1_partOf_71 rfl ?_
      refine gFair_wealth 0 rfl (tb_in (i := 3) (j := 7) rfl rfl) dX1_partOf_72 ?_
      refine r_iload 7 dX1_partOf_75 rfl ?_
      obtain ⟨h16, h⟩ := rq_some h
      refine lFair_wealth 0 rfl (inb_in h16) dX1_partOf_77 ?_
      refine r_i2l dX1_partOf_78 ?_
      refine r_lmul dX1_partOf_79 ?_
      refine r_lload_n 4 dX1_partOf_80 rfl ?_
      obtain ⟨h17, h⟩ := rq_some h
      refine r_lrem dX1_partOf_81 (of_decide_eq_true h17) ?_
      obtain ⟨y18, e18, h⟩ := lt_some h
      refine r_topl e18 ?_
      refine r_lstore (lv' := [(12, .long y18), (5, .long y15), (0, .ref (a0 0)), (1, .int x1), (2, .int x2), (3, .long x3), (7, .long x7), (9, .long x9), (11, .int x11)]) dX1_partOf_82 (Nat.le_of_ble_eq_true rfl) rfl ?_
      refine r_lload 0 dX1_partOf_84 rfl ?_
      refine r_lload 7 dX1_partOf_86 rfl ?_
      refine r_lcmp dX1_partOf_88 ?_
      refine r_if_gt 106 dX1_partOf_89 (by decide) (fun c19 => ?_) (fun c19 => ?_)
      · replace h := it_pos c19 h
        refine r_lload 6 dX1_partOf_106 rfl ?_
        refine r_lconst (x := (1 : Int64)) dX1_partOf_108 (by decide) ?_
        refine r_ladd dX1_partOf_109 ?_
        obtain ⟨y20, e20, h⟩ := lt_some h
        refine r_topl e20 ?_
        refine r_lstore (lv' := [(7, .long y20), (12, .long y18), (5, .long y15), (0, .ref (a0 0)), (1, .int x1), (2, .int x2), (3, .long x3), (9, .long x9), (11, .int x11)]) dX1_partOf_110 (Nat.le_of_ble_eq_true rfl) rfl ?_
        refine r_iinc (y := (x11 + (1 : Int32))) (lv' := [(11, .int (x11 + (1 : Int32))), (7, .long y20), (12, .long y18), (5, .long y15), (0, .ref (a0 0)), (1, .int x1), (2, .int x2), (3, .long x3), (9, .long x9)]) 8 dX1_partOf_112 rfl rfl (Nat.le_of_ble_eq_true rfl) rfl ?_
        refine r_goto 42 dX1_partOf_115 (by decide) ?_
        refine r_sub (lv' := [(0, .ref (a0 0)), (1, .int x1), (2, .int x2), (3, .long x3), (5, .long y15), (7, .long y20), (9, .long x9), (11, .int (x11 + (1 : Int32)))]) [4, 5, 6, 7, 3, 1, 8, 0] rfl ?_
        exact ih y15 y20 (x11 + (1 : Int32)) h
      · replace h := it_neg c19 h
        refine r_lload 0 dX1_partOf_92 rfl ?_
        refine r_lload 7 dX1_partOf_94 rfl ?_
        refine r_lcmp dX1_partOf_96 ?_
        refine r_if_ne 112 dX1_partOf_97 (by decide) (fun c21 => ?_) (fun c21 => ?_)
        · replace h := it_neg c21 h
          refine r_iinc (y := (x11 + (1 : Int32))) (lv' := [(11, .int (x11 + (1 : Int32))), (12, .long y18), (5, .long y15), (0, .ref (a0 0)), (1, .int x1), (2, .int x2), (3, .long x3), (7, .long x7), (9, .long x9)]) 8 dX1_partOf_112 rfl rfl (Nat.le_of_ble_eq_true rfl) rfl ?_
          refine r_goto 42 dX1_partOf_115 (by decide) ?_
          refine r_sub (lv' := [(0, .ref (a0 0)), (1, .int x1), (2, .int x2), (3, .long x3), (5, .long y15), (7, .long x7), (9, .long x9), (11, .int (x11 + (1 : Int32)))]) [3, 4, 5, 6, 2, 7, 8, 0] rfl ?_
          exact ih y15 x7 (x11 + (1 : Int32)) h
        · replace h := it_pos c21 h
          refine r_iload 8 dX1_partOf_100 rfl ?_
          refine r_iload_n 4 dX1_partOf_102 rfl ?_
          refine r_icmp_ge 112 dX1_partOf_103 (by decide) (fun c22 => ?_) (fun c22 => ?_)
          · replace h := it_pos c22 h
            refine r_iinc (y := (x11 + (1 : Int32))) (lv' := [(11, .int (x11 + (1 : Int32))), (12, .long y18), (5, .long y15), (0, .ref (a0 0)), (1, .int x1), (2, .int x2), (3, .long x3), (7, .long x7), (9, .long x9)]) 8 dX1_partOf_112 rfl rfl (Nat.le_of_ble_eq_true rfl) rfl ?_
            refine r_goto 42 dX1_partOf_115 (by decide) ?_
            refine r_sub (lv' := [(0, .ref (a0 0)), (1, .int x1), (2, .int x2), (3, .long x3), (5, .long y15), (7, .long x7), (9, .long x9), (11, .int (x11 + (1 : Int32)))]) [3, 4, 5, 6, 2, 7, 8, 0] rfl ?_
            exact ih y15 x7 (x11 + (1 : Int32)) h
          · replace h := it_neg c22 h
            refine r_lload 6 dX1_partOf_106 rfl ?_
            refine r_lconst (x := (1 : Int64)) dX1_partOf_108 (by decide) ?_
            refine r_ladd dX1_partOf_109 ?_
            obtain ⟨y23, e23, h⟩ := lt_some h
            refine r_topl e23 ?_
            refine r_lstore (lv' := [(7, .long y23), (12, .long y18), (5, .long y15), (0, .ref (a0 0)), (1, .int x1), (2, .int x2), (3, .long x3), (9, .long x9), (11, .int x11)]) dX1_partOf_110 (Nat.le_of_ble_eq_true rfl) rfl ?_
            refine r_iinc (y := (x11 + (1 : Int32))) (lv' := [(11, .int (x11 + (1 : Int32))), (7, .long y23), (12, .long y18), (5, .long y15), (0, .ref (a0 0)), (1, .int x1), (2, .int x2), (3, .long x3), (9, .long x9)]) 8 dX1_partOf_112 rfl rfl (Nat.le_of_ble_eq_true rfl) rfl ?_
            refine r_goto 42 dX1_partOf_115 (by decide) ?_
            refine r_sub (lv' := [(0, .ref (a0 0)), (1, .int x1), (2, .int x2), (3, .long x3), (5, .long y15), (7, .long y23), (9, .long x9), (11, .int (x11 + (1 : Int32)))]) [4, 5, 6, 7, 3, 1, 8, 0] rfl ?_
            exact ih y15 y23 (x11 + (1 : Int32)) h
def mFair_partOf (x1 : Int32) (x2 : Int32) (z0_stalls : Int32) (z0_wealth : Nat → Int32) : Option (Int32) := (mFair_sumOf_wealth z0_stalls z0_wealth).bind (fun q1 => lt (q1.toInt64) (fun y2 => (if 0 < (lg_cmp y2 (0 : Int64)) then lt (x1.toInt64) (fun y4 => rq (inb x2 6) (rq (decide (¬ y2 = 0)) (lt (((x1.toInt64) * ((z0_wealth x2.toNatClampNeg).toInt64)) - ((x1.toInt64) * ((z0_wealth x2.toNatClampNeg).toInt64)) / y2 * y2) (fun y7 => mFair_partOf_l42 z0_stalls z0_wealth x1 x2 y2 y7 FU y4 (0 : Int64) (0 : Int32))))) else some ((0 : Int32)))))
set_option maxHeartbeats 4000000 in
set_option maxRecDepth 20000 in
theorem cFair_partOf {q : Int32} {x1 : Int32} {x2 : Int32} (h : mFair_partOf x1 x2 z0_stalls z0_wealth = some q) : rMet l D Z (ty7 K) MFair_partOf [.ref (a0 0), .int x1, .int x2] (List.flatten [bFair K a0 z0_lasts z0_keeps z0_stalls z0_buyers z0_minute z0_goods z0_price z0_tongue z0_till z0_wealth z0_sold z0_ring z0_grudges z0_purse z0_came z0_had z0_seller z0_praise z0_borne]) (List.flatten [bFair K a0 z0_lasts z0_keeps z0_stalls z0_buyers z0_minute z0_goods z0_price z0_tongue z0_till z0_wealth z0_sold z0_ring z0_grudges z0_purse z0_came z0_had z0_seller z0_praise z0_borne]) (some (.int q)) := by
  refine rMet.of (by decide) rfl (Nat.le_of_ble_eq_true rfl) ?_
  refine r_sub (lv' := [(0, .ref (a0 0)), (1, .int x1), (2, .int x2)]) [0, 1, 2] rfl ?_
  unfold mFair_partOf at h
  refine r_aload_n 0 dX1_partOf_0 rfl ?_
  refine r_aload_n 0 dX1_partOf_1 rfl ?_
  refine gFair_wealth 0 rfl (tb_in (i := 3) (j := 7) rfl rfl) dX1_partOf_2 ?_
  obtain ⟨q1, h1, h⟩ := bd_some h
  refine b_callV (isC := [0]) (ci := 1)  (st := []) (bs1 := [bFair K a0 z0_lasts z0_keeps z0_stalls z0_buyers z0_minute z0_goods z0_price z0_tongue z0_till z0_wealth z0_sold z0_ring z0_grudges z0_purse z0_came z0_had z0_seller z0_praise z0_borne]) (cFair_sumOf_wealth (a0 := a0) (z0_lasts := z0_lasts) (z0_keeps := z0_keeps) (z0_stalls := z0_stalls) (z0_buyers := z0_buyers) (z0_minute := z0_minute) (z0_goods := z0_goods) (z0_price := z0_price) (z0_tongue := z0_tongue) (z0_till := z0_till) (z0_wealth := z0_wealth) (z0_sold := z0_sold) (z0_ring := z0_ring) (z0_grudges := z0_grudges) (z0_purse := z0_purse) (z0_came := z0_came) (z0_had := z0_had) (z0_seller := z0_seller) (z0_praise := z0_praise) (z0_borne := z0_borne) h1) rfl rfl (Nat.le_of_ble_eq_true rfl) kFair_sumOf_wealth (tb_in (i := 6) (j := 0) rfl rfl) (by decide) (by decide) rfl rfl rfl rfl rfl rfl rfl dX1_partOf_5 ?_
  refine r_i2l dX1_partOf_8 ?_
  obtain ⟨y2, e2, h⟩ := lt_some h
  refine r_topl e2 ?_
  refine r_lstore_n (lv' := [(3, .long y2), (0, .ref (a0 0)), (1, .int x1), (2, .int x2)]) dX1_partOf_9 (Nat.le_of_ble_eq_true rfl) rfl ?_
  refine r_lload_n 0 dX1_partOf_10 rfl ?_
  refine r_lconst (x := (0 : Int64)) dX1_partOf_11 (by decide) ?_
  refine r_lcmp dX1_partOf_12 ?_
  refine r_if_gt 18 dX1_partOf_13 (by decide) (fun c3 => ?_) (fun c3 => ?_)
  · replace h := it_pos c3 h
    refine r_iload_n 2 dX1_partOf_18 rfl ?_
    refine r_i2l dX1_partOf_19 ?_
    obtain ⟨y4, e4, h⟩ := lt_some h
    refine r_topl e4 ?_
    refine r_lstore (lv' := [(5, .long y4), (3, .long y2), (0, .ref (a0 0)), (1, .int x1), (2, .int x2)]) dX1_partOf_20 (Nat.le_of_ble_eq_true rfl) rfl ?_
    refine r_lconst (x := (0 : Int64)) dX1_partOf_22 (by decide) ?_
    refine r_lstore (lv' := [(7, .long (0 : Int64)), (5, .long y4), (3, .long y2), (0, .ref (a0 0)), (1, .int x1), (2, .int x2)]) dX1_partOf_23 (Nat.le_of_ble_eq_true rfl) rfl ?_
    refine r_iload_n 4 dX1_partOf_25 rfl ?_
    refine r_i2l dX1_partOf_26 ?_
    refine r_aload_n 3 dX1_partOf_27 rfl ?_
    refine gFair_wealth 0 rfl (tb_in (i := 3) (j := 7) rfl rfl) dX1_partOf_28 ?_
    refine r_iload_n 5 dX1_partOf_31 rfl ?_
    obtain ⟨h5, h⟩ := rq_some h
    refine lFair_wealth 0 rfl (inb_in h5) dX1_partOf_32 ?_
    refine r_i2l dX1_partOf_33 ?_
    refine r_lmul dX1_partOf_34 ?_
    refine r_lload_n 2 dX1_partOf_35 rfl ?_
    obtain ⟨h6, h⟩ := rq_some h
    refine r_lrem dX1_partOf_36 (of_decide_eq_true h6) ?_
    obtain ⟨y7, e7, h⟩ := lt_some h
    refine r_topl e7 ?_
    refine r_lstore (lv' := [(9, .long y7), (7, .long (0 : Int64)), (5, .long y4), (3, .long y2), (0, .ref (a0 0)), (1, .int x1), (2, .int x2)]) dX1_partOf_37 (Nat.le_of_ble_eq_true rfl) rfl ?_
    refine r_iconst (x := (0 : Int32)) dX1_partOf_39 (by decide) ?_
    refine r_istore (lv' := [(11, .int (0 : Int32)), (9, .long y7), (7, .long (0 : Int64)), (5, .long y4), (3, .long y2), (0, .ref (a0 0)), (1, .int x1), (2, .int x2)]) dX1_partOf_40 (Nat.le_of_ble_eq_true rfl) rfl ?_
    refine r_sub (lv' := [(0, .ref (a0 0)), (1, .int x1), (2, .int x2), (3, .long y2), (5, .long y4), (7, .long (0 : Int64)), (9, .long y7), (11, .int (0 : Int32))]) [5, 6, 7, 4, 3, 2, 1, 0] rfl ?_
    exact cFair_partOf_l42   FU y4 (0 : Int64) (0 : Int32) h
  · replace h := it_neg c3 h
    refine r_iconst (x := (0 : Int32)) dX1_partOf_16 (by decide) ?_
    have hq := Option.some.inj h
    subst hq
    exact r_iret rfl dX1_partOf_17
end
theorem dX1_addStall_0 : decode cX1_addStall 0 = .ok (.aload_n 0, 1) := by decide +kernel
theorem dX1_addStall_1 : decode cX1_addStall 1 = .ok (.getfield 18, 3) := by decide +kernel
theorem dX1_addStall_4 : decode cX1_addStall 4 = .ok (.bipush 6, 2) := by decide +kernel
theorem dX1_addStall_6 : decode cX1_addStall 6 = .ok (.if_icmp .lt 4, 3) := by decide +kernel
theorem dX1_addStall_9 : decode cX1_addStall 9 = .ok (.return_, 1) := by decide +kernel
theorem dX1_addStall_10 : decode cX1_addStall 10 = .ok (.aload_n 0, 1) := by decide +kernel
theorem dX1_addStall_11 : decode cX1_addStall 11 = .ok (.getfield 27, 3) := by decide +kernel
theorem dX1_addStall_14 : decode cX1_addStall 14 = .ok (.aload_n 0, 1) := by decide +kernel
theorem dX1_addStall_15 : decode cX1_addStall 15 = .ok (.getfield 18, 3) := by decide +kernel
theorem dX1_addStall_18 : decode cX1_addStall 18 = .ok (.iload_n 1, 1) := by decide +kernel
theorem dX1_addStall_19 : decode cX1_addStall 19 = .ok (.iastore, 1) := by decide +kernel
theorem dX1_addStall_20 : decode cX1_addStall 20 = .ok (.aload_n 0, 1) := by decide +kernel
theorem dX1_addStall_21 : decode cX1_addStall 21 = .ok (.getfield 31, 3) := by decide +kernel
theorem dX1_addStall_24 : decode cX1_addStall 24 = .ok (.aload_n 0, 1) := by decide +kernel
theorem dX1_addStall_25 : decode cX1_addStall 25 = .ok (.getfield 18, 3) := by decide +kernel
theorem dX1_addStall_28 : decode cX1_addStall 28 = .ok (.iload_n 2, 1) := by decide +kernel
theorem dX1_addStall_29 : decode cX1_addStall 29 = .ok (.iastore, 1) := by decide +kernel
theorem dX1_addStall_30 : decode cX1_addStall 30 = .ok (.aload_n 0, 1) := by decide +kernel
theorem dX1_addStall_31 : decode cX1_addStall 31 = .ok (.getfield 34, 3) := by decide +kernel
theorem dX1_addStall_34 : decode cX1_addStall 34 = .ok (.aload_n 0, 1) := by decide +kernel
theorem dX1_addStall_35 : decode cX1_addStall 35 = .ok (.getfield 18, 3) := by decide +kernel
theorem dX1_addStall_38 : decode cX1_addStall 38 = .ok (.iload_n 3, 1) := by decide +kernel
theorem dX1_addStall_39 : decode cX1_addStall 39 = .ok (.iastore, 1) := by decide +kernel
theorem dX1_addStall_40 : decode cX1_addStall 40 = .ok (.aload_n 0, 1) := by decide +kernel
theorem dX1_addStall_41 : decode cX1_addStall 41 = .ok (.getfield 37, 3) := by decide +kernel
theorem dX1_addStall_44 : decode cX1_addStall 44 = .ok (.aload_n 0, 1) := by decide +kernel
theorem dX1_addStall_45 : decode cX1_addStall 45 = .ok (.getfield 18, 3) := by decide +kernel
theorem dX1_addStall_48 : decode cX1_addStall 48 = .ok (.iconst 0, 1) := by decide +kernel
theorem dX1_addStall_49 : decode cX1_addStall 49 = .ok (.iastore, 1) := by decide +kernel
theorem dX1_addStall_50 : decode cX1_addStall 50 = .ok (.aload_n 0, 1) := by decide +kernel
theorem dX1_addStall_51 : decode cX1_addStall 51 = .ok (.getfield 40, 3) := by decide +kernel
theorem dX1_addStall_54 : decode cX1_addStall 54 = .ok (.aload_n 0, 1) := by decide +kernel
theorem dX1_addStall_55 : decode cX1_addStall 55 = .ok (.getfield 18, 3) := by decide +kernel
theorem dX1_addStall_58 : decode cX1_addStall 58 = .ok (.iconst 0, 1) := by decide +kernel
theorem dX1_addStall_59 : decode cX1_addStall 59 = .ok (.iastore, 1) := by decide +kernel
theorem dX1_addStall_60 : decode cX1_addStall 60 = .ok (.aload_n 0, 1) := by decide +kernel
theorem dX1_addStall_61 : decode cX1_addStall 61 = .ok (.getfield 43, 3) := by decide +kernel
theorem dX1_addStall_64 : decode cX1_addStall 64 = .ok (.aload_n 0, 1) := by decide +kernel
theorem dX1_addStall_65 : decode cX1_addStall 65 = .ok (.getfield 18, 3) := by decide +kernel
theorem dX1_addStall_68 : decode cX1_addStall 68 = .ok (.iconst 0, 1) := by decide +kernel
theorem dX1_addStall_69 : decode cX1_addStall 69 = .ok (.iastore, 1) := by decide +kernel
theorem dX1_addStall_70 : decode cX1_addStall 70 = .ok (.aload_n 0, 1) := by decide +kernel
theorem dX1_addStall_71 : decode cX1_addStall 71 = .ok (.getfield 46, 3) := by decide +kernel
theorem dX1_addStall_74 : decode cX1_addStall 74 = .ok (.aload_n 0, 1) := by decide +kernel
theorem dX1_addStall_75 : decode cX1_addStall 75 = .ok (.getfield 18, 3) := by decide +kernel
theorem dX1_addStall_78 : decode cX1_addStall 78 = .ok (.aload_n 0, 1) := by decide +kernel
theorem dX1_addStall_79 : decode cX1_addStall 79 = .ok (.getfield 18, 3) := by decide +kernel
theorem dX1_addStall_82 : decode cX1_addStall 82 = .ok (.iastore, 1) := by decide +kernel
theorem dX1_addStall_83 : decode cX1_addStall 83 = .ok (.aload_n 0, 1) := by decide +kernel
theorem dX1_addStall_84 : decode cX1_addStall 84 = .ok (.getfield 49, 3) := by decide +kernel
theorem dX1_addStall_87 : decode cX1_addStall 87 = .ok (.aload_n 0, 1) := by decide +kernel
theorem dX1_addStall_88 : decode cX1_addStall 88 = .ok (.getfield 18, 3) := by decide +kernel
theorem dX1_addStall_91 : decode cX1_addStall 91 = .ok (.iconst 0, 1) := by decide +kernel
theorem dX1_addStall_92 : decode cX1_addStall 92 = .ok (.iastore, 1) := by decide +kernel
theorem dX1_addStall_93 : decode cX1_addStall 93 = .ok (.aload_n 0, 1) := by decide +kernel
theorem dX1_addStall_94 : decode cX1_addStall 94 = .ok (.dup, 1) := by decide +kernel
theorem dX1_addStall_95 : decode cX1_addStall 95 = .ok (.getfield 18, 3) := by decide +kernel
theorem dX1_addStall_98 : decode cX1_addStall 98 = .ok (.iconst 1, 1) := by decide +kernel
theorem dX1_addStall_99 : decode cX1_addStall 99 = .ok (.iadd, 1) := by decide +kernel
theorem dX1_addStall_100 : decode cX1_addStall 100 = .ok (.putfield 18, 3) := by decide +kernel
theorem dX1_addStall_103 : decode cX1_addStall 103 = .ok (.return_, 1) := by decide +kernel
abbrev MFair_addStall : rx_M := (RX1, yX1_addStall, cX1_addStall, 4, none, 1)
theorem kFair_addStall : rKv MFair_addStall 3 := ⟨tb_in (i := 6) (j := 8) rfl rfl, tb_in (i := 6) (j := 9) rfl rfl, tb_in (i := 3) (j := 26) rfl rfl, tb_in (i := 3) (j := 28) rfl rfl, ⟨by decide, by decide, by decide +kernel⟩, by decide⟩
section
variable {a0 : Nat → Nat} {z0_lasts : Int32} {z0_keeps : Int32} {z0_stalls : Int32} {z0_buyers : Int32} {z0_minute : Int32} {z0_goods : Nat → Int32} {z0_price : Nat → Int32} {z0_tongue : Nat → Int32} {z0_till : Nat → Int32} {z0_wealth : Nat → Int32} {z0_sold : Nat → Int32} {z0_ring : Nat → Int32} {z0_grudges : Nat → Int32} {z0_purse : Nat → Int32} {z0_came : Nat → Int32} {z0_had : Nat → Int32} {z0_seller : Nat → Int32} {z0_praise : Nat → Int32} {z0_borne : Nat → Int32}
def mFair_addStall (x1 : Int32) (x2 : Int32) (x3 : Int32) (z0_stalls : Int32) (z0_goods : Nat → Int32) (z0_price : Nat → Int32) (z0_tongue : Nat → Int32) (z0_till : Nat → Int32) (z0_wealth : Nat → Int32) (z0_sold : Nat → Int32) (z0_ring : Nat → Int32) (z0_grudges : Nat → Int32) : Option (Int32 × (Nat → Int32) × (Nat → Int32) × (Nat → Int32) × (Nat → Int32) × (Nat → Int32) × (Nat → Int32) × (Nat → Int32) × (Nat → Int32)) := (if z0_stalls < (6 : Int32) then rq (inb z0_stalls 6) (lt (upd z0_goods z0_stalls.toNatClampNeg x1) (fun u2 => rq (inb z0_stalls 6) (lt (upd z0_price z0_stalls.toNatClampNeg x2) (fun u3 => rq (inb z0_stalls 6) (lt (upd z0_tongue z0_stalls.toNatClampNeg x3) (fun u4 => rq (inb z0_stalls 6) (lt (upd z0_till z0_stalls.toNatClampNeg (0 : Int32)) (fun u5 => rq (inb z0_stalls 6) (lt (upd z0_wealth z0_stalls.toNatClampNeg (0 : Int32)) (fun u6 => rq (inb z0_stalls 6) (lt (upd z0_sold z0_stalls.toNatClampNeg (0 : Int32)) (fun u7 => rq (inb z0_stalls 6) (lt (upd z0_ring z0_stalls.toNatClampNeg z0_stalls) (fun u8 => rq (inb z0_stalls 6) (lt (upd z0_grudges z0_stalls.toNatClampNeg (0 : Int32)) (fun u9 => lt (z0_stalls + (1 : Int32)) (fun y10 => some (y10, u2, u3, u4, u5, u6, u7, u8, u9)))))))))))))))))) else some (z0_stalls, z0_goods, z0_price, z0_tongue, z0_till, z0_wealth, z0_sold, z0_ring, z0_grudges))
set_option maxHeartbeats 4000000 in
set_option maxRecDepth 20000 in
theorem cFair_addStall {q : Int32 × (Nat → Int32) × (Nat → Int32) × (Nat → Int32) × (Nat → Int32) × (Nat → Int32) × (Nat → Int32) × (Nat → Int32) × (Nat → Int32)} {x1 : Int32} {x2 : Int32} {x3 : Int32} (h : mFair_addStall x1 x2 x3 z0_stalls z0_goods z0_price z0_tongue z0_till z0_wealth z0_sold z0_ring z0_grudges = some q) : rMet l D Z (ty7 K) MFair_addStall [.ref (a0 0), .int x1, .int x2, .int x3] (List.flatten [bFair K a0 z0_lasts z0_keeps z0_stalls z0_buyers z0_minute z0_goods z0_price z0_tongue z0_till z0_wealth z0_sold z0_ring z0_grudges z0_purse z0_came z0_had z0_seller z0_praise z0_borne]) (List.flatten [bFair K a0 z0_lasts z0_keeps q.1 z0_buyers z0_minute q.2.1 q.2.2.1 q.2.2.2.1 q.2.2.2.2.1 q.2.2.2.2.2.1 q.2.2.2.2.2.2.1 q.2.2.2.2.2.2.2.1 q.2.2.2.2.2.2.2.2 z0_purse z0_came z0_had z0_seller z0_praise z0_borne]) none := by
  refine rMet.of (by decide) rfl (Nat.le_of_ble_eq_true rfl) ?_
  refine r_sub (lv' := [(0, .ref (a0 0)), (1, .int x1), (2, .int x2), (3, .int x3)]) [0, 1, 2, 3] rfl ?_
  unfold mFair_addStall at h
  refine r_aload_n 0 dX1_addStall_0 rfl ?_
  refine gFair_stalls 0 rfl (tb_in (i := 2) (j := 31) rfl rfl) dX1_addStall_1 ?_
  refine r_bipush (x := (6 : Int32)) dX1_addStall_4 (by decide) ?_
  refine r_icmp_lt 10 dX1_addStall_6 (by decide) (fun c1 => ?_) (fun c1 => ?_)
  · replace h := it_pos c1 h
    refine r_aload_n 0 dX1_addStall_10 rfl ?_
    refine gFair_goods 0 rfl (tb_in (i := 3) (j := 3) rfl rfl) dX1_addStall_11 ?_
    refine r_aload_n 0 dX1_addStall_14 rfl ?_
    refine gFair_stalls 0 rfl (tb_in (i := 2) (j := 31) rfl rfl) dX1_addStall_15 ?_
    refine r_iload_n 1 dX1_addStall_18 rfl ?_
    obtain ⟨h2, h⟩ := rq_some h
    obtain ⟨u2, e2, h⟩ := lt_some h
    refine sFair_goods (bs1 := [bFair K a0 z0_lasts z0_keeps z0_stalls z0_buyers z0_minute u2 z0_price z0_tongue z0_till z0_wealth z0_sold z0_ring z0_grudges z0_purse z0_came z0_had z0_seller z0_praise z0_borne]) 0 e2 rfl (inb_in h2) rfl dX1_addStall_19 ?_
    refine r_aload_n 0 dX1_addStall_20 rfl ?_
    refine gFair_price 0 rfl (tb_in (i := 3) (j := 4) rfl rfl) dX1_addStall_21 ?_
    refine r_aload_n 0 dX1_addStall_24 rfl ?_
    refine gFair_stalls 0 rfl (tb_in (i := 2) (j := 31) rfl rfl) dX1_addStall_25 ?_
    refine r_iload_n 2 dX1_addStall_28 rfl ?_
    obtain ⟨h3, h⟩ := rq_some h
    obtain ⟨u3, e3, h⟩ := lt_some h
    refine sFair_price (bs1 := [bFair K a0 z0_lasts z0_keeps z0_stalls z0_buyers z0_minute u2 u3 z0_tongue z0_till z0_wealth z0_sold z0_ring z0_grudges z0_purse z0_came z0_had z0_seller z0_praise z0_borne]) 0 e3 rfl (inb_in h3) rfl dX1_addStall_29 ?_
    refine r_aload_n 0 dX1_addStall_30 rfl ?_
    refine gFair_tongue 0 rfl (tb_in (i := 3) (j := 5) rfl rfl) dX1_addStall_31 ?_
    refine r_aload_n 0 dX1_addStall_34 rfl ?_
    refine gFair_stalls 0 rfl (tb_in (i := 2) (j := 31) rfl rfl) dX1_addStall_35 ?_
    refine r_iload_n 3 dX1_addStall_38 rfl ?_
    obtain ⟨h4, h⟩ := rq_some h
    obtain ⟨u4, e4, h⟩ := lt_some h
    refine sFair_tongue (bs1 := [bFair K a0 z0_lasts z0_keeps z0_stalls z0_buyers z0_minute u2 u3 u4 z0_till z0_wealth z0_sold z0_ring z0_grudges z0_purse z0_came z0_had z0_seller z0_praise z0_borne]) 0 e4 rfl (inb_in h4) rfl dX1_addStall_39 ?_
    refine r_aload_n 0 dX1_addStall_40 rfl ?_
    refine gFair_till 0 rfl (tb_in (i := 3) (j := 6) rfl rfl) dX1_addStall_41 ?_
    refine r_aload_n 0 dX1_addStall_44 rfl ?_
    refine gFair_stalls 0 rfl (tb_in (i := 2) (j := 31) rfl rfl) dX1_addStall_45 ?_
    refine r_iconst (x := (0 : Int32)) dX1_addStall_48 (by decide) ?_
    obtain ⟨h5, h⟩ := rq_some h
    obtain ⟨u5, e5, h⟩ := lt_some h
    refine sFair_till (bs1 := [bFair K a0 z0_lasts z0_keeps z0_stalls z0_buyers z0_minute u2 u3 u4 u5 z0_wealth z0_sold z0_ring z0_grudges z0_purse z0_came z0_had z0_seller z0_praise z0_borne]) 0 e5 rfl (inb_in h5) rfl dX1_addStall_49 ?_
    refine r_aload_n 0 dX1_addStall_50 rfl ?_
    refine gFair_wealth 0 rfl (tb_in (i := 3) (j := 7) rfl rfl) dX1_addStall_51 ?_
    refine r_aload_n 0 dX1_addStall_54 rfl ?_
    refine gFair_stalls 0 rfl (tb_in (i := 2) (j := 31) rfl rfl) dX1_addStall_55 ?_
    refine r_iconst (x := (0 : Int32)) dX1_addStall_58 (by decide) ?_
    obtain ⟨h6, h⟩ := rq_some h
    obtain ⟨u6, e6, h⟩ := lt_some h
    refine sFair_wealth (bs1 := [bFair K a0 z0_lasts z0_keeps z0_stalls z0_buyers z0_minute u2 u3 u4 u5 u6 z0_sold z0_ring z0_grudges z0_purse z0_came z0_had z0_seller z0_praise z0_borne]) 0 e6 rfl (inb_in h6) rfl dX1_addStall_59 ?_
    refine r_aload_n 0 dX1_addStall_60 rfl ?_
    refine gFair_sold 0 rfl (tb_in (i := 3) (j := 8) rfl rfl) dX1_addStall_61 ?_
    refine r_aload_n 0 dX1_addStall_64 rfl ?_
    refine gFair_stalls 0 rfl (tb_in (i := 2) (j := 31) rfl rfl) dX1_addStall_65 ?_
    refine r_iconst (x := (0 : Int32)) dX1_addStall_68 (by decide) ?_
    obtain ⟨h7, h⟩ := rq_some h
    obtain ⟨u7, e7, h⟩ := lt_some h
    refine sFair_sold (bs1 := [bFair K a0 z0_lasts z0_keeps z0_stalls z0_buyers z0_minute u2 u3 u4 u5 u6 u7 z0_ring z0_grudges z0_purse z0_came z0_had z0_seller z0_praise z0_borne]) 0 e7 rfl (inb_in h7) rfl dX1_addStall_69 ?_
    refine r_aload_n 0 dX1_addStall_70 rfl ?_
    refine gFair_ring 0 rfl (tb_in (i := 3) (j := 9) rfl rfl) dX1_addStall_71 ?_
    refine r_aload_n 0 dX1_addStall_74 rfl ?_
    refine gFair_stalls 0 rfl (tb_in (i := 2) (j := 31) rfl rfl) dX1_addStall_75 ?_
    refine r_aload_n 0 dX1_addStall_78 rfl ?_
    refine gFair_stalls 0 rfl (tb_in (i := 2) (j := 31) rfl rfl) dX1_addStall_79 ?_
    obtain ⟨h8, h⟩ := rq_some h
    obtain ⟨u8, e8, h⟩ := lt_some h
    refine sFair_ring (bs1 := [bFair K a0 z0_lasts z0_keeps z0_stalls z0_buyers z0_minute u2 u3 u4 u5 u6 u7 u8 z0_grudges z0_purse z0_came z0_had z0_seller z0_praise z0_borne]) 0 e8 rfl (inb_in h8) rfl dX1_addStall_82 ?_
    refine r_aload_n 0 dX1_addStall_83 rfl ?_
    refine gFair_grudges 0 rfl (tb_in (i := 3) (j := 10) rfl rfl) dX1_addStall_84 ?_
    refine r_aload_n 0 dX1_addStall_87 rfl ?_
    refine gFair_stalls 0 rfl (tb_in (i := 2) (j := 31) rfl rfl) dX1_addStall_88 ?_
    refine r_iconst (x := (0 : Int32)) dX1_addStall_91 (by decide) ?_
    obtain ⟨h9, h⟩ := rq_some h
    obtain ⟨u9, e9, h⟩ := lt_some h
    refine sFair_grudges (bs1 := [bFair K a0 z0_lasts z0_keeps z0_stalls z0_buyers z0_minute u2 u3 u4 u5 u6 u7 u8 u9 z0_purse z0_came z0_had z0_seller z0_praise z0_borne]) 0 e9 rfl (inb_in h9) rfl dX1_addStall_92 ?_
    refine r_aload_n 0 dX1_addStall_93 rfl ?_
    refine r_dup dX1_addStall_94 rfl ?_
    refine gFair_stalls 0 rfl (tb_in (i := 2) (j := 31) rfl rfl) dX1_addStall_95 ?_
    refine r_iconst (x := (1 : Int32)) dX1_addStall_98 (by decide) ?_
    refine r_iadd dX1_addStall_99 ?_
    obtain ⟨y10, e10, h⟩ := lt_some h
    refine r_top e10 ?_
    refine pFair_stalls (bs1 := [bFair K a0 z0_lasts z0_keeps y10 z0_buyers z0_minute u2 u3 u4 u5 u6 u7 u8 u9 z0_purse z0_came z0_had z0_seller z0_praise z0_borne]) 0 rfl rfl (tb_in (i := 2) (j := 31) rfl rfl) dX1_addStall_100 ?_
    have hq := Option.some.inj h
    subst hq
    exact r_vret rfl dX1_addStall_103
  · replace h := it_neg c1 h
    have hq := Option.some.inj h
    subst hq
    exact r_vret rfl dX1_addStall_9
end
theorem dX1_addBuyer_0 : decode cX1_addBuyer 0 = .ok (.aload_n 0, 1) := by decide +kernel
theorem dX1_addBuyer_1 : decode cX1_addBuyer 1 = .ok (.getfield 21, 3) := by decide +kernel
theorem dX1_addBuyer_4 : decode cX1_addBuyer 4 = .ok (.bipush 6, 2) := by decide +kernel
theorem dX1_addBuyer_6 : decode cX1_addBuyer 6 = .ok (.if_icmp .lt 4, 3) := by decide +kernel
theorem dX1_addBuyer_9 : decode cX1_addBuyer 9 = .ok (.return_, 1) := by decide +kernel
theorem dX1_addBuyer_10 : decode cX1_addBuyer 10 = .ok (.aload_n 0, 1) := by decide +kernel
theorem dX1_addBuyer_11 : decode cX1_addBuyer 11 = .ok (.getfield 52, 3) := by decide +kernel
theorem dX1_addBuyer_14 : decode cX1_addBuyer 14 = .ok (.aload_n 0, 1) := by decide +kernel
theorem dX1_addBuyer_15 : decode cX1_addBuyer 15 = .ok (.getfield 21, 3) := by decide +kernel
theorem dX1_addBuyer_18 : decode cX1_addBuyer 18 = .ok (.iload_n 1, 1) := by decide +kernel
theorem dX1_addBuyer_19 : decode cX1_addBuyer 19 = .ok (.iastore, 1) := by decide +kernel
theorem dX1_addBuyer_20 : decode cX1_addBuyer 20 = .ok (.aload_n 0, 1) := by decide +kernel
theorem dX1_addBuyer_21 : decode cX1_addBuyer 21 = .ok (.getfield 55, 3) := by decide +kernel
theorem dX1_addBuyer_24 : decode cX1_addBuyer 24 = .ok (.aload_n 0, 1) := by decide +kernel
theorem dX1_addBuyer_25 : decode cX1_addBuyer 25 = .ok (.getfield 21, 3) := by decide +kernel
theorem dX1_addBuyer_28 : decode cX1_addBuyer 28 = .ok (.iload_n 2, 1) := by decide +kernel
theorem dX1_addBuyer_29 : decode cX1_addBuyer 29 = .ok (.iastore, 1) := by decide +kernel
theorem dX1_addBuyer_30 : decode cX1_addBuyer 30 = .ok (.iconst 0, 1) := by decide +kernel
theorem dX1_addBuyer_31 : decode cX1_addBuyer 31 = .ok (.istore_n 3, 1) := by decide +kernel
theorem dX1_addBuyer_32 : decode cX1_addBuyer 32 = .ok (.iload_n 3, 1) := by decide +kernel
theorem dX1_addBuyer_33 : decode cX1_addBuyer 33 = .ok (.bipush 6, 2) := by decide +kernel
theorem dX1_addBuyer_35 : decode cX1_addBuyer 35 = .ok (.if_icmp .ge 24, 3) := by decide +kernel
theorem dX1_addBuyer_38 : decode cX1_addBuyer 38 = .ok (.aload_n 0, 1) := by decide +kernel
theorem dX1_addBuyer_39 : decode cX1_addBuyer 39 = .ok (.getfield 58, 3) := by decide +kernel
theorem dX1_addBuyer_42 : decode cX1_addBuyer 42 = .ok (.aload_n 0, 1) := by decide +kernel
theorem dX1_addBuyer_43 : decode cX1_addBuyer 43 = .ok (.getfield 21, 3) := by decide +kernel
theorem dX1_addBuyer_46 : decode cX1_addBuyer 46 = .ok (.bipush 6, 2) := by decide +kernel
theorem dX1_addBuyer_48 : decode cX1_addBuyer 48 = .ok (.imul, 1) := by decide +kernel
theorem dX1_addBuyer_49 : decode cX1_addBuyer 49 = .ok (.iload_n 3, 1) := by decide +kernel
theorem dX1_addBuyer_50 : decode cX1_addBuyer 50 = .ok (.iadd, 1) := by decide +kernel
theorem dX1_addBuyer_51 : decode cX1_addBuyer 51 = .ok (.iconst 0, 1) := by decide +kernel
theorem dX1_addBuyer_52 : decode cX1_addBuyer 52 = .ok (.iastore, 1) := by decide +kernel
theorem dX1_addBuyer_53 : decode cX1_addBuyer 53 = .ok (.iinc 3 1, 3) := by decide +kernel
theorem dX1_addBuyer_56 : decode cX1_addBuyer 56 = .ok (.goto (-24), 3) := by decide +kernel
theorem dX1_addBuyer_59 : decode cX1_addBuyer 59 = .ok (.aload_n 0, 1) := by decide +kernel
theorem dX1_addBuyer_60 : decode cX1_addBuyer 60 = .ok (.dup, 1) := by decide +kernel
theorem dX1_addBuyer_61 : decode cX1_addBuyer 61 = .ok (.getfield 21, 3) := by decide +kernel
theorem dX1_addBuyer_64 : decode cX1_addBuyer 64 = .ok (.iconst 1, 1) := by decide +kernel
theorem dX1_addBuyer_65 : decode cX1_addBuyer 65 = .ok (.iadd, 1) := by decide +kernel
theorem dX1_addBuyer_66 : decode cX1_addBuyer 66 = .ok (.putfield 21, 3) := by decide +kernel
theorem dX1_addBuyer_69 : decode cX1_addBuyer 69 = .ok (.return_, 1) := by decide +kernel
abbrev MFair_addBuyer : rx_M := (RX1, yX1_addBuyer, cX1_addBuyer, 4, none, 1)
theorem kFair_addBuyer : rKv MFair_addBuyer 2 := ⟨tb_in (i := 6) (j := 14) rfl rfl, tb_in (i := 6) (j := 15) rfl rfl, tb_in (i := 3) (j := 26) rfl rfl, tb_in (i := 3) (j := 29) rfl rfl, ⟨by decide, by decide, by decide +kernel⟩, by decide⟩
section
variable {a0 : Nat → Nat} {z0_lasts : Int32} {z0_keeps : Int32} {z0_stalls : Int32} {z0_buyers : Int32} {z0_minute : Int32} {z0_goods : Nat → Int32} {z0_price : Nat → Int32} {z0_tongue : Nat → Int32} {z0_till : Nat → Int32} {z0_wealth : Nat → Int32} {z0_sold : Nat → Int32} {z0_ring : Nat → Int32} {z0_grudges : Nat → Int32} {z0_purse : Nat → Int32} {z0_came : Nat → Int32} {z0_had : Nat → Int32} {z0_seller : Nat → Int32} {z0_praise : Nat → Int32} {z0_borne : Nat → Int32}
def mFair_addBuyer_l32 (z0_buyers : Int32) (z0_purse : Nat → Int32) (z0_came : Nat → Int32) : Nat → Int32 → (Nat → Int32) → Option (Int32 × (Nat → Int32) × (Nat → Int32) × (Nat → Int32))
  | 0, _, _ => none
  | n + 1, x3, z0_had => (if (6 : Int32) ≤ x3 then lt (z0_buyers + (1 : Int32)) (fun y5 => some (y5, z0_purse, z0_came, z0_had)) else rq (inb ((z0_buyers * (6 : Int32)) + x3) 36) (lt (upd z0_had ((z0_buyers * (6 : Int32)) + x3).toNatClampNeg (0 : Int32)) (fun u6 => mFair_addBuyer_l32 z0_buyers z0_purse z0_came n (x3 + (1 : Int32)) u6)))
set_option maxHeartbeats 4000000 in
set_option maxRecDepth 20000 in
theorem cFair_addBuyer_l32 {q : Int32 × (Nat → Int32) × (Nat → Int32) × (Nat → Int32)}   : ∀ (n : Nat) (x3 : Int32) (z0_had : Nat → Int32), mFair_addBuyer_l32 z0_buyers z0_purse z0_came n x3 z0_had = some q → rW l D Z (ty7 K) MFair_addBuyer 32 [(0, .ref (a0 0)), (3, .int x3)] [] (List.flatten [bFair K a0 z0_lasts z0_keeps z0_stalls z0_buyers z0_minute z0_goods z0_price z0_tongue z0_till z0_wealth z0_sold z0_ring z0_grudges z0_purse z0_came z0_had z0_seller z0_praise z0_borne]) (List.flatten [bFair K a0 z0_lasts z0_keeps z0_stalls q.1 z0_minute z0_goods z0_price z0_tongue z0_till z0_wealth z0_sold z0_ring z0_grudges q.2.1 q.2.2.1 q.2.2.2 z0_seller z0_praise z0_borne]) none := by
  intro n
  induction n with
  | zero => intro x3 z0_had h; unfold mFair_addBuyer_l32 at h; cases h
  | succ n ih =>
    intro x3 z0_had h
    unfold mFair_addBuyer_l32 at h
    refine r_iload_n 1 dX1_addBuyer_32 rfl ?_
    refine r_bipush (x := (6 : Int32)) dX1_addBuyer_33 (by decide) ?_
    refine r_icmp_ge 59 dX1_addBuyer_35 (by decide) (fun c4 => ?_) (fun c4 => ?_)
    · replace h := it_pos c4 h
      refine r_aload_n 0 dX1_addBuyer_59 rfl ?_
      refine r_dup dX1_addBuyer_60 rfl ?_
      refine gFair_buyers 0 rfl (tb_in (i := 3) (j := 0) rfl rfl) dX1_addBuyer_61 ?_
      refine r_iconst (x := (1 : Int32)) dX1_addBuyer_64 (by decide) ?_
      refine r_iadd dX1_addBuyer_65 ?_
      obtain ⟨y5, e5, h⟩ := lt_some h
      refine r_top e5 ?_
      refine pFair_buyers (bs1 := [bFair K a0 z0_lasts z0_keeps z0_stalls y5 z0_minute z0_goods z0_price z0_tongue z0_till z0_wealth z0_sold z0_ring z0_grudges z0_purse z0_came z0_had z0_seller z0_praise z0_borne]) 0 rfl rfl (tb_in (i := 3) (j := 0) rfl rfl) dX1_addBuyer_66 ?_
      have hq := Option.some.inj h
      subst hq
      exact r_vret rfl dX1_addBuyer_69
    · replace h := it_neg c4 h
      refine r_aload_n 0 dX1_addBuyer_38 rfl ?_
      refine gFair_had 0 rfl (tb_in (i := 3) (j := 13) rfl rfl) dX1_addBuyer_39 ?_
      refine r_aload_n 0 dX1_addBuyer_42 rfl ?_
      refine gFair_buyers 0 rfl (tb_in (i := 3) (j := 0) rfl rfl) dX1_addBuyer_43 ?_
      refine r_bipush (x := (6 : Int32)) dX1_addBuyer_46 (by decide) ?_
      refine r_imul dX1_addBuyer_48 ?_
      refine r_iload_n 1 dX1_addBuyer_49 rfl ?_
      refine r_iadd dX1_addBuyer_50 ?_
      refine r_iconst (x := (0 : Int32)) dX1_addBuyer_51 (by decide) ?_
      obtain ⟨h6, h⟩ := rq_some h
      obtain ⟨u6, e6, h⟩ := lt_some h
      refine sFair_had (bs1 := [bFair K a0 z0_lasts z0_keeps z0_stalls z0_buyers z0_minute z0_goods z0_price z0_tongue z0_till z0_wealth z0_sold z0_ring z0_grudges z0_purse z0_came u6 z0_seller z0_praise z0_borne]) 0 e6 rfl (inb_in h6) rfl dX1_addBuyer_52 ?_
      refine r_iinc (y := (x3 + (1 : Int32))) (lv' := [(3, .int (x3 + (1 : Int32))), (0, .ref (a0 0))]) 1 dX1_addBuyer_53 rfl rfl (Nat.le_of_ble_eq_true rfl) rfl ?_
      refine r_goto 32 dX1_addBuyer_56 (by decide) ?_
      refine r_sub (lv' := [(0, .ref (a0 0)), (3, .int (x3 + (1 : Int32)))]) [1, 0] rfl ?_
      exact ih (x3 + (1 : Int32)) u6 h
def mFair_addBuyer (x1 : Int32) (x2 : Int32) (z0_buyers : Int32) (z0_purse : Nat → Int32) (z0_came : Nat → Int32) (z0_had : Nat → Int32) : Option (Int32 × (Nat → Int32) × (Nat → Int32) × (Nat → Int32)) := (if z0_buyers < (6 : Int32) then rq (inb z0_buyers 6) (lt (upd z0_purse z0_buyers.toNatClampNeg x1) (fun u2 => rq (inb z0_buyers 6) (lt (upd z0_came z0_buyers.toNatClampNeg x2) (fun u3 => mFair_addBuyer_l32 z0_buyers u2 u3 FU (0 : Int32) z0_had)))) else some (z0_buyers, z0_purse, z0_came, z0_had))
set_option maxHeartbeats 4000000 in
set_option maxRecDepth 20000 in
theorem cFair_addBuyer {q : Int32 × (Nat → Int32) × (Nat → Int32) × (Nat → Int32)} {x1 : Int32} {x2 : Int32} (h : mFair_addBuyer x1 x2 z0_buyers z0_purse z0_came z0_had = some q) : rMet l D Z (ty7 K) MFair_addBuyer [.ref (a0 0), .int x1, .int x2] (List.flatten [bFair K a0 z0_lasts z0_keeps z0_stalls z0_buyers z0_minute z0_goods z0_price z0_tongue z0_till z0_wealth z0_sold z0_ring z0_grudges z0_purse z0_came z0_had z0_seller z0_praise z0_borne]) (List.flatten [bFair K a0 z0_lasts z0_keeps z0_stalls q.1 z0_minute z0_goods z0_price z0_tongue z0_till z0_wealth z0_sold z0_ring z0_grudges q.2.1 q.2.2.1 q.2.2.2 z0_seller z0_praise z0_borne]) none := by
  refine rMet.of (by decide) rfl (Nat.le_of_ble_eq_true rfl) ?_
  refine r_sub (lv' := [(0, .ref (a0 0)), (1, .int x1), (2, .int x2)]) [0, 1, 2] rfl ?_
  unfold mFair_addBuyer at h
  refine r_aload_n 0 dX1_addBuyer_0 rfl ?_
  refine gFair_buyers 0 rfl (tb_in (i := 3) (j := 0) rfl rfl) dX1_addBuyer_1 ?_
  refine r_bipush (x := (6 : Int32)) dX1_addBuyer_4 (by decide) ?_
  refine r_icmp_lt 10 dX1_addBuyer_6 (by decide) (fun c1 => ?_) (fun c1 => ?_)
  · replace h := it_pos c1 h
    refine r_aload_n 0 dX1_addBuyer_10 rfl ?_
    refine gFair_purse 0 rfl (tb_in (i := 3) (j := 11) rfl rfl) dX1_addBuyer_11 ?_
    refine r_aload_n 0 dX1_addBuyer_14 rfl ?_
    refine gFair_buyers 0 rfl (tb_in (i := 3) (j := 0) rfl rfl) dX1_addBuyer_15 ?_
    refine r_iload_n 1 dX1_addBuyer_18 rfl ?_
    obtain ⟨h2, h⟩ := rq_some h
    obtain ⟨u2, e2, h⟩ := lt_some h
    refine sFair_purse (bs1 := [bFair K a0 z0_lasts z0_keeps z0_stalls z0_buyers z0_minute z0_goods z0_price z0_tongue z0_till z0_wealth z0_sold z0_ring z0_grudges u2 z0_came z0_had z0_seller z0_praise z0_borne]) 0 e2 rfl (inb_in h2) rfl dX1_addBuyer_19 ?_
    refine r_aload_n 0 dX1_addBuyer_20 rfl ?_
    refine gFair_came 0 rfl (tb_in (i := 3) (j := 12) rfl rfl) dX1_addBuyer_21 ?_
    refine r_aload_n 0 dX1_addBuyer_24 rfl ?_
    refine gFair_buyers 0 rfl (tb_in (i := 3) (j := 0) rfl rfl) dX1_addBuyer_25 ?_
    refine r_iload_n 2 dX1_addBuyer_28 rfl ?_
    obtain ⟨h3, h⟩ := rq_some h
    obtain ⟨u3, e3, h⟩ := lt_some h
    refine sFair_came (bs1 := [bFair K a0 z0_lasts z0_keeps z0_stalls z0_buyers z0_minute z0_goods z0_price z0_tongue z0_till z0_wealth z0_sold z0_ring z0_grudges u2 u3 z0_had z0_seller z0_praise z0_borne]) 0 e3 rfl (inb_in h3) rfl dX1_addBuyer_29 ?_
    refine r_iconst (x := (0 : Int32)) dX1_addBuyer_30 (by decide) ?_
    refine r_istore_n (lv' := [(3, .int (0 : Int32)), (0, .ref (a0 0)), (1, .int x1), (2, .int x2)]) dX1_addBuyer_31 (Nat.le_of_ble_eq_true rfl) rfl ?_
    refine r_sub (lv' := [(0, .ref (a0 0)), (3, .int (0 : Int32))]) [1, 0] rfl ?_
    exact cFair_addBuyer_l32   FU (0 : Int32) z0_had h
  · replace h := it_neg c1 h
    have hq := Option.some.inj h
    subst hq
    exact r_vret rfl dX1_addBuyer_9
end
theorem dX1_clear_0 : decode cX1_clear 0 = .ok (.aload_n 0, 1) := by decide +kernel
theorem dX1_clear_1 : decode cX1_clear 1 = .ok (.iconst 0, 1) := by decide +kernel
theorem dX1_clear_2 : decode cX1_clear 2 = .ok (.putfield 9, 3) := by decide +kernel
theorem dX1_clear_5 : decode cX1_clear 5 = .ok (.aload_n 0, 1) := by decide +kernel
theorem dX1_clear_6 : decode cX1_clear 6 = .ok (.iconst 0, 1) := by decide +kernel
theorem dX1_clear_7 : decode cX1_clear 7 = .ok (.putfield 15, 3) := by decide +kernel
theorem dX1_clear_10 : decode cX1_clear 10 = .ok (.aload_n 0, 1) := by decide +kernel
theorem dX1_clear_11 : decode cX1_clear 11 = .ok (.iconst 0, 1) := by decide +kernel
theorem dX1_clear_12 : decode cX1_clear 12 = .ok (.putfield 18, 3) := by decide +kernel
theorem dX1_clear_15 : decode cX1_clear 15 = .ok (.aload_n 0, 1) := by decide +kernel
theorem dX1_clear_16 : decode cX1_clear 16 = .ok (.iconst 0, 1) := by decide +kernel
theorem dX1_clear_17 : decode cX1_clear 17 = .ok (.putfield 21, 3) := by decide +kernel
theorem dX1_clear_20 : decode cX1_clear 20 = .ok (.aload_n 0, 1) := by decide +kernel
theorem dX1_clear_21 : decode cX1_clear 21 = .ok (.iconst 0, 1) := by decide +kernel
theorem dX1_clear_22 : decode cX1_clear 22 = .ok (.putfield 24, 3) := by decide +kernel
theorem dX1_clear_25 : decode cX1_clear 25 = .ok (.return_, 1) := by decide +kernel
abbrev MFair_clear : rx_M := (RX1, yX1_clear, cX1_clear, 1, none, 1)
theorem kFair_clear : rKv MFair_clear 0 := ⟨tb_in (i := 6) (j := 29) rfl rfl, tb_in (i := 6) (j := 30) rfl rfl, tb_in (i := 3) (j := 26) rfl rfl, tb_in (i := 3) (j := 17) rfl rfl, ⟨by decide, by decide, by decide +kernel⟩, by decide⟩
section
variable {a0 : Nat → Nat} {z0_lasts : Int32} {z0_keeps : Int32} {z0_stalls : Int32} {z0_buyers : Int32} {z0_minute : Int32} {z0_goods : Nat → Int32} {z0_price : Nat → Int32} {z0_tongue : Nat → Int32} {z0_till : Nat → Int32} {z0_wealth : Nat → Int32} {z0_sold : Nat → Int32} {z0_ring : Nat → Int32} {z0_grudges : Nat → Int32} {z0_purse : Nat → Int32} {z0_came : Nat → Int32} {z0_had : Nat → Int32} {z0_seller : Nat → Int32} {z0_praise : Nat → Int32} {z0_borne : Nat → Int32}
def mFair_clear (z0_lasts : Int32) (z0_keeps : Int32) (z0_stalls : Int32) (z0_buyers : Int32) (z0_minute : Int32) : Option (Int32 × Int32 × Int32 × Int32 × Int32) := some ((0 : Int32), (0 : Int32), (0 : Int32), (0 : Int32), (0 : Int32))
set_option maxHeartbeats 4000000 in
set_option maxRecDepth 20000 in
theorem cFair_clear {q : Int32 × Int32 × Int32 × Int32 × Int32}  (h : mFair_clear z0_lasts z0_keeps z0_stalls z0_buyers z0_minute = some q) : rMet l D Z (ty7 K) MFair_clear [.ref (a0 0)] (List.flatten [bFair K a0 z0_lasts z0_keeps z0_stalls z0_buyers z0_minute z0_goods z0_price z0_tongue z0_till z0_wealth z0_sold z0_ring z0_grudges z0_purse z0_came z0_had z0_seller z0_praise z0_borne]) (List.flatten [bFair K a0 q.1 q.2.1 q.2.2.1 q.2.2.2.1 q.2.2.2.2 z0_goods z0_price z0_tongue z0_till z0_wealth z0_sold z0_ring z0_grudges z0_purse z0_came z0_had z0_seller z0_praise z0_borne]) none := by
  refine rMet.of (by decide) rfl (Nat.le_of_ble_eq_true rfl) ?_
  refine r_sub (lv' := [(0, .ref (a0 0))]) [0] rfl ?_
  unfold mFair_clear at h
  refine r_aload_n 0 dX1_clear_0 rfl ?_
  refine r_iconst (x := (0 : Int32)) dX1_clear_1 (by decide) ?_
  refine pFair_lasts (bs1 := [bFair K a0 (0 : Int32) z0_keeps z0_stalls z0_buyers z0_minute z0_goods z0_price z0_tongue z0_till z0_wealth z0_sold z0_ring z0_grudges z0_purse z0_came z0_had z0_seller z0_praise z0_borne]) 0 rfl rfl (tb_in (i := 2) (j := 29) rfl rfl) dX1_clear_2 ?_
  refine r_aload_n 0 dX1_clear_5 rfl ?_
  refine r_iconst (x := (0 : Int32)) dX1_clear_6 (by decide) ?_
  refine pFair_keeps (bs1 := [bFair K a0 (0 : Int32) (0 : Int32) z0_stalls z0_buyers z0_minute z0_goods z0_price z0_tongue z0_till z0_wealth z0_sold z0_ring z0_grudges z0_purse z0_came z0_had z0_seller z0_praise z0_borne]) 0 rfl rfl (tb_in (i := 2) (j := 30) rfl rfl) dX1_clear_7 ?_
  refine r_aload_n 0 dX1_clear_10 rfl ?_
  refine r_iconst (x := (0 : Int32)) dX1_clear_11 (by decide) ?_
  refine pFair_stalls (bs1 := [bFair K a0 (0 : Int32) (0 : Int32) (0 : Int32) z0_buyers z0_minute z0_goods z0_price z0_tongue z0_till z0_wealth z0_sold z0_ring z0_grudges z0_purse z0_came z0_had z0_seller z0_praise z0_borne]) 0 rfl rfl (tb_in (i := 2) (j := 31) rfl rfl) dX1_clear_12 ?_
  refine r_aload_n 0 dX1_clear_15 rfl ?_
  refine r_iconst (x := (0 : Int32)) dX1_clear_16 (by decide) ?_
  refine pFair_buyers (bs1 := [bFair K a0 (0 : Int32) (0 : Int32) (0 : Int32) (0 : Int32) z0_minute z0_goods z0_price z0_tongue z0_till z0_wealth z0_sold z0_ring z0_grudges z0_purse z0_came z0_had z0_seller z0_praise z0_borne]) 0 rfl rfl (tb_in (i := 3) (j := 0) rfl rfl) dX1_clear_17 ?_
  refine r_aload_n 0 dX1_clear_20 rfl ?_
  refine r_iconst (x := (0 : Int32)) dX1_clear_21 (by decide) ?_
  refine pFair_minute (bs1 := [bFair K a0 (0 : Int32) (0 : Int32) (0 : Int32) (0 : Int32) (0 : Int32) z0_goods z0_price z0_tongue z0_till z0_wealth z0_sold z0_ring z0_grudges z0_purse z0_came z0_had z0_seller z0_praise z0_borne]) 0 rfl rfl (tb_in (i := 3) (j := 1) rfl rfl) dX1_clear_22 ?_
  have hq := Option.some.inj h
  subst hq
  exact r_vret rfl dX1_clear_25
end
theorem dX1_flipGrudge_0 : decode cX1_flipGrudge 0 = .ok (.aload_n 0, 1) := by decide +kernel
theorem dX1_flipGrudge_1 : decode cX1_flipGrudge 1 = .ok (.getfield 49, 3) := by decide +kernel
theorem dX1_flipGrudge_4 : decode cX1_flipGrudge 4 = .ok (.iload_n 1, 1) := by decide +kernel
theorem dX1_flipGrudge_5 : decode cX1_flipGrudge 5 = .ok (.dup2, 1) := by decide +kernel
theorem dX1_flipGrudge_6 : decode cX1_flipGrudge 6 = .ok (.iaload, 1) := by decide +kernel
theorem dX1_flipGrudge_7 : decode cX1_flipGrudge 7 = .ok (.iconst 1, 1) := by decide +kernel
theorem dX1_flipGrudge_8 : decode cX1_flipGrudge 8 = .ok (.iload_n 2, 1) := by decide +kernel
theorem dX1_flipGrudge_9 : decode cX1_flipGrudge 9 = .ok (.ishl, 1) := by decide +kernel
theorem dX1_flipGrudge_10 : decode cX1_flipGrudge 10 = .ok (.ixor, 1) := by decide +kernel
theorem dX1_flipGrudge_11 : decode cX1_flipGrudge 11 = .ok (.iastore, 1) := by decide +kernel
theorem dX1_flipGrudge_12 : decode cX1_flipGrudge 12 = .ok (.aload_n 0, 1) := by decide +kernel
theorem dX1_flipGrudge_13 : decode cX1_flipGrudge 13 = .ok (.invokevirtual 90, 3) := by decide +kernel
theorem dX1_flipGrudge_16 : decode cX1_flipGrudge 16 = .ok (.return_, 1) := by decide +kernel
abbrev MFair_flipGrudge : rx_M := (RX1, yX1_flipGrudge, cX1_flipGrudge, 3, none, 3)
theorem kFair_flipGrudge : rKv MFair_flipGrudge 2 := ⟨tb_in (i := 6) (j := 11) rfl rfl, tb_in (i := 6) (j := 12) rfl rfl, tb_in (i := 3) (j := 26) rfl rfl, tb_in (i := 4) (j := 12) rfl rfl, ⟨by decide, by decide, by decide +kernel⟩, by decide⟩
section
variable {a0 : Nat → Nat} {z0_lasts : Int32} {z0_keeps : Int32} {z0_stalls : Int32} {z0_buyers : Int32} {z0_minute : Int32} {z0_goods : Nat → Int32} {z0_price : Nat → Int32} {z0_tongue : Nat → Int32} {z0_till : Nat → Int32} {z0_wealth : Nat → Int32} {z0_sold : Nat → Int32} {z0_ring : Nat → Int32} {z0_grudges : Nat → Int32} {z0_purse : Nat → Int32} {z0_came : Nat → Int32} {z0_had : Nat → Int32} {z0_seller : Nat → Int32} {z0_praise : Nat → Int32} {z0_borne : Nat → Int32}
def mFair_flipGrudge (x1 : Int32) (x2 : Int32) (z0_stalls : Int32) (z0_tongue : Nat → Int32) (z0_ring : Nat → Int32) (z0_grudges : Nat → Int32) (z0_seller : Nat → Int32) (z0_praise : Nat → Int32) (z0_borne : Nat → Int32) : Option ((Nat → Int32) × (Nat → Int32) × (Nat → Int32) × (Nat → Int32)) := rq (inb x1 6) (rq (inb x1 6) (lt (upd z0_grudges x1.toNatClampNeg ((z0_grudges x1.toNatClampNeg) ^^^ ((1 : Int32) <<< (x2 &&& 31)))) (fun u2 => (mFair_arrange z0_stalls z0_tongue z0_ring u2 z0_seller z0_praise z0_borne).bind (fun q3 => some (u2, q3.1, q3.2.1, q3.2.2)))))
set_option maxHeartbeats 4000000 in
set_option maxRecDepth 20000 in
theorem cFair_flipGrudge {q : (Nat → Int32) × (Nat → Int32) × (Nat → Int32) × (Nat → Int32)} {x1 : Int32} {x2 : Int32} (h : mFair_flipGrudge x1 x2 z0_stalls z0_tongue z0_ring z0_grudges z0_seller z0_praise z0_borne = some q) : rMet l D Z (ty7 K) MFair_flipGrudge [.ref (a0 0), .int x1, .int x2] (List.flatten [bFair K a0 z0_lasts z0_keeps z0_stalls z0_buyers z0_minute z0_goods z0_price z0_tongue z0_till z0_wealth z0_sold z0_ring z0_grudges z0_purse z0_came z0_had z0_seller z0_praise z0_borne]) (List.flatten [bFair K a0 z0_lasts z0_keeps z0_stalls z0_buyers z0_minute z0_goods z0_price z0_tongue z0_till z0_wealth z0_sold z0_ring q.1 z0_purse z0_came z0_had q.2.1 q.2.2.1 q.2.2.2]) none := by
  refine rMet.of (by decide) rfl (Nat.le_of_ble_eq_true rfl) ?_
  refine r_sub (lv' := [(0, .ref (a0 0)), (1, .int x1), (2, .int x2)]) [0, 1, 2] rfl ?_
  unfold mFair_flipGrudge at h
  refine r_aload_n 0 dX1_flipGrudge_0 rfl ?_
  refine gFair_grudges 0 rfl (tb_in (i := 3) (j := 10) rfl rfl) dX1_flipGrudge_1 ?_
  refine r_iload_n 1 dX1_flipGrudge_4 rfl ?_
  refine r_dup2 dX1_flipGrudge_5 rfl rfl ?_
  obtain ⟨h1, h⟩ := rq_some h
  refine lFair_grudges 0 rfl (inb_in h1) dX1_flipGrudge_6 ?_
  refine r_iconst (x := (1 : Int32)) dX1_flipGrudge_7 (by decide) ?_
  refine r_iload_n 2 dX1_flipGrudge_8 rfl ?_
  refine r_ishl dX1_flipGrudge_9 ?_
  refine r_ixor dX1_flipGrudge_10 ?_
  obtain ⟨h2, h⟩ := rq_some h
  obtain ⟨u2, e2, h⟩ := lt_some h
  refine sFair_grudges (bs1 := [bFair K a0 z0_lasts z0_keeps z0_stalls z0_buyers z0_minute z0_goods z0_price z0_tongue z0_till z0_wealth z0_sold z0_ring u2 z0_purse z0_came z0_had z0_seller z0_praise z0_borne]) 0 e2 rfl (inb_in h2) rfl dX1_flipGrudge_11 ?_
  refine r_aload_n 0 dX1_flipGrudge_12 rfl ?_
  obtain ⟨q3, h3, h⟩ := bd_some h
  refine b_callV (isC := [0]) (ci := 1)  (st := []) (bs1 := [bFair K a0 z0_lasts z0_keeps z0_stalls z0_buyers z0_minute z0_goods z0_price z0_tongue z0_till z0_wealth z0_sold z0_ring u2 z0_purse z0_came z0_had q3.1 q3.2.1 q3.2.2]) (cFair_arrange (a0 := a0) (z0_lasts := z0_lasts) (z0_keeps := z0_keeps) (z0_stalls := z0_stalls) (z0_buyers := z0_buyers) (z0_minute := z0_minute) (z0_goods := z0_goods) (z0_price := z0_price) (z0_tongue := z0_tongue) (z0_till := z0_till) (z0_wealth := z0_wealth) (z0_sold := z0_sold) (z0_ring := z0_ring) (z0_grudges := u2) (z0_purse := z0_purse) (z0_came := z0_came) (z0_had := z0_had) (z0_seller := z0_seller) (z0_praise := z0_praise) (z0_borne := z0_borne) h3) rfl rfl (Nat.le_of_ble_eq_true rfl) kFair_arrange (tb_in (i := 4) (j := 3) rfl rfl) (by decide) (by decide) rfl rfl rfl rfl rfl rfl rfl dX1_flipGrudge_13 ?_
  have hq := Option.some.inj h
  subst hq
  exact r_vret rfl dX1_flipGrudge_16
end
theorem dX1_placeOf_0 : decode cX1_placeOf 0 = .ok (.iconst 0, 1) := by decide +kernel
theorem dX1_placeOf_1 : decode cX1_placeOf 1 = .ok (.istore_n 2, 1) := by decide +kernel
theorem dX1_placeOf_2 : decode cX1_placeOf 2 = .ok (.iload_n 2, 1) := by decide +kernel
theorem dX1_placeOf_3 : decode cX1_placeOf 3 = .ok (.aload_n 0, 1) := by decide +kernel
theorem dX1_placeOf_4 : decode cX1_placeOf 4 = .ok (.getfield 18, 3) := by decide +kernel
theorem dX1_placeOf_7 : decode cX1_placeOf 7 = .ok (.if_icmp .ge 21, 3) := by decide +kernel
theorem dX1_placeOf_10 : decode cX1_placeOf 10 = .ok (.aload_n 0, 1) := by decide +kernel
theorem dX1_placeOf_11 : decode cX1_placeOf 11 = .ok (.getfield 46, 3) := by decide +kernel
theorem dX1_placeOf_14 : decode cX1_placeOf 14 = .ok (.iload_n 2, 1) := by decide +kernel
theorem dX1_placeOf_15 : decode cX1_placeOf 15 = .ok (.iaload, 1) := by decide +kernel
theorem dX1_placeOf_16 : decode cX1_placeOf 16 = .ok (.iload_n 1, 1) := by decide +kernel
theorem dX1_placeOf_17 : decode cX1_placeOf 17 = .ok (.if_icmp .ne 5, 3) := by decide +kernel
theorem dX1_placeOf_20 : decode cX1_placeOf 20 = .ok (.iload_n 2, 1) := by decide +kernel
theorem dX1_placeOf_21 : decode cX1_placeOf 21 = .ok (.ireturn, 1) := by decide +kernel
theorem dX1_placeOf_22 : decode cX1_placeOf 22 = .ok (.iinc 2 1, 3) := by decide +kernel
theorem dX1_placeOf_25 : decode cX1_placeOf 25 = .ok (.goto (-23), 3) := by decide +kernel
theorem dX1_placeOf_28 : decode cX1_placeOf 28 = .ok (.iconst 0, 1) := by decide +kernel
theorem dX1_placeOf_29 : decode cX1_placeOf 29 = .ok (.ireturn, 1) := by decide +kernel
abbrev MFair_placeOf : rx_M := (RX1, yX1_placeOf, cX1_placeOf, 3, (some .int), 1)
theorem kFair_placeOf : rKv MFair_placeOf 1 := ⟨tb_in (i := 4) (j := 10) rfl rfl, tb_in (i := 4) (j := 11) rfl rfl, tb_in (i := 3) (j := 26) rfl rfl, tb_in (i := 4) (j := 7) rfl rfl, ⟨by decide, by decide, by decide +kernel⟩, by decide⟩
section
variable {a0 : Nat → Nat} {z0_lasts : Int32} {z0_keeps : Int32} {z0_stalls : Int32} {z0_buyers : Int32} {z0_minute : Int32} {z0_goods : Nat → Int32} {z0_price : Nat → Int32} {z0_tongue : Nat → Int32} {z0_till : Nat → Int32} {z0_wealth : Nat → Int32} {z0_sold : Nat → Int32} {z0_ring : Nat → Int32} {z0_grudges : Nat → Int32} {z0_purse : Nat → Int32} {z0_came : Nat → Int32} {z0_had : Nat → Int32} {z0_seller : Nat → Int32} {z0_praise : Nat → Int32} {z0_borne : Nat → Int32}
def mFair_placeOf_l2 (z0_stalls : Int32) (z0_ring : Nat → Int32) (x1 : Int32) : Nat → Int32 → Option (Int32)
  | 0, _ => none
  | n + 1, x2 => (if z0_stalls ≤ x2 then some ((0 : Int32)) else rq (inb x2 6) ((if (z0_ring x2.toNatClampNeg) = x1 then some (x2) else mFair_placeOf_l2 z0_stalls z0_ring x1 n (x2 + (1 : Int32)))))
set_option maxHeartbeats 4000000 in
set_option maxRecDepth 20000 in
theorem cFair_placeOf_l2 {q : Int32} {x1 : Int32}  : ∀ (n : Nat) (x2 : Int32), mFair_placeOf_l2 z0_stalls z0_ring x1 n x2 = some q → rW l D Z (ty7 K) MFair_placeOf 2 [(0, .ref (a0 0)), (1, .int x1), (2, .int x2)] [] (List.flatten [bFair K a0 z0_lasts z0_keeps z0_stalls z0_buyers z0_minute z0_goods z0_price z0_tongue z0_till z0_wealth z0_sold z0_ring z0_grudges z0_purse z0_came z0_had z0_seller z0_praise z0_borne]) (List.flatten [bFair K a0 z0_lasts z0_keeps z0_stalls z0_buyers z0_minute z0_goods z0_price z0_tongue z0_till z0_wealth z0_sold z0_ring z0_grudges z0_purse z0_came z0_had z0_seller z0_praise z0_borne]) (some (.int q)) := by
  intro n
  induction n with
  | zero => intro x2 h; unfold mFair_placeOf_l2 at h; cases h
  | succ n ih =>
    intro x2 h
    unfold mFair_placeOf_l2 at h
    refine r_iload_n 2 dX1_placeOf_2 rfl ?_
    refine r_aload_n 0 dX1_placeOf_3 rfl ?_
    refine gFair_stalls 0 rfl (tb_in (i := 2) (j := 31) rfl rfl) dX1_placeOf_4 ?_
    refine r_icmp_ge 28 dX1_placeOf_7 (by decide) (fun c1 => ?_) (fun c1 => ?_)
    · replace h := it_pos c1 h
      refine r_iconst (x := (0 : Int32)) dX1_placeOf_28 (by decide) ?_
      have hq := Option.some.inj h
      subst hq
      exact r_iret rfl dX1_placeOf_29
    · replace h := it_neg c1 h
      refine r_aload_n 0 dX1_placeOf_10 rfl ?_
      refine gFair_ring 0 rfl (tb_in (i := 3) (j := 9) rfl rfl) dX1_placeOf_11 ?_
      refine r_iload_n 2 dX1_placeOf_14 rfl ?_
      obtain ⟨h2, h⟩ := rq_some h
      refine lFair_ring 0 rfl (inb_in h2) dX1_placeOf_15 ?_
      refine r_iload_n 1 dX1_placeOf_16 rfl ?_
      refine r_icmp_ne 22 dX1_placeOf_17 (by decide) (fun c3 => ?_) (fun c3 => ?_)
      · replace h := it_neg c3 h
        refine r_iinc (y := (x2 + (1 : Int32))) (lv' := [(2, .int (x2 + (1 : Int32))), (0, .ref (a0 0)), (1, .int x1)]) 2 dX1_placeOf_22 rfl rfl (Nat.le_of_ble_eq_true rfl) rfl ?_
        refine r_goto 2 dX1_placeOf_25 (by decide) ?_
        refine r_sub (lv' := [(0, .ref (a0 0)), (1, .int x1), (2, .int (x2 + (1 : Int32)))]) [1, 2, 0] rfl ?_
        exact ih (x2 + (1 : Int32)) h
      · replace h := it_pos c3 h
        refine r_iload_n 2 dX1_placeOf_20 rfl ?_
        have hq := Option.some.inj h
        subst hq
        exact r_iret rfl dX1_placeOf_21
def mFair_placeOf (x1 : Int32) (z0_stalls : Int32) (z0_ring : Nat → Int32) : Option (Int32) := mFair_placeOf_l2 z0_stalls z0_ring x1 FU (0 : Int32)
set_option maxHeartbeats 4000000 in
set_option maxRecDepth 20000 in
theorem cFair_placeOf {q : Int32} {x1 : Int32} (h : mFair_placeOf x1 z0_stalls z0_ring = some q) : rMet l D Z (ty7 K) MFair_placeOf [.ref (a0 0), .int x1] (List.flatten [bFair K a0 z0_lasts z0_keeps z0_stalls z0_buyers z0_minute z0_goods z0_price z0_tongue z0_till z0_wealth z0_sold z0_ring z0_grudges z0_purse z0_came z0_had z0_seller z0_praise z0_borne]) (List.flatten [bFair K a0 z0_lasts z0_keeps z0_stalls z0_buyers z0_minute z0_goods z0_price z0_tongue z0_till z0_wealth z0_sold z0_ring z0_grudges z0_purse z0_came z0_had z0_seller z0_praise z0_borne]) (some (.int q)) := by
  refine rMet.of (by decide) rfl (Nat.le_of_ble_eq_true rfl) ?_
  refine r_sub (lv' := [(0, .ref (a0 0)), (1, .int x1)]) [0, 1] rfl ?_
  unfold mFair_placeOf at h
  refine r_iconst (x := (0 : Int32)) dX1_placeOf_0 (by decide) ?_
  refine r_istore_n (lv' := [(2, .int (0 : Int32)), (0, .ref (a0 0)), (1, .int x1)]) dX1_placeOf_1 (Nat.le_of_ble_eq_true rfl) rfl ?_
  refine r_sub (lv' := [(0, .ref (a0 0)), (1, .int x1), (2, .int (0 : Int32))]) [1, 2, 0] rfl ?_
  exact cFair_placeOf_l2   FU (0 : Int32) h
end
theorem dX1_swapPlaces_0 : decode cX1_swapPlaces 0 = .ok (.aload_n 0, 1) := by decide +kernel
theorem dX1_swapPlaces_1 : decode cX1_swapPlaces 1 = .ok (.iload_n 1, 1) := by decide +kernel
theorem dX1_swapPlaces_2 : decode cX1_swapPlaces 2 = .ok (.invokevirtual 93, 3) := by decide +kernel
theorem dX1_swapPlaces_5 : decode cX1_swapPlaces 5 = .ok (.istore_n 3, 1) := by decide +kernel
theorem dX1_swapPlaces_6 : decode cX1_swapPlaces 6 = .ok (.aload_n 0, 1) := by decide +kernel
theorem dX1_swapPlaces_7 : decode cX1_swapPlaces 7 = .ok (.iload_n 2, 1) := by decide +kernel
theorem dX1_swapPlaces_8 : decode cX1_swapPlaces 8 = .ok (.invokevirtual 93, 3) := by decide +kernel
theorem dX1_swapPlaces_11 : decode cX1_swapPlaces 11 = .ok (.istore 4, 2) := by decide +kernel
theorem dX1_swapPlaces_13 : decode cX1_swapPlaces 13 = .ok (.aload_n 0, 1) := by decide +kernel
theorem dX1_swapPlaces_14 : decode cX1_swapPlaces 14 = .ok (.getfield 46, 3) := by decide +kernel
theorem dX1_swapPlaces_17 : decode cX1_swapPlaces 17 = .ok (.iload_n 3, 1) := by decide +kernel
theorem dX1_swapPlaces_18 : decode cX1_swapPlaces 18 = .ok (.iload_n 2, 1) := by decide +kernel
theorem dX1_swapPlaces_19 : decode cX1_swapPlaces 19 = .ok (.iastore, 1) := by decide +kernel
theorem dX1_swapPlaces_20 : decode cX1_swapPlaces 20 = .ok (.aload_n 0, 1) := by decide +kernel
theorem dX1_swapPlaces_21 : decode cX1_swapPlaces 21 = .ok (.getfield 46, 3) := by decide +kernel
theorem dX1_swapPlaces_24 : decode cX1_swapPlaces 24 = .ok (.iload 4, 2) := by decide +kernel
theorem dX1_swapPlaces_26 : decode cX1_swapPlaces 26 = .ok (.iload_n 1, 1) := by decide +kernel
theorem dX1_swapPlaces_27 : decode cX1_swapPlaces 27 = .ok (.iastore, 1) := by decide +kernel
theorem dX1_swapPlaces_28 : decode cX1_swapPlaces 28 = .ok (.aload_n 0, 1) := by decide +kernel
theorem dX1_swapPlaces_29 : decode cX1_swapPlaces 29 = .ok (.invokevirtual 90, 3) := by decide +kernel
theorem dX1_swapPlaces_32 : decode cX1_swapPlaces 32 = .ok (.return_, 1) := by decide +kernel
abbrev MFair_swapPlaces : rx_M := (RX1, yX1_swapPlaces, cX1_swapPlaces, 5, none, 3)
theorem kFair_swapPlaces : rKv MFair_swapPlaces 2 := ⟨tb_in (i := 11) (j := 4) rfl rfl, tb_in (i := 11) (j := 5) rfl rfl, tb_in (i := 3) (j := 26) rfl rfl, tb_in (i := 4) (j := 8) rfl rfl, ⟨by decide, by decide, by decide +kernel⟩, by decide⟩
section
variable {a0 : Nat → Nat} {z0_lasts : Int32} {z0_keeps : Int32} {z0_stalls : Int32} {z0_buyers : Int32} {z0_minute : Int32} {z0_goods : Nat → Int32} {z0_price : Nat → Int32} {z0_tongue : Nat → Int32} {z0_till : Nat → Int32} {z0_wealth : Nat → Int32} {z0_sold : Nat → Int32} {z0_ring : Nat → Int32} {z0_grudges : Nat → Int32} {z0_purse : Nat → Int32} {z0_came : Nat → Int32} {z0_had : Nat → Int32} {z0_seller : Nat → Int32} {z0_praise : Nat → Int32} {z0_borne : Nat → Int32}
def mFair_swapPlaces (x1 : Int32) (x2 : Int32) (z0_stalls : Int32) (z0_tongue : Nat → Int32) (z0_ring : Nat → Int32) (z0_grudges : Nat → Int32) (z0_seller : Nat → Int32) (z0_praise : Nat → Int32) (z0_borne : Nat → Int32) : Option ((Nat → Int32) × (Nat → Int32) × (Nat → Int32) × (Nat → Int32)) := (mFair_placeOf x1 z0_stalls z0_ring).bind (fun q1 => (mFair_placeOf x2 z0_stalls z0_ring).bind (fun q2 => rq (inb q1 6) (lt (upd z0_ring q1.toNatClampNeg x2) (fun u3 => rq (inb q2 6) (lt (upd u3 q2.toNatClampNeg x1) (fun u4 => (mFair_arrange z0_stalls z0_tongue u4 z0_grudges z0_seller z0_praise z0_borne).bind (fun q5 => some (u4, q5.1, q5.2.1, q5.2.2))))))))
set_option maxHeartbeats 4000000 in
set_option maxRecDepth 20000 in
theorem cFair_swapPlaces {q : (Nat → Int32) × (Nat → Int32) × (Nat → Int32) × (Nat → Int32)} {x1 : Int32} {x2 : Int32} (h : mFair_swapPlaces x1 x2 z0_stalls z0_tongue z0_ring z0_grudges z0_seller z0_praise z0_borne = some q) : rMet l D Z (ty7 K) MFair_swapPlaces [.ref (a0 0), .int x1, .int x2] (List.flatten [bFair K a0 z0_lasts z0_keeps z0_stalls z0_buyers z0_minute z0_goods z0_price z0_tongue z0_till z0_wealth z0_sold z0_ring z0_grudges z0_purse z0_came z0_had z0_seller z0_praise z0_borne]) (List.flatten [bFair K a0 z0_lasts z0_keeps z0_stalls z0_buyers z0_minute z0_goods z0_price z0_tongue z0_till z0_wealth z0_sold q.1 z0_grudges z0_purse z0_came z0_had q.2.1 q.2.2.1 q.2.2.2]) none := by
  refine rMet.of (by decide) rfl (Nat.le_of_ble_eq_true rfl) ?_
  refine r_sub (lv' := [(0, .ref (a0 0)), (1, .int x1), (2, .int x2)]) [0, 1, 2] rfl ?_
  unfold mFair_swapPlaces at h
  refine r_aload_n 0 dX1_swapPlaces_0 rfl ?_
  refine r_iload_n 1 dX1_swapPlaces_1 rfl ?_
  obtain ⟨q1, h1, h⟩ := bd_some h
  refine b_callV (isC := [0]) (ci := 1)  (st := []) (bs1 := [bFair K a0 z0_lasts z0_keeps z0_stalls z0_buyers z0_minute z0_goods z0_price z0_tongue z0_till z0_wealth z0_sold z0_ring z0_grudges z0_purse z0_came z0_had z0_seller z0_praise z0_borne]) (cFair_placeOf (a0 := a0) (z0_lasts := z0_lasts) (z0_keeps := z0_keeps) (z0_stalls := z0_stalls) (z0_buyers := z0_buyers) (z0_minute := z0_minute) (z0_goods := z0_goods) (z0_price := z0_price) (z0_tongue := z0_tongue) (z0_till := z0_till) (z0_wealth := z0_wealth) (z0_sold := z0_sold) (z0_ring := z0_ring) (z0_grudges := z0_grudges) (z0_purse := z0_purse) (z0_came := z0_came) (z0_had := z0_had) (z0_seller := z0_seller) (z0_praise := z0_praise) (z0_borne := z0_borne) h1) rfl rfl (Nat.le_of_ble_eq_true rfl) kFair_placeOf (tb_in (i := 4) (j := 9) rfl rfl) (by decide) (by decide) rfl rfl rfl rfl rfl rfl rfl dX1_swapPlaces_2 ?_
  refine r_istore_n (lv' := [(3, .int q1), (0, .ref (a0 0)), (1, .int x1), (2, .int x2)]) dX1_swapPlaces_5 (Nat.le_of_ble_eq_true rfl) rfl ?_
  refine r_aload_n 1 dX1_swapPlaces_6 rfl ?_
  refine r_iload_n 3 dX1_swapPlaces_7 rfl ?_
  obtain ⟨q2, h2, h⟩ := bd_some h
  refine b_callV (isC := [0]) (ci := 1)  (st := []) (bs1 := [bFair K a0 z0_lasts z0_keeps z0_stalls z0_buyers z0_minute z0_goods z0_price z0_tongue z0_till z0_wealth z0_sold z0_ring z0_grudges z0_purse z0_came z0_had z0_seller z0_praise z0_borne]) (cFair_placeOf (a0 := a0) (z0_lasts := z0_lasts) (z0_keeps := z0_keeps) (z0_stalls := z0_stalls) (z0_buyers := z0_buyers) (z0_minute := z0_minute) (z0_goods := z0_goods) (z0_price := z0_price) (z0_tongue := z0_tongue) (z0_till := z0_till) (z0_wealth := z0_wealth) (z0_sold := z0_sold) (z0_ring := z0_ring) (z0_grudges := z0_grudges) (z0_purse := z0_purse) (z0_came := z0_came) (z0_had := z0_had) (z0_seller := z0_seller) (z0_praise := z0_praise) (z0_borne := z0_borne) h2) rfl rfl (Nat.le_of_ble_eq_true rfl) kFair_placeOf (tb_in (i := 4) (j := 9) rfl rfl) (by decide) (by decide) rfl rfl rfl rfl rfl rfl rfl dX1_swapPlaces_8 ?_
  refine r_istore (lv' := [(4, .int q2), (3, .int q1), (0, .ref (a0 0)), (1, .int x1), (2, .int x2)]) dX1_swapPlaces_11 (Nat.le_of_ble_eq_true rfl) rfl ?_
  refine r_aload_n 2 dX1_swapPlaces_13 rfl ?_
  refine gFair_ring 0 rfl (tb_in (i := 3) (j := 9) rfl rfl) dX1_swapPlaces_14 ?_
  refine r_iload_n 1 dX1_swapPlaces_17 rfl ?_
  refine r_iload_n 4 dX1_swapPlaces_18 rfl ?_
  obtain ⟨h3, h⟩ := rq_some h
  obtain ⟨u3, e3, h⟩ := lt_some h
  refine sFair_ring (bs1 := [bFair K a0 z0_lasts z0_keeps z0_stalls z0_buyers z0_minute z0_goods z0_price z0_tongue z0_till z0_wealth z0_sold u3 z0_grudges z0_purse z0_came z0_had z0_seller z0_praise z0_borne]) 0 e3 rfl (inb_in h3) rfl dX1_swapPlaces_19 ?_
  refine r_aload_n 2 dX1_swapPlaces_20 rfl ?_
  refine gFair_ring 0 rfl (tb_in (i := 3) (j := 9) rfl rfl) dX1_swapPlaces_21 ?_
  refine r_iload 0 dX1_swapPlaces_24 rfl ?_
  refine r_iload_n 3 dX1_swapPlaces_26 rfl ?_
  obtain ⟨h4, h⟩ := rq_some h
  obtain ⟨u4, e4, h⟩ := lt_some h
  refine sFair_ring (bs1 := [bFair K a0 z0_lasts z0_keeps z0_stalls z0_buyers z0_minute z0_goods z0_price z0_tongue z0_till z0_wealth z0_sold u4 z0_grudges z0_purse z0_came z0_had z0_seller z0_praise z0_borne]) 0 e4 rfl (inb_in h4) rfl dX1_swapPlaces_27 ?_
  refine r_aload_n 2 dX1_swapPlaces_28 rfl ?_
  obtain ⟨q5, h5, h⟩ := bd_some h
  refine b_callV (isC := [0]) (ci := 1)  (st := []) (bs1 := [bFair K a0 z0_lasts z0_keeps z0_stalls z0_buyers z0_minute z0_goods z0_price z0_tongue z0_till z0_wealth z0_sold u4 z0_grudges z0_purse z0_came z0_had q5.1 q5.2.1 q5.2.2]) (cFair_arrange (a0 := a0) (z0_lasts := z0_lasts) (z0_keeps := z0_keeps) (z0_stalls := z0_stalls) (z0_buyers := z0_buyers) (z0_minute := z0_minute) (z0_goods := z0_goods) (z0_price := z0_price) (z0_tongue := z0_tongue) (z0_till := z0_till) (z0_wealth := z0_wealth) (z0_sold := z0_sold) (z0_ring := u4) (z0_grudges := z0_grudges) (z0_purse := z0_purse) (z0_came := z0_came) (z0_had := z0_had) (z0_seller := z0_seller) (z0_praise := z0_praise) (z0_borne := z0_borne) h5) rfl rfl (Nat.le_of_ble_eq_true rfl) kFair_arrange (tb_in (i := 4) (j := 3) rfl rfl) (by decide) (by decide) rfl rfl rfl rfl rfl rfl rfl dX1_swapPlaces_29 ?_
  have hq := Option.some.inj h
  subst hq
  exact r_vret rfl dX1_swapPlaces_32
end
theorem dX3_add_0 : decode cX3_add 0 = .ok (.aload_n 0, 1) := by decide +kernel
theorem dX3_add_1 : decode cX3_add 1 = .ok (.getfield 21, 3) := by decide +kernel
theorem dX3_add_4 : decode cX3_add 4 = .ok (.bipush 10, 2) := by decide +kernel
theorem dX3_add_6 : decode cX3_add 6 = .ok (.if_icmp .lt 4, 3) := by decide +kernel
theorem dX3_add_9 : decode cX3_add 9 = .ok (.return_, 1) := by decide +kernel
theorem dX3_add_10 : decode cX3_add 10 = .ok (.aload_n 0, 1) := by decide +kernel
theorem dX3_add_11 : decode cX3_add 11 = .ok (.getfield 21, 3) := by decide +kernel
theorem dX3_add_14 : decode cX3_add 14 = .ok (.istore 4, 2) := by decide +kernel
theorem dX3_add_16 : decode cX3_add 16 = .ok (.iload 4, 2) := by decide +kernel
theorem dX3_add_18 : decode cX3_add 18 = .ok (.ifCond .le 70, 3) := by decide +kernel
theorem dX3_add_21 : decode cX3_add 21 = .ok (.aload_n 0, 1) := by decide +kernel
theorem dX3_add_22 : decode cX3_add 22 = .ok (.getfield 9, 3) := by decide +kernel
theorem dX3_add_25 : decode cX3_add 25 = .ok (.iload 4, 2) := by decide +kernel
theorem dX3_add_27 : decode cX3_add 27 = .ok (.iconst 1, 1) := by decide +kernel
theorem dX3_add_28 : decode cX3_add 28 = .ok (.isub, 1) := by decide +kernel
theorem dX3_add_29 : decode cX3_add 29 = .ok (.iaload, 1) := by decide +kernel
theorem dX3_add_30 : decode cX3_add 30 = .ok (.iload_n 1, 1) := by decide +kernel
theorem dX3_add_31 : decode cX3_add 31 = .ok (.if_icmp .le 57, 3) := by decide +kernel
theorem dX3_add_34 : decode cX3_add 34 = .ok (.aload_n 0, 1) := by decide +kernel
theorem dX3_add_35 : decode cX3_add 35 = .ok (.getfield 9, 3) := by decide +kernel
theorem dX3_add_38 : decode cX3_add 38 = .ok (.iload 4, 2) := by decide +kernel
theorem dX3_add_40 : decode cX3_add 40 = .ok (.aload_n 0, 1) := by decide +kernel
theorem dX3_add_41 : decode cX3_add 41 = .ok (.getfield 9, 3) := by decide +kernel
theorem dX3_add_44 : decode cX3_add 44 = .ok (.iload 4, 2) := by decide +kernel
theorem dX3_add_46 : decode cX3_add 46 = .ok (.iconst 1, 1) := by decide +kernel
theorem dX3_add_47 : decode cX3_add 47 = .ok (.isub, 1) := by decide +kernel
theorem dX3_add_48 : decode cX3_add 48 = .ok (.iaload, 1) := by decide +kernel
theorem dX3_add_49 : decode cX3_add 49 = .ok (.iastore, 1) := by decide +kernel
theorem dX3_add_50 : decode cX3_add 50 = .ok (.aload_n 0, 1) := by decide +kernel
theorem dX3_add_51 : decode cX3_add 51 = .ok (.getfield 15, 3) := by decide +kernel
theorem dX3_add_54 : decode cX3_add 54 = .ok (.iload 4, 2) := by decide +kernel
theorem dX3_add_56 : decode cX3_add 56 = .ok (.aload_n 0, 1) := by decide +kernel
theorem dX3_add_57 : decode cX3_add 57 = .ok (.getfield 15, 3) := by decide +kernel
theorem dX3_add_60 : decode cX3_add 60 = .ok (.iload 4, 2) := by decide +kernel
theorem dX3_add_62 : decode cX3_add 62 = .ok (.iconst 1, 1) := by decide +kernel
theorem dX3_add_63 : decode cX3_add 63 = .ok (.isub, 1) := by decide +kernel
theorem dX3_add_64 : decode cX3_add 64 = .ok (.iaload, 1) := by decide +kernel
theorem dX3_add_65 : decode cX3_add 65 = .ok (.iastore, 1) := by decide +kernel
theorem dX3_add_66 : decode cX3_add 66 = .ok (.aload_n 0, 1) := by decide +kernel
theorem dX3_add_67 : decode cX3_add 67 = .ok (.getfield 18, 3) := by decide +kernel
theorem dX3_add_70 : decode cX3_add 70 = .ok (.iload 4, 2) := by decide +kernel
theorem dX3_add_72 : decode cX3_add 72 = .ok (.aload_n 0, 1) := by decide +kernel
theorem dX3_add_73 : decode cX3_add 73 = .ok (.getfield 18, 3) := by decide +kernel
theorem dX3_add_76 : decode cX3_add 76 = .ok (.iload 4, 2) := by decide +kernel
theorem dX3_add_78 : decode cX3_add 78 = .ok (.iconst 1, 1) := by decide +kernel
theorem dX3_add_79 : decode cX3_add 79 = .ok (.isub, 1) := by decide +kernel
theorem dX3_add_80 : decode cX3_add 80 = .ok (.iaload, 1) := by decide +kernel
theorem dX3_add_81 : decode cX3_add 81 = .ok (.iastore, 1) := by decide +kernel
theorem dX3_add_82 : decode cX3_add 82 = .ok (.iinc 4 (-1), 3) := by decide +kernel
theorem dX3_add_85 : decode cX3_add 85 = .ok (.goto (-69), 3) := by decide +kernel
theorem dX3_add_88 : decode cX3_add 88 = .ok (.aload_n 0, 1) := by decide +kernel
theorem dX3_add_89 : decode cX3_add 89 = .ok (.getfield 9, 3) := by decide +kernel
theorem dX3_add_92 : decode cX3_add 92 = .ok (.iload 4, 2) := by decide +kernel
theorem dX3_add_94 : decode cX3_add 94 = .ok (.iload_n 1, 1) := by decide +kernel
theorem dX3_add_95 : decode cX3_add 95 = .ok (.iastore, 1) := by decide +kernel
theorem dX3_add_96 : decode cX3_add 96 = .ok (.aload_n 0, 1) := by decide +kernel
theorem dX3_add_97 : decode cX3_add 97 = .ok (.getfield 15, 3) := by decide +kernel
theorem dX3_add_100 : decode cX3_add 100 = .ok (.iload 4, 2) := by decide +kernel
theorem dX3_add_102 : decode cX3_add 102 = .ok (.iload_n 2, 1) := by decide +kernel
theorem dX3_add_103 : decode cX3_add 103 = .ok (.iastore, 1) := by decide +kernel
theorem dX3_add_104 : decode cX3_add 104 = .ok (.aload_n 0, 1) := by decide +kernel
theorem dX3_add_105 : decode cX3_add 105 = .ok (.getfield 18, 3) := by decide +kernel
theorem dX3_add_108 : decode cX3_add 108 = .ok (.iload 4, 2) := by decide +kernel
theorem dX3_add_110 : decode cX3_add 110 = .ok (.iload_n 3, 1) := by decide +kernel
theorem dX3_add_111 : decode cX3_add 111 = .ok (.iastore, 1) := by decide +kernel
theorem dX3_add_112 : decode cX3_add 112 = .ok (.aload_n 0, 1) := by decide +kernel
theorem dX3_add_113 : decode cX3_add 113 = .ok (.dup, 1) := by decide +kernel
theorem dX3_add_114 : decode cX3_add 114 = .ok (.getfield 21, 3) := by decide +kernel
theorem dX3_add_117 : decode cX3_add 117 = .ok (.iconst 1, 1) := by decide +kernel
theorem dX3_add_118 : decode cX3_add 118 = .ok (.iadd, 1) := by decide +kernel
theorem dX3_add_119 : decode cX3_add 119 = .ok (.putfield 21, 3) := by decide +kernel
theorem dX3_add_122 : decode cX3_add 122 = .ok (.return_, 1) := by decide +kernel
abbrev MNotes_add : rx_M := (RX3, yX3_add, cX3_add, 5, none, 1)
theorem kNotes_add : rKv MNotes_add 3 := ⟨tb_in (i := 15) (j := 31) rfl rfl, tb_in (i := 16) (j := 0) rfl rfl, tb_in (i := 7) (j := 16) rfl rfl, tb_in (i := 7) (j := 10) rfl rfl, ⟨by decide, by decide, by decide +kernel⟩, by decide⟩
section
variable {a0 : Nat → Nat} {g0 : tyNotes}
def mNotes_add_l16 (x1 : Int32) (x2 : Int32) (x3 : Int32) : Nat → Int32 → tyNotes → Option (tyNotes)
  | 0, _, _ => none
  | n + 1, x4, g0 => (if x4 ≤ 0 then rq (inb x4 10) (lt (upd g0.1 x4.toNatClampNeg x1) (fun u3 => rq (inb x4 10) (lt (upd g0.2.1 x4.toNatClampNeg x2) (fun u4 => rq (inb x4 10) (lt (upd g0.2.2.1 x4.toNatClampNeg x3) (fun u5 => lt (g0.2.2.2 + (1 : Int32)) (fun y6 => some ((u3, u4, u5, y6))))))))) else rq (inb (x4 - (1 : Int32)) 10) ((if (g0.1 (x4 - (1 : Int32)).toNatClampNeg) ≤ x1 then rq (inb x4 10) (lt (upd g0.1 x4.toNatClampNeg x1) (fun u9 => rq (inb x4 10) (lt (upd g0.2.1 x4.toNatClampNeg x2) (fun u10 => rq (inb x4 10) (lt (upd g0.2.2.1 x4.toNatClampNeg x3) (fun u11 => lt (g0.2.2.2 + (1 : Int32)) (fun y12 => some ((u9, u10, u11, y12))))))))) else rq (inb (x4 - (1 : Int32)) 10) (rq (inb x4 10) (lt (upd g0.1 x4.toNatClampNeg (g0.1 (x4 - (1 : Int32)).toNatClampNeg)) (fun u14 => rq (inb (x4 - (1 : Int32)) 10) (rq (inb x4 10) (lt (upd g0.2.1 x4.toNatClampNeg (g0.2.1 (x4 - (1 : Int32)).toNatClampNeg)) (fun u16 => rq (inb (x4 - (1 : Int32)) 10) (rq (inb x4 10) (lt (upd g0.2.2.1 x4.toNatClampNeg (g0.2.2.1 (x4 - (1 : Int32)).toNatClampNeg)) (fun u18 => mNotes_add_l16 x1 x2 x3 n (x4 + (-1 : Int32)) (u14, u16, u18, g0.2.2.2)))))))))))))
set_option maxHeartbeats 4000000 in
set_option maxRecDepth 20000 in
theorem cNotes_add_l16 {q : tyNotes} {x1 : Int32} {x2 : Int32} {x3 : Int32}  : ∀ (n : Nat) (x4 : Int32) (g0 : tyNotes), mNotes_add_l16 x1 x2 x3 n x4 g0 = some q → rW l D Z (ty7 K) MNotes_add 16 [(0, .ref (a0 0)), (1, .int x1), (2, .int x2), (3, .int x3), (4, .int x4)] [] (List.flatten [bNotesG K a0 g0]) (List.flatten [bNotesG K a0 q]) none := by
  intro n
  induction n with
  | zero => intro x4 g0 h; unfold mNotes_add_l16 at h; cases h
  | succ n ih =>
    intro x4 g0 h
    unfold mNotes_add_l16 at h
    refine r_iload 4 dX3_add_16 rfl ?_
    refine r_if_le 88 dX3_add_18 (by decide) (fun c2 => ?_) (fun c2 => ?_)
    · replace h := it_pos c2 h
      refine r_aload_n 0 dX3_add_88 rfl ?_
      refine gNotes_minutes 0 rfl (tb_in (i := 7) (j := 6) rfl rfl) dX3_add_89 ?_
      refine r_iload 4 dX3_add_92 rfl ?_
      refine r_iload_n 1 dX3_add_94 rfl ?_
      obtain ⟨h3, h⟩ := rq_some h
      obtain ⟨u3, e3, h⟩ := lt_some h
      refine sNotes_minutes (bs1 := [bNotes K a0 u3 g0.2.1 g0.2.2.1 g0.2.2.2]) 0 e3 rfl (inb_in h3) rfl dX3_add_95 ?_
      refine r_aload_n 0 dX3_add_96 rfl ?_
      refine gNotes_stalls 0 rfl (tb_in (i := 7) (j := 7) rfl rfl) dX3_add_97 ?_
      refine r_iload 4 dX3_add_100 rfl ?_
      refine r_iload_n 2 dX3_add_102 rfl ?_
      obtain ⟨h4, h⟩ := rq_some h
      obtain ⟨u4, e4, h⟩ := lt_some h
      refine sNotes_stalls (bs1 := [bNotes K a0 u3 u4 g0.2.2.1 g0.2.2.2]) 0 e4 rfl (inb_in h4) rfl dX3_add_103 ?_
      refine r_aload_n 0 dX3_add_104 rfl ?_
      refine gNotes_tills 0 rfl (tb_in (i := 7) (j := 8) rfl rfl) dX3_add_105 ?_
      refine r_iload 4 dX3_add_108 rfl ?_
      refine r_iload_n 3 dX3_add_110 rfl ?_
      obtain ⟨h5, h⟩ := rq_some h
      obtain ⟨u5, e5, h⟩ := lt_some h
      refine sNotes_tills (bs1 := [bNotes K a0 u3 u4 u5 g0.2.2.2]) 0 e5 rfl (inb_in h5) rfl dX3_add_111 ?_
      refine r_aload_n 0 dX3_add_112 rfl ?_
      refine r_dup dX3_add_113 rfl ?_
      refine gNotes_size 0 rfl (tb_in (i := 7) (j := 9) rfl rfl) dX3_add_114 ?_
      refine r_iconst (x := (1 : Int32)) dX3_add_117 (by decide) ?_
      refine r_iadd dX3_add_118 ?_
      obtain ⟨y6, e6, h⟩ := lt_some h
      refine r_top e6 ?_
      refine pNotes_size (bs1 := [bNotes K a0 u3 u4 u5 y6]) 0 rfl rfl (tb_in (i := 7) (j := 9) rfl rfl) dX3_add_119 ?_
      have hq := Option.some.inj h
      subst hq
      exact r_vret rfl dX3_add_122
    · replace h := it_neg c2 h
      refine r_aload_n 0 dX3_add_21 rfl ?_
      refine gNotes_minutes 0 rfl (tb_in (i := 7) (j := 6) rfl rfl) dX3_add_22 ?_
      refine r_iload 4 dX3_add_25 rfl ?_
      refine r_iconst (x := (1 : Int32)) dX3_add_27 (by decide) ?_
      refine r_isub dX3_add_28 ?_
      obtain ⟨h7, h⟩ := rq_some h
      refine lNotes_minutes 0 rfl (inb_in h7) dX3_add_29 ?_
      refine r_iload_n 1 dX3_add_30 rfl ?_
      refine r_icmp_le 88 dX3_add_31 (by decide) (fun c8 => ?_) (fun c8 => ?_)
      · replace h := it_pos c8 h
        refine r_aload_n 0 dX3_add_88 rfl ?_
        refine gNotes_minutes 0 rfl (tb_in (i := 7) (j := 6) rfl rfl) dX3_add_89 ?_
        refine r_iload 4 dX3_add_92 rfl ?_
        refine r_iload_n 1 dX3_add_94 rfl ?_
        obtain ⟨h9, h⟩ := rq_some h
        obtain ⟨u9, e9, h⟩ := lt_some h
        refine sNotes_minutes (bs1 := [bNotes K a0 u9 g0.2.1 g0.2.2.1 g0.2.2.2]) 0 e9 rfl (inb_in h9) rfl dX3_add_95 ?_
        refine r_aload_n 0 dX3_add_96 rfl ?_
        refine gNotes_stalls 0 rfl (tb_in (i := 7) (j := 7) rfl rfl) dX3_add_97 ?_
        refine r_iload 4 dX3_add_100 rfl ?_
        refine r_iload_n 2 dX3_add_102 rfl ?_
        obtain ⟨h10, h⟩ := rq_some h
        obtain ⟨u10, e10, h⟩ := lt_some h
        refine sNotes_stalls (bs1 := [bNotes K a0 u9 u10 g0.2.2.1 g0.2.2.2]) 0 e10 rfl (inb_in h10) rfl dX3_add_103 ?_
        refine r_aload_n 0 dX3_add_104 rfl ?_
        refine gNotes_tills 0 rfl (tb_in (i := 7) (j := 8) rfl rfl) dX3_add_105 ?_
        refine r_iload 4 dX3_add_108 rfl ?_
        refine r_iload_n 3 dX3_add_110 rfl ?_
        obtain ⟨h11, h⟩ := rq_some h
        obtain ⟨u11, e11, h⟩ := lt_some h
        refine sNotes_tills (bs1 := [bNotes K a0 u9 u10 u11 g0.2.2.2]) 0 e11 rfl (inb_in h11) rfl dX3_add_111 ?_
        refine r_aload_n 0 dX3_add_112 rfl ?_
        refine r_dup dX3_add_113 rfl ?_
        refine gNotes_size 0 rfl (tb_in (i := 7) (j := 9) rfl rfl) dX3_add_114 ?_
        refine r_iconst (x := (1 : Int32)) dX3_add_117 (by decide) ?_
        refine r_iadd dX3_add_118 ?_
        obtain ⟨y12, e12, h⟩ := lt_some h
        refine r_top e12 ?_
        refine pNotes_size (bs1 := [bNotes K a0 u9 u10 u11 y12]) 0 rfl rfl (tb_in (i := 7) (j := 9) rfl rfl) dX3_add_119 ?_
        have hq := Option.some.inj h
        subst hq
        exact r_vret rfl dX3_add_122
      · replace h := it_neg c8 h
        refine r_aload_n 0 dX3_add_34 rfl ?_
        refine gNotes_minutes 0 rfl (tb_in (i := 7) (j := 6) rfl rfl) dX3_add_35 ?_
        refine r_iload 4 dX3_add_38 rfl ?_
        refine r_aload_n 0 dX3_add_40 rfl ?_
        refine gNotes_minutes 0 rfl (tb_in (i := 7) (j := 6) rfl rfl) dX3_add_41 ?_
        refine r_iload 4 dX3_add_44 rfl ?_
        refine r_iconst (x := (1 : Int32)) dX3_add_46 (by decide) ?_
        refine r_isub dX3_add_47 ?_
        obtain ⟨h13, h⟩ := rq_some h
        refine lNotes_minutes 0 rfl (inb_in h13) dX3_add_48 ?_
        obtain ⟨h14, h⟩ := rq_some h
        obtain ⟨u14, e14, h⟩ := lt_some h
        refine sNotes_minutes (bs1 := [bNotes K a0 u14 g0.2.1 g0.2.2.1 g0.2.2.2]) 0 e14 rfl (inb_in h14) rfl dX3_add_49 ?_
        refine r_aload_n 0 dX3_add_50 rfl ?_
        refine gNotes_stalls 0 rfl (tb_in (i := 7) (j := 7) rfl rfl) dX3_add_51 ?_
        refine r_iload 4 dX3_add_54 rfl ?_
        refine r_aload_n 0 dX3_add_56 rfl ?_
        refine gNotes_stalls 0 rfl (tb_in (i := 7) (j := 7) rfl rfl) dX3_add_57 ?_
        refine r_iload 4 dX3_add_60 rfl ?_
        refine r_iconst (x := (1 : Int32)) dX3_add_62 (by decide) ?_
        refine r_isub dX3_add_63 ?_
        obtain ⟨h15, h⟩ := rq_some h
        refine lNotes_stalls 0 rfl (inb_in h15) dX3_add_64 ?_
        obtain ⟨h16, h⟩ := rq_some h
        obtain ⟨u16, e16, h⟩ := lt_some h
        refine sNotes_stalls (bs1 := [bNotes K a0 u14 u16 g0.2.2.1 g0.2.2.2]) 0 e16 rfl (inb_in h16) rfl dX3_add_65 ?_
        refine r_aload_n 0 dX3_add_66 rfl ?_
        refine gNotes_tills 0 rfl (tb_in (i := 7) (j := 8) rfl rfl) dX3_add_67 ?_
        refine r_iload 4 dX3_add_70 rfl ?_
        refine r_aload_n 0 dX3_add_72 rfl ?_
        refine gNotes_tills 0 rfl (tb_in (i := 7) (j := 8) rfl rfl) dX3_add_73 ?_
        refine r_iload 4 dX3_add_76 rfl ?_
        refine r_iconst (x := (1 : Int32)) dX3_add_78 (by decide) ?_
        refine r_isub dX3_add_79 ?_
        obtain ⟨h17, h⟩ := rq_some h
        refine lNotes_tills 0 rfl (inb_in h17) dX3_add_80 ?_
        obtain ⟨h18, h⟩ := rq_some h
        obtain ⟨u18, e18, h⟩ := lt_some h
        refine sNotes_tills (bs1 := [bNotes K a0 u14 u16 u18 g0.2.2.2]) 0 e18 rfl (inb_in h18) rfl dX3_add_81 ?_
        refine r_iinc (y := (x4 + (-1 : Int32))) (lv' := [(4, .int (x4 + (-1 : Int32))), (0, .ref (a0 0)), (1, .int x1), (2, .int x2), (3, .int x3)]) 4 dX3_add_82 rfl rfl (Nat.le_of_ble_eq_true rfl) rfl ?_
        refine r_goto 16 dX3_add_85 (by decide) ?_
        refine r_sub (lv' := [(0, .ref (a0 0)), (1, .int x1), (2, .int x2), (3, .int x3), (4, .int (x4 + (-1 : Int32)))]) [1, 2, 3, 4, 0] rfl ?_
        exact ih (x4 + (-1 : Int32)) (u14, u16, u18, g0.2.2.2) h
def mNotes_add (x1 : Int32) (x2 : Int32) (x3 : Int32) (g0 : tyNotes) : Option (tyNotes) := (if g0.2.2.2 < (10 : Int32) then mNotes_add_l16 x1 x2 x3 FU g0.2.2.2 g0 else some (g0))
set_option maxHeartbeats 4000000 in
set_option maxRecDepth 20000 in
theorem cNotes_add {q : tyNotes} {x1 : Int32} {x2 : Int32} {x3 : Int32} (h : mNotes_add x1 x2 x3 g0 = some q) : rMet l D Z (ty7 K) MNotes_add [.ref (a0 0), .int x1, .int x2, .int x3] (List.flatten [bNotesG K a0 g0]) (List.flatten [bNotesG K a0 q]) none := by
  refine rMet.of (by decide) rfl (Nat.le_of_ble_eq_true rfl) ?_
  refine r_sub (lv' := [(0, .ref (a0 0)), (1, .int x1), (2, .int x2), (3, .int x3)]) [0, 1, 2, 3] rfl ?_
  unfold mNotes_add at h
  refine r_aload_n 0 dX3_add_0 rfl ?_
  refine gNotes_size 0 rfl (tb_in (i := 7) (j := 9) rfl rfl) dX3_add_1 ?_
  refine r_bipush (x := (10 : Int32)) dX3_add_4 (by decide) ?_
  refine r_icmp_lt 10 dX3_add_6 (by decide) (fun c1 => ?_) (fun c1 => ?_)
  · replace h := it_pos c1 h
    refine r_aload_n 0 dX3_add_10 rfl ?_
    refine gNotes_size 0 rfl (tb_in (i := 7) (j := 9) rfl rfl) dX3_add_11 ?_
    refine r_istore (lv' := [(4, .int g0.2.2.2), (0, .ref (a0 0)), (1, .int x1), (2, .int x2), (3, .int x3)]) dX3_add_14 (Nat.le_of_ble_eq_true rfl) rfl ?_
    refine r_sub (lv' := [(0, .ref (a0 0)), (1, .int x1), (2, .int x2), (3, .int x3), (4, .int g0.2.2.2)]) [1, 2, 3, 4, 0] rfl ?_
    exact cNotes_add_l16   FU g0.2.2.2 g0 h
  · replace h := it_neg c1 h
    have hq := Option.some.inj h
    subst hq
    exact r_vret rfl dX3_add_9
end
theorem dX3_copyFrom_0 : decode cX3_copyFrom 0 = .ok (.aload_n 0, 1) := by decide +kernel
theorem dX3_copyFrom_1 : decode cX3_copyFrom 1 = .ok (.aload_n 1, 1) := by decide +kernel
theorem dX3_copyFrom_2 : decode cX3_copyFrom 2 = .ok (.getfield 21, 3) := by decide +kernel
theorem dX3_copyFrom_5 : decode cX3_copyFrom 5 = .ok (.putfield 21, 3) := by decide +kernel
theorem dX3_copyFrom_8 : decode cX3_copyFrom 8 = .ok (.aload_n 1, 1) := by decide +kernel
theorem dX3_copyFrom_9 : decode cX3_copyFrom 9 = .ok (.getfield 9, 3) := by decide +kernel
theorem dX3_copyFrom_12 : decode cX3_copyFrom 12 = .ok (.iconst 0, 1) := by decide +kernel
theorem dX3_copyFrom_13 : decode cX3_copyFrom 13 = .ok (.aload_n 0, 1) := by decide +kernel
theorem dX3_copyFrom_14 : decode cX3_copyFrom 14 = .ok (.getfield 9, 3) := by decide +kernel
theorem dX3_copyFrom_17 : decode cX3_copyFrom 17 = .ok (.iconst 0, 1) := by decide +kernel
theorem dX3_copyFrom_18 : decode cX3_copyFrom 18 = .ok (.bipush 10, 2) := by decide +kernel
theorem dX3_copyFrom_20 : decode cX3_copyFrom 20 = .ok (.invokestatic 25, 3) := by decide +kernel
theorem dX3_copyFrom_23 : decode cX3_copyFrom 23 = .ok (.aload_n 1, 1) := by decide +kernel
theorem dX3_copyFrom_24 : decode cX3_copyFrom 24 = .ok (.getfield 15, 3) := by decide +kernel
theorem dX3_copyFrom_27 : decode cX3_copyFrom 27 = .ok (.iconst 0, 1) := by decide +kernel
theorem dX3_copyFrom_28 : decode cX3_copyFrom 28 = .ok (.aload_n 0, 1) := by decide +kernel
theorem dX3_copyFrom_29 : decode cX3_copyFrom 29 = .ok (.getfield 15, 3) := by decide +kernel
theorem dX3_copyFrom_32 : decode cX3_copyFrom 32 = .ok (.iconst 0, 1) := by decide +kernel
theorem dX3_copyFrom_33 : decode cX3_copyFrom 33 = .ok (.bipush 10, 2) := by decide +kernel
theorem dX3_copyFrom_35 : decode cX3_copyFrom 35 = .ok (.invokestatic 25, 3) := by decide +kernel
theorem dX3_copyFrom_38 : decode cX3_copyFrom 38 = .ok (.aload_n 1, 1) := by decide +kernel
theorem dX3_copyFrom_39 : decode cX3_copyFrom 39 = .ok (.getfield 18, 3) := by decide +kernel
theorem dX3_copyFrom_42 : decode cX3_copyFrom 42 = .ok (.iconst 0, 1) := by decide +kernel
theorem dX3_copyFrom_43 : decode cX3_copyFrom 43 = .ok (.aload_n 0, 1) := by decide +kernel
theorem dX3_copyFrom_44 : decode cX3_copyFrom 44 = .ok (.getfield 18, 3) := by decide +kernel
theorem dX3_copyFrom_47 : decode cX3_copyFrom 47 = .ok (.iconst 0, 1) := by decide +kernel
theorem dX3_copyFrom_48 : decode cX3_copyFrom 48 = .ok (.bipush 10, 2) := by decide +kernel
theorem dX3_copyFrom_50 : decode cX3_copyFrom 50 = .ok (.invokestatic 25, 3) := by decide +kernel
theorem dX3_copyFrom_53 : decode cX3_copyFrom 53 = .ok (.return_, 1) := by decide +kernel
abbrev MNotes_copyFrom : rx_M := (RX3, yX3_copyFrom, cX3_copyFrom, 2, none, 3)
theorem kNotes_copyFrom : rKv MNotes_copyFrom 1 := ⟨tb_in (i := 12) (j := 9) rfl rfl, tb_in (i := 12) (j := 10) rfl rfl, tb_in (i := 7) (j := 16) rfl rfl, tb_in (i := 7) (j := 11) rfl rfl, ⟨by decide, by decide, by decide +kernel⟩, by decide⟩
section
variable {a0 : Nat → Nat} {a1 : Nat → Nat} {g0 : tyNotes} {g1 : tyNotes}
def mNotes_copyFrom (g0 : tyNotes) (g1 : tyNotes) : Option (tyNotes) := rq (cpin (0 : Int32) (0 : Int32) (10 : Int32) 10 10) (lt (va_cpy g1.1 g0.1 (0 : Int32).toNatClampNeg (0 : Int32).toNatClampNeg (10 : Int32).toNatClampNeg) (fun u1 => rq (cpin (0 : Int32) (0 : Int32) (10 : Int32) 10 10) (lt (va_cpy g1.2.1 g0.2.1 (0 : Int32).toNatClampNeg (0 : Int32).toNatClampNeg (10 : Int32).toNatClampNeg) (fun u2 => rq (cpin (0 : Int32) (0 : Int32) (10 : Int32) 10 10) (lt (va_cpy g1.2.2.1 g0.2.2.1 (0 : Int32).toNatClampNeg (0 : Int32).toNatClampNeg (10 : Int32).toNatClampNeg) (fun u3 => some ((u1, u2, u3, g1.2.2.2))))))))
set_option maxHeartbeats 4000000 in
set_option maxRecDepth 20000 in
theorem cNotes_copyFrom {q : tyNotes}  (h : mNotes_copyFrom g0 g1 = some q) : rMet l D Z (ty7 K) MNotes_copyFrom [.ref (a0 0), .ref (a1 0)] (List.flatten [bNotesG K a0 g0, bNotesG K a1 g1]) (List.flatten [bNotesG K a0 q, bNotesG K a1 g1]) none := by
  refine rMet.of (by decide) rfl (Nat.le_of_ble_eq_true rfl) ?_
  refine r_sub (lv' := [(0, .ref (a0 0)), (1, .ref (a1 0))]) [0, 1] rfl ?_
  unfold mNotes_copyFrom at h
  refine r_aload_n 0 dX3_copyFrom_0 rfl ?_
  refine r_aload_n 1 dX3_copyFrom_1 rfl ?_
  refine gNotes_size 1 rfl (tb_in (i := 7) (j := 9) rfl rfl) dX3_copyFrom_2 ?_
  refine pNotes_size (bs1 := [bNotes K a0 g0.1 g0.2.1 g0.2.2.1 g1.2.2.2, bNotesG K a1 g1]) 0 rfl rfl (tb_in (i := 7) (j := 9) rfl rfl) dX3_copyFrom_5 ?_
  refine r_aload_n 1 dX3_copyFrom_8 rfl ?_
  refine gNotes_minutes 1 rfl (tb_in (i := 7) (j := 6) rfl rfl) dX3_copyFrom_9 ?_
  refine r_iconst (x := (0 : Int32)) dX3_copyFrom_12 (by decide) ?_
  refine r_aload_n 0 dX3_copyFrom_13 rfl ?_
  refine gNotes_minutes 0 rfl (tb_in (i := 7) (j := 6) rfl rfl) dX3_copyFrom_14 ?_
  refine r_iconst (x := (0 : Int32)) dX3_copyFrom_17 (by decide) ?_
  refine r_bipush (x := (10 : Int32)) dX3_copyFrom_18 (by decide) ?_
  obtain ⟨h1, h⟩ := rq_some h
  obtain ⟨u1, e1, h⟩ := lt_some h
  refine b_copy (bs1 := [bNotes K a0 u1 g0.2.1 g0.2.2.1 g1.2.2.2, bNotesG K a1 g1]) (ty := .int) 1 1 0 1 1 e1 h1 (fun _ _ => rfl) rfl rfl rfl rfl rfl rfl rfl (tb_in (i := 7) (j := 12) rfl rfl) (tb_in (i := 0) (j := 11) rfl rfl) (tb_in (i := 0) (j := 12) rfl rfl) (tb_in (i := 0) (j := 13) rfl rfl) (by decide) (Nat.le_of_ble_eq_true rfl) dX3_copyFrom_20 ?_
  refine r_aload_n 1 dX3_copyFrom_23 rfl ?_
  refine gNotes_stalls 1 rfl (tb_in (i := 7) (j := 7) rfl rfl) dX3_copyFrom_24 ?_
  refine r_iconst (x := (0 : Int32)) dX3_copyFrom_27 (by decide) ?_
  refine r_aload_n 0 dX3_copyFrom_28 rfl ?_
  refine gNotes_stalls 0 rfl (tb_in (i := 7) (j := 7) rfl rfl) dX3_copyFrom_29 ?_
  refine r_iconst (x := (0 : Int32)) dX3_copyFrom_32 (by decide) ?_
  refine r_bipush (x := (10 : Int32)) dX3_copyFrom_33 (by decide) ?_
  obtain ⟨h2, h⟩ := rq_some h
  obtain ⟨u2, e2, h⟩ := lt_some h
  refine b_copy (bs1 := [bNotes K a0 u1 u2 g0.2.2.1 g1.2.2.2, bNotesG K a1 g1]) (ty := .int) 1 2 0 2 1 e2 h2 (fun _ _ => rfl) rfl rfl rfl rfl rfl rfl rfl (tb_in (i := 7) (j := 12) rfl rfl) (tb_in (i := 0) (j := 11) rfl rfl) (tb_in (i := 0) (j := 12) rfl rfl) (tb_in (i := 0) (j := 13) rfl rfl) (by decide) (Nat.le_of_ble_eq_true rfl) dX3_copyFrom_35 ?_
  refine r_aload_n 1 dX3_copyFrom_38 rfl ?_
  refine gNotes_tills 1 rfl (tb_in (i := 7) (j := 8) rfl rfl) dX3_copyFrom_39 ?_
  refine r_iconst (x := (0 : Int32)) dX3_copyFrom_42 (by decide) ?_
  refine r_aload_n 0 dX3_copyFrom_43 rfl ?_
  refine gNotes_tills 0 rfl (tb_in (i := 7) (j := 8) rfl rfl) dX3_copyFrom_44 ?_
  refine r_iconst (x := (0 : Int32)) dX3_copyFrom_47 (by decide) ?_
  refine r_bipush (x := (10 : Int32)) dX3_copyFrom_48 (by decide) ?_
  obtain ⟨h3, h⟩ := rq_some h
  obtain ⟨u3, e3, h⟩ := lt_some h
  refine b_copy (bs1 := [bNotes K a0 u1 u2 u3 g1.2.2.2, bNotesG K a1 g1]) (ty := .int) 1 3 0 3 1 e3 h3 (fun _ _ => rfl) rfl rfl rfl rfl rfl rfl rfl (tb_in (i := 7) (j := 12) rfl rfl) (tb_in (i := 0) (j := 11) rfl rfl) (tb_in (i := 0) (j := 12) rfl rfl) (tb_in (i := 0) (j := 13) rfl rfl) (by decide) (Nat.le_of_ble_eq_true rfl) dX3_copyFrom_50 ?_
  have hq := Option.some.inj h
  subst hq
  exact r_vret rfl dX3_copyFrom_53
end
theorem dX3_passedBehind_0 : decode cX3_passedBehind 0 = .ok (.iload_n 0, 1) := by decide +kernel
theorem dX3_passedBehind_1 : decode cX3_passedBehind 1 = .ok (.iconst 1, 1) := by decide +kernel
theorem dX3_passedBehind_2 : decode cX3_passedBehind 2 = .ok (.iadd, 1) := by decide +kernel
theorem dX3_passedBehind_3 : decode cX3_passedBehind 3 = .ok (.ireturn, 1) := by decide +kernel
abbrev MNotes_passedBehind : rx_M := (RX3, yX3_passedBehind, cX3_passedBehind, 1, (some .int), 1)
theorem kNotes_passedBehind : rKs MNotes_passedBehind 1 := ⟨tb_in (i := 7) (j := 15) rfl rfl, tb_in (i := 7) (j := 16) rfl rfl, tb_in (i := 7) (j := 13) rfl rfl, ⟨by decide, by decide, by decide +kernel⟩, by decide⟩
section
def mNotes_passedBehind (x0 : Int32) : Option (Int32) := some ((x0 + (1 : Int32)))
set_option maxHeartbeats 4000000 in
set_option maxRecDepth 20000 in
theorem cNotes_passedBehind {q : Int32} {x0 : Int32} (h : mNotes_passedBehind x0 = some q) : rMet l D Z (ty7 K) MNotes_passedBehind [.int x0] (List.flatten []) (List.flatten []) (some (.int q)) := by
  refine rMet.of (by decide) rfl (Nat.le_of_ble_eq_true rfl) ?_
  refine r_sub (lv' := [(0, .int x0)]) [0] rfl ?_
  unfold mNotes_passedBehind at h
  refine r_iload_n 0 dX3_passedBehind_0 rfl ?_
  refine r_iconst (x := (1 : Int32)) dX3_passedBehind_1 (by decide) ?_
  refine r_iadd dX3_passedBehind_2 ?_
  have hq := Option.some.inj h
  subst hq
  exact r_iret rfl dX3_passedBehind_3
end
theorem dX3_fit_0 : decode cX3_fit 0 = .ok (.iconst 0, 1) := by decide +kernel
theorem dX3_fit_1 : decode cX3_fit 1 = .ok (.istore_n 3, 1) := by decide +kernel
theorem dX3_fit_2 : decode cX3_fit 2 = .ok (.iload_n 3, 1) := by decide +kernel
theorem dX3_fit_3 : decode cX3_fit 3 = .ok (.aload_n 0, 1) := by decide +kernel
theorem dX3_fit_4 : decode cX3_fit 4 = .ok (.getfield 21, 3) := by decide +kernel
theorem dX3_fit_7 : decode cX3_fit 7 = .ok (.if_icmp .ge 52, 3) := by decide +kernel
theorem dX3_fit_10 : decode cX3_fit 10 = .ok (.aload_n 1, 1) := by decide +kernel
theorem dX3_fit_11 : decode cX3_fit 11 = .ok (.aload_n 2, 1) := by decide +kernel
theorem dX3_fit_12 : decode cX3_fit 12 = .ok (.aload_n 0, 1) := by decide +kernel
theorem dX3_fit_13 : decode cX3_fit 13 = .ok (.getfield 9, 3) := by decide +kernel
theorem dX3_fit_16 : decode cX3_fit 16 = .ok (.iload_n 3, 1) := by decide +kernel
theorem dX3_fit_17 : decode cX3_fit 17 = .ok (.iaload, 1) := by decide +kernel
theorem dX3_fit_18 : decode cX3_fit 18 = .ok (.invokestatic 31, 3) := by decide +kernel
theorem dX3_fit_21 : decode cX3_fit 21 = .ok (.aload_n 1, 1) := by decide +kernel
theorem dX3_fit_22 : decode cX3_fit 22 = .ok (.getfield 35, 3) := by decide +kernel
theorem dX3_fit_25 : decode cX3_fit 25 = .ok (.isub, 1) := by decide +kernel
theorem dX3_fit_26 : decode cX3_fit 26 = .ok (.iconst (-1), 1) := by decide +kernel
theorem dX3_fit_27 : decode cX3_fit 27 = .ok (.invokevirtual 40, 3) := by decide +kernel
theorem dX3_fit_30 : decode cX3_fit 30 = .ok (.pop, 1) := by decide +kernel
theorem dX3_fit_31 : decode cX3_fit 31 = .ok (.aload_n 1, 1) := by decide +kernel
theorem dX3_fit_32 : decode cX3_fit 32 = .ok (.getfield 44, 3) := by decide +kernel
theorem dX3_fit_35 : decode cX3_fit 35 = .ok (.aload_n 0, 1) := by decide +kernel
theorem dX3_fit_36 : decode cX3_fit 36 = .ok (.getfield 15, 3) := by decide +kernel
theorem dX3_fit_39 : decode cX3_fit 39 = .ok (.iload_n 3, 1) := by decide +kernel
theorem dX3_fit_40 : decode cX3_fit 40 = .ok (.iaload, 1) := by decide +kernel
theorem dX3_fit_41 : decode cX3_fit 41 = .ok (.iaload, 1) := by decide +kernel
theorem dX3_fit_42 : decode cX3_fit 42 = .ok (.aload_n 0, 1) := by decide +kernel
theorem dX3_fit_43 : decode cX3_fit 43 = .ok (.getfield 18, 3) := by decide +kernel
theorem dX3_fit_46 : decode cX3_fit 46 = .ok (.iload_n 3, 1) := by decide +kernel
theorem dX3_fit_47 : decode cX3_fit 47 = .ok (.iaload, 1) := by decide +kernel
theorem dX3_fit_48 : decode cX3_fit 48 = .ok (.if_icmp .eq 5, 3) := by decide +kernel
theorem dX3_fit_51 : decode cX3_fit 51 = .ok (.iconst 0, 1) := by decide +kernel
theorem dX3_fit_52 : decode cX3_fit 52 = .ok (.ireturn, 1) := by decide +kernel
theorem dX3_fit_53 : decode cX3_fit 53 = .ok (.iinc 3 1, 3) := by decide +kernel
theorem dX3_fit_56 : decode cX3_fit 56 = .ok (.goto (-54), 3) := by decide +kernel
theorem dX3_fit_59 : decode cX3_fit 59 = .ok (.iconst 1, 1) := by decide +kernel
theorem dX3_fit_60 : decode cX3_fit 60 = .ok (.ireturn, 1) := by decide +kernel
abbrev MNotes_fitrr : rx_M := (RX3, yX3_fit, cX3_fit, 4, (some .boolean), 6)
theorem kNotes_fitrr : rKv MNotes_fitrr 2 := ⟨tb_in (i := 11) (j := 10) rfl rfl, tb_in (i := 11) (j := 11) rfl rfl, tb_in (i := 7) (j := 16) rfl rfl, tb_in (i := 7) (j := 19) rfl rfl, ⟨by decide, by decide, by decide +kernel⟩, by decide⟩
section
variable {a0 : Nat → Nat} {a1 : Nat → Nat} {a2 : Nat → Nat} {g0 : tyNotes} {g1 : tyFair} {g2 : tyRule}
def mNotes_fitrr_l2 (g0 : tyNotes) : Nat → Int32 → tyFair → tyRule → Option (Int32 × tyFair × tyRule)
  | 0, _, _, _ => none
  | n + 1, x3, g1, g2 => (if g0.2.2.2 ≤ x3 then some ((1 : Int32), g1, g2) else rq (inb x3 10) ((mNotes_passedBehind (g0.1 x3.toNatClampNeg)).bind (fun q3 => (mFair_gor (q3 - g1.2.2.2.2.1) (-1 : Int32) g1.1 g1.2.1 g1.2.2.1 g1.2.2.2.1 g1.2.2.2.2.1 g1.2.2.2.2.2.1 g1.2.2.2.2.2.2.1 g1.2.2.2.2.2.2.2.2.1 g1.2.2.2.2.2.2.2.2.2.1 g1.2.2.2.2.2.2.2.2.2.2.1 g1.2.2.2.2.2.2.2.2.2.2.2.2.2.1 g1.2.2.2.2.2.2.2.2.2.2.2.2.2.2.1 g1.2.2.2.2.2.2.2.2.2.2.2.2.2.2.2.1 g1.2.2.2.2.2.2.2.2.2.2.2.2.2.2.2.2.1 g1.2.2.2.2.2.2.2.2.2.2.2.2.2.2.2.2.2.1 g1.2.2.2.2.2.2.2.2.2.2.2.2.2.2.2.2.2.2 g2.1 g2.2.1 g2.2.2.1 g2.2.2.2.1 g2.2.2.2.2.1 g2.2.2.2.2.2.1 g2.2.2.2.2.2.2.2.1 g2.2.2.2.2.2.2.2.2.1 g2.2.2.2.2.2.2.2.2.2).bind (fun q4 => rq (inb x3 10) (rq (inb (g0.2.1 x3.toNatClampNeg) 6) (rq (inb x3 10) ((if (q4.2.2.2.1 (g0.2.1 x3.toNatClampNeg).toNatClampNeg) = (g0.2.2.1 x3.toNatClampNeg) then mNotes_fitrr_l2 g0 n (x3 + (1 : Int32)) (g1.1, g1.2.1, g1.2.2.1, g1.2.2.2.1, q4.2.1, q4.2.2.1, g1.2.2.2.2.2.2.1, g1.2.2.2.2.2.2.2.1, q4.2.2.2.1, q4.2.2.2.2.1, q4.2.2.2.2.2.1, g1.2.2.2.2.2.2.2.2.2.2.2.1, g1.2.2.2.2.2.2.2.2.2.2.2.2.1, q4.2.2.2.2.2.2.1, g1.2.2.2.2.2.2.2.2.2.2.2.2.2.2.1, q4.2.2.2.2.2.2.2.1, g1.2.2.2.2.2.2.2.2.2.2.2.2.2.2.2.2.1, g1.2.2.2.2.2.2.2.2.2.2.2.2.2.2.2.2.2.1, g1.2.2.2.2.2.2.2.2.2.2.2.2.2.2.2.2.2.2) (g2.1, g2.2.1, g2.2.2.1, g2.2.2.2.1, g2.2.2.2.2.1, g2.2.2.2.2.2.1, g2.2.2.2.2.2.2.1, g2.2.2.2.2.2.2.2.1, q4.2.2.2.2.2.2.2.2.1, q4.2.2.2.2.2.2.2.2.2) else some ((0 : Int32), (g1.1, g1.2.1, g1.2.2.1, g1.2.2.2.1, q4.2.1, q4.2.2.1, g1.2.2.2.2.2.2.1, g1.2.2.2.2.2.2.2.1, q4.2.2.2.1, q4.2.2.2.2.1, q4.2.2.2.2.2.1, g1.2.2.2.2.2.2.2.2.2.2.2.1, g1.2.2.2.2.2.2.2.2.2.2.2.2.1, q4.2.2.2.2.2.2.1, g1.2.2.2.2.2.2.2.2.2.2.2.2.2.2.1, q4.2.2.2.2.2.2.2.1, g1.2.2.2.2.2.2.2.2.2.2.2.2.2.2.2.2.1, g1.2.2.2.2.2.2.2.2.2.2.2.2.2.2.2.2.2.1, g1.2.2.2.2.2.2.2.2.2.2.2.2.2.2.2.2.2.2), (g2.1, g2.2.1, g2.2.2.1, g2.2.2.2.1, g2.2.2.2.2.1, g2.2.2.2.2.2.1, g2.2.2.2.2.2.2.1, g2.2.2.2.2.2.2.2.1, q4.2.2.2.2.2.2.2.2.1, q4.2.2.2.2.2.2.2.2.2))))))))))
set_option maxHeartbeats 4000000 in
set_option maxRecDepth 20000 in
theorem cNotes_fitrr_l2 {q : Int32 × tyFair × tyRule}   : ∀ (n : Nat) (x3 : Int32) (g1 : tyFair) (g2 : tyRule), mNotes_fitrr_l2 g0 n x3 g1 g2 = some q → rW l D Z (ty7 K) MNotes_fitrr 2 [(0, .ref (a0 0)), (1, .ref (a1 0)), (2, .ref (a2 0)), (3, .int x3)] [] (List.flatten [bNotesG K a0 g0, bFairG K a1 g1, bRuleG K a2 g2]) (List.flatten [bNotesG K a0 g0, bFairG K a1 q.2.1, bRuleG K a2 q.2.2]) (some (.int q.1)) := by
  intro n
  induction n with
  | zero => intro x3 g1 g2 h; unfold mNotes_fitrr_l2 at h; cases h
  | succ n ih =>
    intro x3 g1 g2 h
    unfold mNotes_fitrr_l2 at h
    refine r_iload_n 3 dX3_fit_2 rfl ?_
    refine r_aload_n 0 dX3_fit_3 rfl ?_
    refine gNotes_size 0 rfl (tb_in (i := 7) (j := 9) rfl rfl) dX3_fit_4 ?_
    refine r_icmp_ge 59 dX3_fit_7 (by decide) (fun c1 => ?_) (fun c1 => ?_)
    · replace h := it_pos c1 h
      refine r_iconst (x := (1 : Int32)) dX3_fit_59 (by decide) ?_
      have hq := Option.some.inj h
      subst hq
      exact r_zret (ty := .boolean) rfl rfl dX3_fit_60
    · replace h := it_neg c1 h
      refine r_aload_n 1 dX3_fit_10 rfl ?_
      refine r_aload_n 2 dX3_fit_11 rfl ?_
      refine r_aload_n 0 dX3_fit_12 rfl ?_
      refine gNotes_minutes 0 rfl (tb_in (i := 7) (j := 6) rfl rfl) dX3_fit_13 ?_
      refine r_iload_n 3 dX3_fit_16 rfl ?_
      obtain ⟨h2, h⟩ := rq_some h
      refine lNotes_minutes 0 rfl (inb_in h2) dX3_fit_17 ?_
      obtain ⟨q3, h3, h⟩ := bd_some h
      refine b_callS (isC := []) (st := [.ref (a2 0), .ref (a1 0)]) (bs1 := [bNotesG K a0 g0, bFairG K a1 g1, bRuleG K a2 g2]) (cNotes_passedBehind   h3) rfl rfl (Nat.le_of_ble_eq_true rfl) kNotes_passedBehind (tb_in (i := 7) (j := 14) rfl rfl) (by decide) (by decide) rfl rfl rfl dX3_fit_18 ?_
      refine r_aload_n 1 dX3_fit_21 rfl ?_
      refine gFair_minuteN 1 rfl (List.mem_of_getElem? (i := 20) rfl) dX3_fit_22 ?_
      refine r_isub dX3_fit_25 ?_
      refine r_iconst (x := (-1 : Int32)) dX3_fit_26 (by decide) ?_
      obtain ⟨q4, h4, h⟩ := bd_some h
      refine b_callVN (isC := [1, 2]) (ci := 1)  (st := []) (bs1 := [bNotesG K a0 g0, bFair K a1 g1.1 g1.2.1 g1.2.2.1 g1.2.2.2.1 q4.2.1 q4.2.2.1 g1.2.2.2.2.2.2.1 g1.2.2.2.2.2.2.2.1 q4.2.2.2.1 q4.2.2.2.2.1 q4.2.2.2.2.2.1 g1.2.2.2.2.2.2.2.2.2.2.2.1 g1.2.2.2.2.2.2.2.2.2.2.2.2.1 q4.2.2.2.2.2.2.1 g1.2.2.2.2.2.2.2.2.2.2.2.2.2.2.1 q4.2.2.2.2.2.2.2.1 g1.2.2.2.2.2.2.2.2.2.2.2.2.2.2.2.2.1 g1.2.2.2.2.2.2.2.2.2.2.2.2.2.2.2.2.2.1 g1.2.2.2.2.2.2.2.2.2.2.2.2.2.2.2.2.2.2, bRule K a2 g2.1 g2.2.1 g2.2.2.1 g2.2.2.2.1 g2.2.2.2.2.1 g2.2.2.2.2.2.1 g2.2.2.2.2.2.2.1 g2.2.2.2.2.2.2.2.1 q4.2.2.2.2.2.2.2.2.1 q4.2.2.2.2.2.2.2.2.2]) (cFair_gor (a0 := a1) (a1 := a2) (z0_lasts := g1.1) (z0_keeps := g1.2.1) (z0_stalls := g1.2.2.1) (z0_buyers := g1.2.2.2.1) (z0_minute := g1.2.2.2.2.1) (z0_goods := g1.2.2.2.2.2.1) (z0_price := g1.2.2.2.2.2.2.1) (z0_tongue := g1.2.2.2.2.2.2.2.1) (z0_till := g1.2.2.2.2.2.2.2.2.1) (z0_wealth := g1.2.2.2.2.2.2.2.2.2.1) (z0_sold := g1.2.2.2.2.2.2.2.2.2.2.1) (z0_ring := g1.2.2.2.2.2.2.2.2.2.2.2.1) (z0_grudges := g1.2.2.2.2.2.2.2.2.2.2.2.2.1) (z0_purse := g1.2.2.2.2.2.2.2.2.2.2.2.2.2.1) (z0_came := g1.2.2.2.2.2.2.2.2.2.2.2.2.2.2.1) (z0_had := g1.2.2.2.2.2.2.2.2.2.2.2.2.2.2.2.1) (z0_seller := g1.2.2.2.2.2.2.2.2.2.2.2.2.2.2.2.2.1) (z0_praise := g1.2.2.2.2.2.2.2.2.2.2.2.2.2.2.2.2.2.1) (z0_borne := g1.2.2.2.2.2.2.2.2.2.2.2.2.2.2.2.2.2.2) (z1_steps := g2.1) (z1_size := g2.2.1) (z1_sumFrom := g2.2.2.1) (z1_testFrom := g2.2.2.2.1) (z1_testTo := g2.2.2.2.2.1) (z1_clauses := g2.2.2.2.2.2.1) (z1_parts := g2.2.2.2.2.2.2.1) (z1_readsTime := g2.2.2.2.2.2.2.2.1) (z1_words := g2.2.2.2.2.2.2.2.2.1) (z1_stack := g2.2.2.2.2.2.2.2.2.2) h4) rfl rfl (Nat.le_of_ble_eq_true rfl) kFair_gor (List.mem_of_getElem? (i := 77) rfl) (by decide) (by decide) rfl rfl rfl rfl rfl rfl rfl dX3_fit_27 ?_
      refine r_pop dX3_fit_30 rfl ?_
      refine r_aload_n 1 dX3_fit_31 rfl ?_
      refine gFair_tillN 1 rfl (List.mem_of_getElem? (i := 29) rfl) dX3_fit_32 ?_
      refine r_aload_n 0 dX3_fit_35 rfl ?_
      refine gNotes_stalls 0 rfl (tb_in (i := 7) (j := 7) rfl rfl) dX3_fit_36 ?_
      refine r_iload_n 3 dX3_fit_39 rfl ?_
      obtain ⟨h5, h⟩ := rq_some h
      refine lNotes_stalls 0 rfl (inb_in h5) dX3_fit_40 ?_
      obtain ⟨h6, h⟩ := rq_some h
      refine lFair_till 1 rfl (inb_in h6) dX3_fit_41 ?_
      refine r_aload_n 0 dX3_fit_42 rfl ?_
      refine gNotes_tills 0 rfl (tb_in (i := 7) (j := 8) rfl rfl) dX3_fit_43 ?_
      refine r_iload_n 3 dX3_fit_46 rfl ?_
      obtain ⟨h7, h⟩ := rq_some h
      refine lNotes_tills 0 rfl (inb_in h7) dX3_fit_47 ?_
      refine r_icmp_eq 53 dX3_fit_48 (by decide) (fun c8 => ?_) (fun c8 => ?_)
      · replace h := it_pos c8 h
        refine r_iinc (y := (x3 + (1 : Int32))) (lv' := [(3, .int (x3 + (1 : Int32))), (0, .ref (a0 0)), (1, .ref (a1 0)), (2, .ref (a2 0))]) 3 dX3_fit_53 rfl rfl (Nat.le_of_ble_eq_true rfl) rfl ?_
        refine r_goto 2 dX3_fit_56 (by decide) ?_
        refine r_sub (lv' := [(0, .ref (a0 0)), (1, .ref (a1 0)), (2, .ref (a2 0)), (3, .int (x3 + (1 : Int32)))]) [1, 2, 3, 0] rfl ?_
        exact ih (x3 + (1 : Int32)) (g1.1, g1.2.1, g1.2.2.1, g1.2.2.2.1, q4.2.1, q4.2.2.1, g1.2.2.2.2.2.2.1, g1.2.2.2.2.2.2.2.1, q4.2.2.2.1, q4.2.2.2.2.1, q4.2.2.2.2.2.1, g1.2.2.2.2.2.2.2.2.2.2.2.1, g1.2.2.2.2.2.2.2.2.2.2.2.2.1, q4.2.2.2.2.2.2.1, g1.2.2.2.2.2.2.2.2.2.2.2.2.2.2.1, q4.2.2.2.2.2.2.2.1, g1.2.2.2.2.2.2.2.2.2.2.2.2.2.2.2.2.1, g1.2.2.2.2.2.2.2.2.2.2.2.2.2.2.2.2.2.1, g1.2.2.2.2.2.2.2.2.2.2.2.2.2.2.2.2.2.2) (g2.1, g2.2.1, g2.2.2.1, g2.2.2.2.1, g2.2.2.2.2.1, g2.2.2.2.2.2.1, g2.2.2.2.2.2.2.1, g2.2.2.2.2.2.2.2.1, q4.2.2.2.2.2.2.2.2.1, q4.2.2.2.2.2.2.2.2.2) h
      · replace h := it_neg c8 h
        refine r_iconst (x := (0 : Int32)) dX3_fit_51 (by decide) ?_
        have hq := Option.some.inj h
        subst hq
        exact r_zret (ty := .boolean) rfl rfl dX3_fit_52
def mNotes_fitrr (g0 : tyNotes) (g1 : tyFair) (g2 : tyRule) : Option (Int32 × tyFair × tyRule) := mNotes_fitrr_l2 g0 FU (0 : Int32) g1 g2
set_option maxHeartbeats 4000000 in
set_option maxRecDepth 20000 in
theorem cNotes_fitrr {q : Int32 × tyFair × tyRule}  (h : mNotes_fitrr g0 g1 g2 = some q) : rMet l D Z (ty7 K) MNotes_fitrr [.ref (a0 0), .ref (a1 0), .ref (a2 0)] (List.flatten [bNotesG K a0 g0, bFairG K a1 g1, bRuleG K a2 g2]) (List.flatten [bNotesG K a0 g0, bFairG K a1 q.2.1, bRuleG K a2 q.2.2]) (some (.int q.1)) := by
  refine rMet.of (by decide) rfl (Nat.le_of_ble_eq_true rfl) ?_
  refine r_sub (lv' := [(0, .ref (a0 0)), (1, .ref (a1 0)), (2, .ref (a2 0))]) [0, 1, 2] rfl ?_
  unfold mNotes_fitrr at h
  refine r_iconst (x := (0 : Int32)) dX3_fit_0 (by decide) ?_
  refine r_istore_n (lv' := [(3, .int (0 : Int32)), (0, .ref (a0 0)), (1, .ref (a1 0)), (2, .ref (a2 0))]) dX3_fit_1 (Nat.le_of_ble_eq_true rfl) rfl ?_
  refine r_sub (lv' := [(0, .ref (a0 0)), (1, .ref (a1 0)), (2, .ref (a2 0)), (3, .int (0 : Int32))]) [1, 2, 3, 0] rfl ?_
  exact cNotes_fitrr_l2 (g0 := g0)  FU (0 : Int32) g1 g2 h
end
abbrev MNotes_fitrn : rx_M := (RX3, yX3_fit, cX3_fit, 4, (some .boolean), 5)
theorem kNotes_fitrn : rKv MNotes_fitrn 2 := ⟨tb_in (i := 11) (j := 10) rfl rfl, tb_in (i := 11) (j := 11) rfl rfl, tb_in (i := 7) (j := 16) rfl rfl, tb_in (i := 7) (j := 19) rfl rfl, ⟨by decide, by decide, by decide +kernel⟩, by decide⟩
section
variable {a0 : Nat → Nat} {a1 : Nat → Nat} {g0 : tyNotes} {g1 : tyFair}
def mNotes_fitrn_l2 (g0 : tyNotes) : Nat → Int32 → tyFair → Option (Int32 × tyFair)
  | 0, _, _ => none
  | n + 1, x3, g1 => (if g0.2.2.2 ≤ x3 then some ((1 : Int32), g1) else rq (inb x3 10) ((mNotes_passedBehind (g0.1 x3.toNatClampNeg)).bind (fun q3 => (mFair_gon (q3 - g1.2.2.2.2.1) (-1 : Int32) g1.1 g1.2.1 g1.2.2.1 g1.2.2.2.1 g1.2.2.2.2.1 g1.2.2.2.2.2.1 g1.2.2.2.2.2.2.1 g1.2.2.2.2.2.2.2.2.1 g1.2.2.2.2.2.2.2.2.2.1 g1.2.2.2.2.2.2.2.2.2.2.1 g1.2.2.2.2.2.2.2.2.2.2.2.2.2.1 g1.2.2.2.2.2.2.2.2.2.2.2.2.2.2.1 g1.2.2.2.2.2.2.2.2.2.2.2.2.2.2.2.1 g1.2.2.2.2.2.2.2.2.2.2.2.2.2.2.2.2.1 g1.2.2.2.2.2.2.2.2.2.2.2.2.2.2.2.2.2.1).bind (fun q4 => rq (inb x3 10) (rq (inb (g0.2.1 x3.toNatClampNeg) 6) (rq (inb x3 10) ((if (q4.2.2.2.1 (g0.2.1 x3.toNatClampNeg).toNatClampNeg) = (g0.2.2.1 x3.toNatClampNeg) then mNotes_fitrn_l2 g0 n (x3 + (1 : Int32)) (g1.1, g1.2.1, g1.2.2.1, g1.2.2.2.1, q4.2.1, q4.2.2.1, g1.2.2.2.2.2.2.1, g1.2.2.2.2.2.2.2.1, q4.2.2.2.1, q4.2.2.2.2.1, q4.2.2.2.2.2.1, g1.2.2.2.2.2.2.2.2.2.2.2.1, g1.2.2.2.2.2.2.2.2.2.2.2.2.1, q4.2.2.2.2.2.2.1, g1.2.2.2.2.2.2.2.2.2.2.2.2.2.2.1, q4.2.2.2.2.2.2.2, g1.2.2.2.2.2.2.2.2.2.2.2.2.2.2.2.2.1, g1.2.2.2.2.2.2.2.2.2.2.2.2.2.2.2.2.2.1, g1.2.2.2.2.2.2.2.2.2.2.2.2.2.2.2.2.2.2) else some ((0 : Int32), (g1.1, g1.2.1, g1.2.2.1, g1.2.2.2.1, q4.2.1, q4.2.2.1, g1.2.2.2.2.2.2.1, g1.2.2.2.2.2.2.2.1, q4.2.2.2.1, q4.2.2.2.2.1, q4.2.2.2.2.2.1, g1.2.2.2.2.2.2.2.2.2.2.2.1, g1.2.2.2.2.2.2.2.2.2.2.2.2.1, q4.2.2.2.2.2.2.1, g1.2.2.2.2.2.2.2.2.2.2.2.2.2.2.1, q4.2.2.2.2.2.2.2, g1.2.2.2.2.2.2.2.2.2.2.2.2.2.2.2.2.1, g1.2.2.2.2.2.2.2.2.2.2.2.2.2.2.2.2.2.1, g1.2.2.2.2.2.2.2.2.2.2.2.2.2.2.2.2.2.2))))))))))
set_option maxHeartbeats 4000000 in
set_option maxRecDepth 20000 in
theorem cNotes_fitrn_l2 {q : Int32 × tyFair}   : ∀ (n : Nat) (x3 : Int32) (g1 : tyFair), mNotes_fitrn_l2 g0 n x3 g1 = some q → rW l D Z (ty7 K) MNotes_fitrn 2 [(0, .ref (a0 0)), (1, .ref (a1 0)), (2, .null), (3, .int x3)] [] (List.flatten [bNotesG K a0 g0, bFairG K a1 g1]) (List.flatten [bNotesG K a0 g0, bFairG K a1 q.2]) (some (.int q.1)) := by
  intro n
  induction n with
  | zero => intro x3 g1 h; unfold mNotes_fitrn_l2 at h; cases h
  | succ n ih =>
    intro x3 g1 h
    unfold mNotes_fitrn_l2 at h
    refine r_iload_n 3 dX3_fit_2 rfl ?_
    refine r_aload_n 0 dX3_fit_3 rfl ?_
    refine gNotes_size 0 rfl (tb_in (i := 7) (j := 9) rfl rfl) dX3_fit_4 ?_
    refine r_icmp_ge 59 dX3_fit_7 (by decide) (fun c1 => ?_) (fun c1 => ?_)
    · replace h := it_pos c1 h
      refine r_iconst (x := (1 : Int32)) dX3_fit_59 (by decide) ?_
      have hq := Option.some.inj h
      subst hq
      exact r_zret (ty := .boolean) rfl rfl dX3_fit_60
    · replace h := it_neg c1 h
      refine r_aload_n 1 dX3_fit_10 rfl ?_
      refine r_aload_nN 2 dX3_fit_11 rfl ?_
      refine r_aload_n 0 dX3_fit_12 rfl ?_
      refine gNotes_minutes 0 rfl (tb_in (i := 7) (j := 6) rfl rfl) dX3_fit_13 ?_
      refine r_iload_n 3 dX3_fit_16 rfl ?_
      obtain ⟨h2, h⟩ := rq_some h
      refine lNotes_minutes 0 rfl (inb_in h2) dX3_fit_17 ?_
      obtain ⟨q3, h3, h⟩ := bd_some h
      refine b_callS (isC := []) (st := [.null, .ref (a1 0)]) (bs1 := [bNotesG K a0 g0, bFairG K a1 g1]) (cNotes_passedBehind   h3) rfl rfl (Nat.le_of_ble_eq_true rfl) kNotes_passedBehind (tb_in (i := 7) (j := 14) rfl rfl) (by decide) (by decide) rfl rfl rfl dX3_fit_18 ?_
      refine r_aload_n 1 dX3_fit_21 rfl ?_
      refine gFair_minuteN 1 rfl (List.mem_of_getElem? (i := 20) rfl) dX3_fit_22 ?_
      refine r_isub dX3_fit_25 ?_
      refine r_iconst (x := (-1 : Int32)) dX3_fit_26 (by decide) ?_
      obtain ⟨q4, h4, h⟩ := bd_some h
      refine b_callVN (isC := [1]) (ci := 1)  (st := []) (bs1 := [bNotesG K a0 g0, bFair K a1 g1.1 g1.2.1 g1.2.2.1 g1.2.2.2.1 q4.2.1 q4.2.2.1 g1.2.2.2.2.2.2.1 g1.2.2.2.2.2.2.2.1 q4.2.2.2.1 q4.2.2.2.2.1 q4.2.2.2.2.2.1 g1.2.2.2.2.2.2.2.2.2.2.2.1 g1.2.2.2.2.2.2.2.2.2.2.2.2.1 q4.2.2.2.2.2.2.1 g1.2.2.2.2.2.2.2.2.2.2.2.2.2.2.1 q4.2.2.2.2.2.2.2 g1.2.2.2.2.2.2.2.2.2.2.2.2.2.2.2.2.1 g1.2.2.2.2.2.2.2.2.2.2.2.2.2.2.2.2.2.1 g1.2.2.2.2.2.2.2.2.2.2.2.2.2.2.2.2.2.2]) (cFair_gon (a0 := a1) (z0_lasts := g1.1) (z0_keeps := g1.2.1) (z0_stalls := g1.2.2.1) (z0_buyers := g1.2.2.2.1) (z0_minute := g1.2.2.2.2.1) (z0_goods := g1.2.2.2.2.2.1) (z0_price := g1.2.2.2.2.2.2.1) (z0_tongue := g1.2.2.2.2.2.2.2.1) (z0_till := g1.2.2.2.2.2.2.2.2.1) (z0_wealth := g1.2.2.2.2.2.2.2.2.2.1) (z0_sold := g1.2.2.2.2.2.2.2.2.2.2.1) (z0_ring := g1.2.2.2.2.2.2.2.2.2.2.2.1) (z0_grudges := g1.2.2.2.2.2.2.2.2.2.2.2.2.1) (z0_purse := g1.2.2.2.2.2.2.2.2.2.2.2.2.2.1) (z0_came := g1.2.2.2.2.2.2.2.2.2.2.2.2.2.2.1) (z0_had := g1.2.2.2.2.2.2.2.2.2.2.2.2.2.2.2.1) (z0_seller := g1.2.2.2.2.2.2.2.2.2.2.2.2.2.2.2.2.1) (z0_praise := g1.2.2.2.2.2.2.2.2.2.2.2.2.2.2.2.2.2.1) (z0_borne := g1.2.2.2.2.2.2.2.2.2.2.2.2.2.2.2.2.2.2) h4) rfl rfl (Nat.le_of_ble_eq_true rfl) kFair_gon (List.mem_of_getElem? (i := 77) rfl) (by decide) (by decide) rfl rfl rfl rfl rfl rfl rfl dX3_fit_27 ?_
      refine r_pop dX3_fit_30 rfl ?_
      refine r_aload_n 1 dX3_fit_31 rfl ?_
      refine gFair_tillN 1 rfl (List.mem_of_getElem? (i := 29) rfl) dX3_fit_32 ?_
      refine r_aload_n 0 dX3_fit_35 rfl ?_
      refine gNotes_stalls 0 rfl (tb_in (i := 7) (j := 7) rfl rfl) dX3_fit_36 ?_
      refine r_iload_n 3 dX3_fit_39 rfl ?_
      obtain ⟨h5, h⟩ := rq_some h
      refine lNotes_stalls 0 rfl (inb_in h5) dX3_fit_40 ?_
      obtain ⟨h6, h⟩ := rq_some h
      refine lFair_till 1 rfl (inb_in h6) dX3_fit_41 ?_
      refine r_aload_n 0 dX3_fit_42 rfl ?_
      refine gNotes_tills 0 rfl (tb_in (i := 7) (j := 8) rfl rfl) dX3_fit_43 ?_
      refine r_iload_n 3 dX3_fit_46 rfl ?_
      obtain ⟨h7, h⟩ := rq_some h
      refine lNotes_tills 0 rfl (inb_in h7) dX3_fit_47 ?_
      refine r_icmp_eq 53 dX3_fit_48 (by decide) (fun c8 => ?_) (fun c8 => ?_)
      · replace h := it_pos c8 h
        refine r_iinc (y := (x3 + (1 : Int32))) (lv' := [(3, .int (x3 + (1 : Int32))), (0, .ref (a0 0)), (1, .ref (a1 0)), (2, .null)]) 3 dX3_fit_53 rfl rfl (Nat.le_of_ble_eq_true rfl) rfl ?_
        refine r_goto 2 dX3_fit_56 (by decide) ?_
        refine r_sub (lv' := [(0, .ref (a0 0)), (1, .ref (a1 0)), (2, .null), (3, .int (x3 + (1 : Int32)))]) [1, 2, 3, 0] rfl ?_
        exact ih (x3 + (1 : Int32)) (g1.1, g1.2.1, g1.2.2.1, g1.2.2.2.1, q4.2.1, q4.2.2.1, g1.2.2.2.2.2.2.1, g1.2.2.2.2.2.2.2.1, q4.2.2.2.1, q4.2.2.2.2.1, q4.2.2.2.2.2.1, g1.2.2.2.2.2.2.2.2.2.2.2.1, g1.2.2.2.2.2.2.2.2.2.2.2.2.1, q4.2.2.2.2.2.2.1, g1.2.2.2.2.2.2.2.2.2.2.2.2.2.2.1, q4.2.2.2.2.2.2.2, g1.2.2.2.2.2.2.2.2.2.2.2.2.2.2.2.2.1, g1.2.2.2.2.2.2.2.2.2.2.2.2.2.2.2.2.2.1, g1.2.2.2.2.2.2.2.2.2.2.2.2.2.2.2.2.2.2) h
      · replace h := it_neg c8 h
        refine r_iconst (x := (0 : Int32)) dX3_fit_51 (by decide) ?_
        have hq := Option.some.inj h
        subst hq
        exact r_zret (ty := .boolean) rfl rfl dX3_fit_52
def mNotes_fitrn (g0 : tyNotes) (g1 : tyFair) : Option (Int32 × tyFair) := mNotes_fitrn_l2 g0 FU (0 : Int32) g1
set_option maxHeartbeats 4000000 in
set_option maxRecDepth 20000 in
theorem cNotes_fitrn {q : Int32 × tyFair}  (h : mNotes_fitrn g0 g1 = some q) : rMet l D Z (ty7 K) MNotes_fitrn [.ref (a0 0), .ref (a1 0), .null] (List.flatten [bNotesG K a0 g0, bFairG K a1 g1]) (List.flatten [bNotesG K a0 g0, bFairG K a1 q.2]) (some (.int q.1)) := by
  refine rMet.of (by decide) rfl (Nat.le_of_ble_eq_true rfl) ?_
  refine r_sub (lv' := [(0, .ref (a0 0)), (1, .ref (a1 0)), (2, .null)]) [0, 1, 2] rfl ?_
  unfold mNotes_fitrn at h
  refine r_iconst (x := (0 : Int32)) dX3_fit_0 (by decide) ?_
  refine r_istore_n (lv' := [(3, .int (0 : Int32)), (0, .ref (a0 0)), (1, .ref (a1 0)), (2, .null)]) dX3_fit_1 (Nat.le_of_ble_eq_true rfl) rfl ?_
  refine r_sub (lv' := [(0, .ref (a0 0)), (1, .ref (a1 0)), (2, .null), (3, .int (0 : Int32))]) [1, 2, 3, 0] rfl ?_
  exact cNotes_fitrn_l2 (g0 := g0)  FU (0 : Int32) g1 h
end
theorem dX10_begin_0 : decode cX10_begin 0 = .ok (.aload_n 0, 1) := by decide +kernel
theorem dX10_begin_1 : decode cX10_begin 1 = .ok (.iconst 1, 1) := by decide +kernel
theorem dX10_begin_2 : decode cX10_begin 2 = .ok (.putfield 9, 3) := by decide +kernel
theorem dX10_begin_5 : decode cX10_begin 5 = .ok (.aload_n 0, 1) := by decide +kernel
theorem dX10_begin_6 : decode cX10_begin 6 = .ok (.getfield 25, 3) := by decide +kernel
theorem dX10_begin_9 : decode cX10_begin 9 = .ok (.aload_n 1, 1) := by decide +kernel
theorem dX10_begin_10 : decode cX10_begin 10 = .ok (.invokevirtual 39, 3) := by decide +kernel
theorem dX10_begin_13 : decode cX10_begin 13 = .ok (.aload_n 0, 1) := by decide +kernel
theorem dX10_begin_14 : decode cX10_begin 14 = .ok (.getfield 29, 3) := by decide +kernel
theorem dX10_begin_17 : decode cX10_begin 17 = .ok (.aload_n 1, 1) := by decide +kernel
theorem dX10_begin_18 : decode cX10_begin 18 = .ok (.invokevirtual 39, 3) := by decide +kernel
theorem dX10_begin_21 : decode cX10_begin 21 = .ok (.aload_n 0, 1) := by decide +kernel
theorem dX10_begin_22 : decode cX10_begin 22 = .ok (.getfield 35, 3) := by decide +kernel
theorem dX10_begin_25 : decode cX10_begin 25 = .ok (.iconst 0, 1) := by decide +kernel
theorem dX10_begin_26 : decode cX10_begin 26 = .ok (.putfield 43, 3) := by decide +kernel
theorem dX10_begin_29 : decode cX10_begin 29 = .ok (.return_, 1) := by decide +kernel
abbrev MWorld_begin : rx_M := (RX10, yX10_begin, cX10_begin, 2, none, 5)
theorem kWorld_begin : rKv MWorld_begin 1 := ⟨tb_in (i := 13) (j := 21) rfl rfl, tb_in (i := 13) (j := 22) rfl rfl, tb_in (i := 12) (j := 25) rfl rfl, tb_in (i := 12) (j := 8) rfl rfl, ⟨by decide, by decide, by decide +kernel⟩, by decide⟩
section
variable {a0 : Nat → Nat → Nat} {a1 : Nat → Nat} {g0 : tyWorld} {g1 : tyFair} {g2 : tyFair} {g3 : tyNotes} {g4 : tyFair}
def mWorld_begin (g0 : tyWorld) (g1 : tyFair) (g2 : tyFair) (g3 : tyNotes) (g4 : tyFair) : Option (tyWorld × tyFair × tyFair × tyNotes) := (mFair_copyFrom g1.1 g1.2.1 g1.2.2.1 g1.2.2.2.1 g1.2.2.2.2.1 g1.2.2.2.2.2.1 g1.2.2.2.2.2.2.1 g1.2.2.2.2.2.2.2.1 g1.2.2.2.2.2.2.2.2.1 g1.2.2.2.2.2.2.2.2.2.1 g1.2.2.2.2.2.2.2.2.2.2.1 g1.2.2.2.2.2.2.2.2.2.2.2.1 g1.2.2.2.2.2.2.2.2.2.2.2.2.1 g1.2.2.2.2.2.2.2.2.2.2.2.2.2.1 g1.2.2.2.2.2.2.2.2.2.2.2.2.2.2.1 g1.2.2.2.2.2.2.2.2.2.2.2.2.2.2.2.1 g1.2.2.2.2.2.2.2.2.2.2.2.2.2.2.2.2.1 g1.2.2.2.2.2.2.2.2.2.2.2.2.2.2.2.2.2.1 g1.2.2.2.2.2.2.2.2.2.2.2.2.2.2.2.2.2.2 g4.1 g4.2.1 g4.2.2.1 g4.2.2.2.1 g4.2.2.2.2.1 g4.2.2.2.2.2.1 g4.2.2.2.2.2.2.1 g4.2.2.2.2.2.2.2.1 g4.2.2.2.2.2.2.2.2.1 g4.2.2.2.2.2.2.2.2.2.1 g4.2.2.2.2.2.2.2.2.2.2.1 g4.2.2.2.2.2.2.2.2.2.2.2.1 g4.2.2.2.2.2.2.2.2.2.2.2.2.1 g4.2.2.2.2.2.2.2.2.2.2.2.2.2.1 g4.2.2.2.2.2.2.2.2.2.2.2.2.2.2.1 g4.2.2.2.2.2.2.2.2.2.2.2.2.2.2.2.1 g4.2.2.2.2.2.2.2.2.2.2.2.2.2.2.2.2.1 g4.2.2.2.2.2.2.2.2.2.2.2.2.2.2.2.2.2.1 g4.2.2.2.2.2.2.2.2.2.2.2.2.2.2.2.2.2.2).bind (fun q1 => (mFair_copyFrom g2.1 g2.2.1 g2.2.2.1 g2.2.2.2.1 g2.2.2.2.2.1 g2.2.2.2.2.2.1 g2.2.2.2.2.2.2.1 g2.2.2.2.2.2.2.2.1 g2.2.2.2.2.2.2.2.2.1 g2.2.2.2.2.2.2.2.2.2.1 g2.2.2.2.2.2.2.2.2.2.2.1 g2.2.2.2.2.2.2.2.2.2.2.2.1 g2.2.2.2.2.2.2.2.2.2.2.2.2.1 g2.2.2.2.2.2.2.2.2.2.2.2.2.2.1 g2.2.2.2.2.2.2.2.2.2.2.2.2.2.2.1 g2.2.2.2.2.2.2.2.2.2.2.2.2.2.2.2.1 g2.2.2.2.2.2.2.2.2.2.2.2.2.2.2.2.2.1 g2.2.2.2.2.2.2.2.2.2.2.2.2.2.2.2.2.2.1 g2.2.2.2.2.2.2.2.2.2.2.2.2.2.2.2.2.2.2 g4.1 g4.2.1 g4.2.2.1 g4.2.2.2.1 g4.2.2.2.2.1 g4.2.2.2.2.2.1 g4.2.2.2.2.2.2.1 g4.2.2.2.2.2.2.2.1 g4.2.2.2.2.2.2.2.2.1 g4.2.2.2.2.2.2.2.2.2.1 g4.2.2.2.2.2.2.2.2.2.2.1 g4.2.2.2.2.2.2.2.2.2.2.2.1 g4.2.2.2.2.2.2.2.2.2.2.2.2.1 g4.2.2.2.2.2.2.2.2.2.2.2.2.2.1 g4.2.2.2.2.2.2.2.2.2.2.2.2.2.2.1 g4.2.2.2.2.2.2.2.2.2.2.2.2.2.2.2.1 g4.2.2.2.2.2.2.2.2.2.2.2.2.2.2.2.2.1 g4.2.2.2.2.2.2.2.2.2.2.2.2.2.2.2.2.2.1 g4.2.2.2.2.2.2.2.2.2.2.2.2.2.2.2.2.2.2).bind (fun q2 => some (((1 : Int32), g0.2.1, g0.2.2), q1, q2, (g3.1, g3.2.1, g3.2.2.1, (0 : Int32)))))
set_option maxHeartbeats 4000000 in
set_option maxRecDepth 20000 in
theorem cWorld_begin {q : tyWorld × tyFair × tyFair × tyNotes}  (h : mWorld_begin g0 g1 g2 g3 g4 = some q) : rMet l D Z (ty7 K) MWorld_begin [.ref ((a0 0) 0), .ref (a1 0)] (List.flatten [bWorldG K (a0 0) ((a0 1) 0) ((a0 2) 0) ((a0 3) 0) g0, bFairG K (a0 1) g1, bFairG K (a0 2) g2, bNotesG K (a0 3) g3, bFairG K a1 g4]) (List.flatten [bWorldG K (a0 0) ((a0 1) 0) ((a0 2) 0) ((a0 3) 0) q.1, bFairG K (a0 1) q.2.1, bFairG K (a0 2) q.2.2.1, bNotesG K (a0 3) q.2.2.2, bFairG K a1 g4]) none := by
  refine rMet.of (by decide) rfl (Nat.le_of_ble_eq_true rfl) ?_
  refine r_sub (lv' := [(0, .ref ((a0 0) 0)), (1, .ref (a1 0))]) [0, 1] rfl ?_
  unfold mWorld_begin at h
  refine r_aload_n 0 dX10_begin_0 rfl ?_
  refine r_iconst (x := (1 : Int32)) dX10_begin_1 (by decide) ?_
  refine pWorld_open (bs1 := [bWorld K (a0 0) ((a0 1) 0) ((a0 2) 0) ((a0 3) 0) (1 : Int32) g0.2.1 g0.2.2, bFairG K (a0 1) g1, bFairG K (a0 2) g2, bNotesG K (a0 3) g3, bFairG K a1 g4]) 0 rfl rfl rfl rfl (tb_in (i := 11) (j := 29) rfl rfl) dX10_begin_2 ?_
  refine r_aload_n 0 dX10_begin_5 rfl ?_
  refine gWorld_told 0 rfl (tb_in (i := 12) (j := 1) rfl rfl) dX10_begin_6 ?_
  refine r_aload_n 1 dX10_begin_9 rfl ?_
  obtain ⟨q1, h1, h⟩ := bd_some h
  refine b_callVN (isC := [1, 4]) (ci := 1)  (st := []) (bs1 := [bWorld K (a0 0) ((a0 1) 0) ((a0 2) 0) ((a0 3) 0) (1 : Int32) g0.2.1 g0.2.2, bFairG K (a0 1) q1, bFairG K (a0 2) g2, bNotesG K (a0 3) g3, bFairG K a1 g4]) (cFair_copyFrom (a0 := (a0 1)) (a1 := a1) (z0_lasts := g1.1) (z0_keeps := g1.2.1) (z0_stalls := g1.2.2.1) (z0_buyers := g1.2.2.2.1) (z0_minute := g1.2.2.2.2.1) (z0_goods := g1.2.2.2.2.2.1) (z0_price := g1.2.2.2.2.2.2.1) (z0_tongue := g1.2.2.2.2.2.2.2.1) (z0_till := g1.2.2.2.2.2.2.2.2.1) (z0_wealth := g1.2.2.2.2.2.2.2.2.2.1) (z0_sold := g1.2.2.2.2.2.2.2.2.2.2.1) (z0_ring := g1.2.2.2.2.2.2.2.2.2.2.2.1) (z0_grudges := g1.2.2.2.2.2.2.2.2.2.2.2.2.1) (z0_purse := g1.2.2.2.2.2.2.2.2.2.2.2.2.2.1) (z0_came := g1.2.2.2.2.2.2.2.2.2.2.2.2.2.2.1) (z0_had := g1.2.2.2.2.2.2.2.2.2.2.2.2.2.2.2.1) (z0_seller := g1.2.2.2.2.2.2.2.2.2.2.2.2.2.2.2.2.1) (z0_praise := g1.2.2.2.2.2.2.2.2.2.2.2.2.2.2.2.2.2.1) (z0_borne := g1.2.2.2.2.2.2.2.2.2.2.2.2.2.2.2.2.2.2) (z1_lasts := g4.1) (z1_keeps := g4.2.1) (z1_stalls := g4.2.2.1) (z1_buyers := g4.2.2.2.1) (z1_minute := g4.2.2.2.2.1) (z1_goods := g4.2.2.2.2.2.1) (z1_price := g4.2.2.2.2.2.2.1) (z1_tongue := g4.2.2.2.2.2.2.2.1) (z1_till := g4.2.2.2.2.2.2.2.2.1) (z1_wealth := g4.2.2.2.2.2.2.2.2.2.1) (z1_sold := g4.2.2.2.2.2.2.2.2.2.2.1) (z1_ring := g4.2.2.2.2.2.2.2.2.2.2.2.1) (z1_grudges := g4.2.2.2.2.2.2.2.2.2.2.2.2.1) (z1_purse := g4.2.2.2.2.2.2.2.2.2.2.2.2.2.1) (z1_came := g4.2.2.2.2.2.2.2.2.2.2.2.2.2.2.1) (z1_had := g4.2.2.2.2.2.2.2.2.2.2.2.2.2.2.2.1) (z1_seller := g4.2.2.2.2.2.2.2.2.2.2.2.2.2.2.2.2.1) (z1_praise := g4.2.2.2.2.2.2.2.2.2.2.2.2.2.2.2.2.2.1) (z1_borne := g4.2.2.2.2.2.2.2.2.2.2.2.2.2.2.2.2.2.2) h1) rfl rfl (Nat.le_of_ble_eq_true rfl) kFair_copyFrom (List.mem_of_getElem? (i := 29) rfl) (by decide) (by decide) rfl rfl rfl rfl rfl rfl rfl dX10_begin_10 ?_
  refine r_aload_n 0 dX10_begin_13 rfl ?_
  refine gWorld_now 0 rfl (tb_in (i := 12) (j := 2) rfl rfl) dX10_begin_14 ?_
  refine r_aload_n 1 dX10_begin_17 rfl ?_
  obtain ⟨q2, h2, h⟩ := bd_some h
  refine b_callVN (isC := [2, 4]) (ci := 1)  (st := []) (bs1 := [bWorld K (a0 0) ((a0 1) 0) ((a0 2) 0) ((a0 3) 0) (1 : Int32) g0.2.1 g0.2.2, bFairG K (a0 1) q1, bFairG K (a0 2) q2, bNotesG K (a0 3) g3, bFairG K a1 g4]) (cFair_copyFrom (a0 := (a0 2)) (a1 := a1) (z0_lasts := g2.1) (z0_keeps := g2.2.1) (z0_stalls := g2.2.2.1) (z0_buyers := g2.2.2.2.1) (z0_minute := g2.2.2.2.2.1) (z0_goods := g2.2.2.2.2.2.1) (z0_price := g2.2.2.2.2.2.2.1) (z0_tongue := g2.2.2.2.2.2.2.2.1) (z0_till := g2.2.2.2.2.2.2.2.2.1) (z0_wealth := g2.2.2.2.2.2.2.2.2.2.1) (z0_sold := g2.2.2.2.2.2.2.2.2.2.2.1) (z0_ring := g2.2.2.2.2.2.2.2.2.2.2.2.1) (z0_grudges := g2.2.2.2.2.2.2.2.2.2.2.2.2.1) (z0_purse := g2.2.2.2.2.2.2.2.2.2.2.2.2.2.1) (z0_came := g2.2.2.2.2.2.2.2.2.2.2.2.2.2.2.1) (z0_had := g2.2.2.2.2.2.2.2.2.2.2.2.2.2.2.2.1) (z0_seller := g2.2.2.2.2.2.2.2.2.2.2.2.2.2.2.2.2.1) (z0_praise := g2.2.2.2.2.2.2.2.2.2.2.2.2.2.2.2.2.2.1) (z0_borne := g2.2.2.2.2.2.2.2.2.2.2.2.2.2.2.2.2.2.2) (z1_lasts := g4.1) (z1_keeps := g4.2.1) (z1_stalls := g4.2.2.1) (z1_buyers := g4.2.2.2.1) (z1_minute := g4.2.2.2.2.1) (z1_goods := g4.2.2.2.2.2.1) (z1_price := g4.2.2.2.2.2.2.1) (z1_tongue := g4.2.2.2.2.2.2.2.1) (z1_till := g4.2.2.2.2.2.2.2.2.1) (z1_wealth := g4.2.2.2.2.2.2.2.2.2.1) (z1_sold := g4.2.2.2.2.2.2.2.2.2.2.1) (z1_ring := g4.2.2.2.2.2.2.2.2.2.2.2.1) (z1_grudges := g4.2.2.2.2.2.2.2.2.2.2.2.2.1) (z1_purse := g4.2.2.2.2.2.2.2.2.2.2.2.2.2.1) (z1_came := g4.2.2.2.2.2.2.2.2.2.2.2.2.2.2.1) (z1_had := g4.2.2.2.2.2.2.2.2.2.2.2.2.2.2.2.1) (z1_seller := g4.2.2.2.2.2.2.2.2.2.2.2.2.2.2.2.2.1) (z1_praise := g4.2.2.2.2.2.2.2.2.2.2.2.2.2.2.2.2.2.1) (z1_borne := g4.2.2.2.2.2.2.2.2.2.2.2.2.2.2.2.2.2.2) h2) rfl rfl (Nat.le_of_ble_eq_true rfl) kFair_copyFrom (List.mem_of_getElem? (i := 29) rfl) (by decide) (by decide) rfl rfl rfl rfl rfl rfl rfl dX10_begin_18 ?_
  refine r_aload_n 0 dX10_begin_21 rfl ?_
  refine gWorld_notes 0 rfl (tb_in (i := 12) (j := 5) rfl rfl) dX10_begin_22 ?_
  refine r_iconst (x := (0 : Int32)) dX10_begin_25 (by decide) ?_
  refine pNotes_sizeN (bs1 := [bWorld K (a0 0) ((a0 1) 0) ((a0 2) 0) ((a0 3) 0) (1 : Int32) g0.2.1 g0.2.2, bFairG K (a0 1) q1, bFairG K (a0 2) q2, bNotes K (a0 3) g3.1 g3.2.1 g3.2.2.1 (0 : Int32), bFairG K a1 g4]) 3 rfl rfl (List.mem_of_getElem? (i := 48) rfl) dX10_begin_26 ?_
  have hq := Option.some.inj h
  subst hq
  exact r_vret rfl dX10_begin_29
end
theorem dX10_copyFrom_0 : decode cX10_copyFrom 0 = .ok (.aload_n 0, 1) := by decide +kernel
theorem dX10_copyFrom_1 : decode cX10_copyFrom 1 = .ok (.aload_n 1, 1) := by decide +kernel
theorem dX10_copyFrom_2 : decode cX10_copyFrom 2 = .ok (.getfield 9, 3) := by decide +kernel
theorem dX10_copyFrom_5 : decode cX10_copyFrom 5 = .ok (.putfield 9, 3) := by decide +kernel
theorem dX10_copyFrom_8 : decode cX10_copyFrom 8 = .ok (.aload_n 0, 1) := by decide +kernel
theorem dX10_copyFrom_9 : decode cX10_copyFrom 9 = .ok (.aload_n 1, 1) := by decide +kernel
theorem dX10_copyFrom_10 : decode cX10_copyFrom 10 = .ok (.getfield 15, 3) := by decide +kernel
theorem dX10_copyFrom_13 : decode cX10_copyFrom 13 = .ok (.putfield 15, 3) := by decide +kernel
theorem dX10_copyFrom_16 : decode cX10_copyFrom 16 = .ok (.aload_n 0, 1) := by decide +kernel
theorem dX10_copyFrom_17 : decode cX10_copyFrom 17 = .ok (.aload_n 1, 1) := by decide +kernel
theorem dX10_copyFrom_18 : decode cX10_copyFrom 18 = .ok (.getfield 19, 3) := by decide +kernel
theorem dX10_copyFrom_21 : decode cX10_copyFrom 21 = .ok (.putfield 19, 3) := by decide +kernel
theorem dX10_copyFrom_24 : decode cX10_copyFrom 24 = .ok (.aload_n 0, 1) := by decide +kernel
theorem dX10_copyFrom_25 : decode cX10_copyFrom 25 = .ok (.getfield 25, 3) := by decide +kernel
theorem dX10_copyFrom_28 : decode cX10_copyFrom 28 = .ok (.aload_n 1, 1) := by decide +kernel
theorem dX10_copyFrom_29 : decode cX10_copyFrom 29 = .ok (.getfield 25, 3) := by decide +kernel
theorem dX10_copyFrom_32 : decode cX10_copyFrom 32 = .ok (.invokevirtual 39, 3) := by decide +kernel
theorem dX10_copyFrom_35 : decode cX10_copyFrom 35 = .ok (.aload_n 0, 1) := by decide +kernel
theorem dX10_copyFrom_36 : decode cX10_copyFrom 36 = .ok (.getfield 29, 3) := by decide +kernel
theorem dX10_copyFrom_39 : decode cX10_copyFrom 39 = .ok (.aload_n 1, 1) := by decide +kernel
theorem dX10_copyFrom_40 : decode cX10_copyFrom 40 = .ok (.getfield 29, 3) := by decide +kernel
theorem dX10_copyFrom_43 : decode cX10_copyFrom 43 = .ok (.invokevirtual 39, 3) := by decide +kernel
theorem dX10_copyFrom_46 : decode cX10_copyFrom 46 = .ok (.aload_n 0, 1) := by decide +kernel
theorem dX10_copyFrom_47 : decode cX10_copyFrom 47 = .ok (.getfield 35, 3) := by decide +kernel
theorem dX10_copyFrom_50 : decode cX10_copyFrom 50 = .ok (.aload_n 1, 1) := by decide +kernel
theorem dX10_copyFrom_51 : decode cX10_copyFrom 51 = .ok (.getfield 35, 3) := by decide +kernel
theorem dX10_copyFrom_54 : decode cX10_copyFrom 54 = .ok (.invokevirtual 46, 3) := by decide +kernel
theorem dX10_copyFrom_57 : decode cX10_copyFrom 57 = .ok (.return_, 1) := by decide +kernel
abbrev MWorld_copyFrom : rx_M := (RX10, yX10_copyFrom, cX10_copyFrom, 2, none, 5)
theorem kWorld_copyFrom : rKv MWorld_copyFrom 1 := ⟨tb_in (i := 16) (j := 15) rfl rfl, tb_in (i := 16) (j := 16) rfl rfl, tb_in (i := 12) (j := 25) rfl rfl, tb_in (i := 12) (j := 11) rfl rfl, ⟨by decide, by decide, by decide +kernel⟩, by decide⟩
section
variable {a0 : Nat → Nat → Nat} {a1 : Nat → Nat → Nat} {g0 : tyWorld} {g1 : tyFair} {g2 : tyFair} {g3 : tyNotes} {g4 : tyWorld} {g5 : tyFair} {g6 : tyFair} {g7 : tyNotes}
def mWorld_copyFrom (g0 : tyWorld) (g1 : tyFair) (g2 : tyFair) (g3 : tyNotes) (g4 : tyWorld) (g5 : tyFair) (g6 : tyFair) (g7 : tyNotes) : Option (tyWorld × tyFair × tyFair × tyNotes) := rq (bo g4.1) ((mFair_copyFrom g1.1 g1.2.1 g1.2.2.1 g1.2.2.2.1 g1.2.2.2.2.1 g1.2.2.2.2.2.1 g1.2.2.2.2.2.2.1 g1.2.2.2.2.2.2.2.1 g1.2.2.2.2.2.2.2.2.1 g1.2.2.2.2.2.2.2.2.2.1 g1.2.2.2.2.2.2.2.2.2.2.1 g1.2.2.2.2.2.2.2.2.2.2.2.1 g1.2.2.2.2.2.2.2.2.2.2.2.2.1 g1.2.2.2.2.2.2.2.2.2.2.2.2.2.1 g1.2.2.2.2.2.2.2.2.2.2.2.2.2.2.1 g1.2.2.2.2.2.2.2.2.2.2.2.2.2.2.2.1 g1.2.2.2.2.2.2.2.2.2.2.2.2.2.2.2.2.1 g1.2.2.2.2.2.2.2.2.2.2.2.2.2.2.2.2.2.1 g1.2.2.2.2.2.2.2.2.2.2.2.2.2.2.2.2.2.2 g5.1 g5.2.1 g5.2.2.1 g5.2.2.2.1 g5.2.2.2.2.1 g5.2.2.2.2.2.1 g5.2.2.2.2.2.2.1 g5.2.2.2.2.2.2.2.1 g5.2.2.2.2.2.2.2.2.1 g5.2.2.2.2.2.2.2.2.2.1 g5.2.2.2.2.2.2.2.2.2.2.1 g5.2.2.2.2.2.2.2.2.2.2.2.1 g5.2.2.2.2.2.2.2.2.2.2.2.2.1 g5.2.2.2.2.2.2.2.2.2.2.2.2.2.1 g5.2.2.2.2.2.2.2.2.2.2.2.2.2.2.1 g5.2.2.2.2.2.2.2.2.2.2.2.2.2.2.2.1 g5.2.2.2.2.2.2.2.2.2.2.2.2.2.2.2.2.1 g5.2.2.2.2.2.2.2.2.2.2.2.2.2.2.2.2.2.1 g5.2.2.2.2.2.2.2.2.2.2.2.2.2.2.2.2.2.2).bind (fun q2 => (mFair_copyFrom g2.1 g2.2.1 g2.2.2.1 g2.2.2.2.1 g2.2.2.2.2.1 g2.2.2.2.2.2.1 g2.2.2.2.2.2.2.1 g2.2.2.2.2.2.2.2.1 g2.2.2.2.2.2.2.2.2.1 g2.2.2.2.2.2.2.2.2.2.1 g2.2.2.2.2.2.2.2.2.2.2.1 g2.2.2.2.2.2.2.2.2.2.2.2.1 g2.2.2.2.2.2.2.2.2.2.2.2.2.1 g2.2.2.2.2.2.2.2.2.2.2.2.2.2.1 g2.2.2.2.2.2.2.2.2.2.2.2.2.2.2.1 g2.2.2.2.2.2.2.2.2.2.2.2.2.2.2.2.1 g2.2.2.2.2.2.2.2.2.2.2.2.2.2.2.2.2.1 g2.2.2.2.2.2.2.2.2.2.2.2.2.2.2.2.2.2.1 g2.2.2.2.2.2.2.2.2.2.2.2.2.2.2.2.2.2.2 g6.1 g6.2.1 g6.2.2.1 g6.2.2.2.1 g6.2.2.2.2.1 g6.2.2.2.2.2.1 g6.2.2.2.2.2.2.1 g6.2.2.2.2.2.2.2.1 g6.2.2.2.2.2.2.2.2.1 g6.2.2.2.2.2.2.2.2.2.1 g6.2.2.2.2.2.2.2.2.2.2.1 g6.2.2.2.2.2.2.2.2.2.2.2.1 g6.2.2.2.2.2.2.2.2.2.2.2.2.1 g6.2.2.2.2.2.2.2.2.2.2.2.2.2.1 g6.2.2.2.2.2.2.2.2.2.2.2.2.2.2.1 g6.2.2.2.2.2.2.2.2.2.2.2.2.2.2.2.1 g6.2.2.2.2.2.2.2.2.2.2.2.2.2.2.2.2.1 g6.2.2.2.2.2.2.2.2.2.2.2.2.2.2.2.2.2.1 g6.2.2.2.2.2.2.2.2.2.2.2.2.2.2.2.2.2.2).bind (fun q3 => (mNotes_copyFrom g3 g7).bind (fun q4 => some (g4, q2, q3, q4)))))
set_option maxHeartbeats 4000000 in
set_option maxRecDepth 20000 in
theorem cWorld_copyFrom {q : tyWorld × tyFair × tyFair × tyNotes}  (h : mWorld_copyFrom g0 g1 g2 g3 g4 g5 g6 g7 = some q) : rMet l D Z (ty7 K) MWorld_copyFrom [.ref ((a0 0) 0), .ref ((a1 0) 0)] (List.flatten [bWorldG K (a0 0) ((a0 1) 0) ((a0 2) 0) ((a0 3) 0) g0, bFairG K (a0 1) g1, bFairG K (a0 2) g2, bNotesG K (a0 3) g3, bWorldG K (a1 0) ((a1 1) 0) ((a1 2) 0) ((a1 3) 0) g4, bFairG K (a1 1) g5, bFairG K (a1 2) g6, bNotesG K (a1 3) g7]) (List.flatten [bWorldG K (a0 0) ((a0 1) 0) ((a0 2) 0) ((a0 3) 0) q.1, bFairG K (a0 1) q.2.1, bFairG K (a0 2) q.2.2.1, bNotesG K (a0 3) q.2.2.2, bWorldG K (a1 0) ((a1 1) 0) ((a1 2) 0) ((a1 3) 0) g4, bFairG K (a1 1) g5, bFairG K (a1 2) g6, bNotesG K (a1 3) g7]) none := by
  refine rMet.of (by decide) rfl (Nat.le_of_ble_eq_true rfl) ?_
  refine r_sub (lv' := [(0, .ref ((a0 0) 0)), (1, .ref ((a1 0) 0))]) [0, 1] rfl ?_
  unfold mWorld_copyFrom at h
  refine r_aload_n 0 dX10_copyFrom_0 rfl ?_
  refine r_aload_n 1 dX10_copyFrom_1 rfl ?_
  refine gWorld_open 4 rfl (tb_in (i := 11) (j := 29) rfl rfl) dX10_copyFrom_2 ?_
  obtain ⟨h1, h⟩ := rq_some h
  refine pWorld_open (bs1 := [bWorld K (a0 0) ((a0 1) 0) ((a0 2) 0) ((a0 3) 0) g4.1 g0.2.1 g0.2.2, bFairG K (a0 1) g1, bFairG K (a0 2) g2, bNotesG K (a0 3) g3, bWorldG K (a1 0) ((a1 1) 0) ((a1 2) 0) ((a1 3) 0) g4, bFairG K (a1 1) g5, bFairG K (a1 2) g6, bNotesG K (a1 3) g7]) 0 (bo_nar h1) (bo_fit h1) rfl rfl (tb_in (i := 11) (j := 29) rfl rfl) dX10_copyFrom_5 ?_
  refine r_aload_n 0 dX10_copyFrom_8 rfl ?_
  refine r_aload_n 1 dX10_copyFrom_9 rfl ?_
  refine gWorld_inForce 4 rfl (tb_in (i := 11) (j := 30) rfl rfl) dX10_copyFrom_10 ?_
  refine pWorld_inForce (bs1 := [bWorld K (a0 0) ((a0 1) 0) ((a0 2) 0) ((a0 3) 0) g4.1 g4.2.1 g0.2.2, bFairG K (a0 1) g1, bFairG K (a0 2) g2, bNotesG K (a0 3) g3, bWorldG K (a1 0) ((a1 1) 0) ((a1 2) 0) ((a1 3) 0) g4, bFairG K (a1 1) g5, bFairG K (a1 2) g6, bNotesG K (a1 3) g7]) 0 rfl rfl (tb_in (i := 11) (j := 30) rfl rfl) dX10_copyFrom_13 ?_
  refine r_aload_n 0 dX10_copyFrom_16 rfl ?_
  refine r_aload_n 1 dX10_copyFrom_17 rfl ?_
  refine gWorld_x 4 rfl (tb_in (i := 11) (j := 31) rfl rfl) dX10_copyFrom_18 ?_
  refine pWorld_x (bs1 := [bWorldG K (a0 0) ((a0 1) 0) ((a0 2) 0) ((a0 3) 0) g4, bFairG K (a0 1) g1, bFairG K (a0 2) g2, bNotesG K (a0 3) g3, bWorldG K (a1 0) ((a1 1) 0) ((a1 2) 0) ((a1 3) 0) g4, bFairG K (a1 1) g5, bFairG K (a1 2) g6, bNotesG K (a1 3) g7]) 0 rfl rfl (tb_in (i := 11) (j := 31) rfl rfl) dX10_copyFrom_21 ?_
  refine r_aload_n 0 dX10_copyFrom_24 rfl ?_
  refine gWorld_told 0 rfl (tb_in (i := 12) (j := 1) rfl rfl) dX10_copyFrom_25 ?_
  refine r_aload_n 1 dX10_copyFrom_28 rfl ?_
  refine gWorld_told 4 rfl (tb_in (i := 12) (j := 1) rfl rfl) dX10_copyFrom_29 ?_
  obtain ⟨q2, h2, h⟩ := bd_some h
  refine b_callVN (isC := [1, 5]) (ci := 1)  (st := []) (bs1 := [bWorldG K (a0 0) ((a0 1) 0) ((a0 2) 0) ((a0 3) 0) g4, bFairG K (a0 1) q2, bFairG K (a0 2) g2, bNotesG K (a0 3) g3, bWorldG K (a1 0) ((a1 1) 0) ((a1 2) 0) ((a1 3) 0) g4, bFairG K (a1 1) g5, bFairG K (a1 2) g6, bNotesG K (a1 3) g7]) (cFair_copyFrom (a0 := (a0 1)) (a1 := (a1 1)) (z0_lasts := g1.1) (z0_keeps := g1.2.1) (z0_stalls := g1.2.2.1) (z0_buyers := g1.2.2.2.1) (z0_minute := g1.2.2.2.2.1) (z0_goods := g1.2.2.2.2.2.1) (z0_price := g1.2.2.2.2.2.2.1) (z0_tongue := g1.2.2.2.2.2.2.2.1) (z0_till := g1.2.2.2.2.2.2.2.2.1) (z0_wealth := g1.2.2.2.2.2.2.2.2.2.1) (z0_sold := g1.2.2.2.2.2.2.2.2.2.2.1) (z0_ring := g1.2.2.2.2.2.2.2.2.2.2.2.1) (z0_grudges := g1.2.2.2.2.2.2.2.2.2.2.2.2.1) (z0_purse := g1.2.2.2.2.2.2.2.2.2.2.2.2.2.1) (z0_came := g1.2.2.2.2.2.2.2.2.2.2.2.2.2.2.1) (z0_had := g1.2.2.2.2.2.2.2.2.2.2.2.2.2.2.2.1) (z0_seller := g1.2.2.2.2.2.2.2.2.2.2.2.2.2.2.2.2.1) (z0_praise := g1.2.2.2.2.2.2.2.2.2.2.2.2.2.2.2.2.2.1) (z0_borne := g1.2.2.2.2.2.2.2.2.2.2.2.2.2.2.2.2.2.2) (z1_lasts := g5.1) (z1_keeps := g5.2.1) (z1_stalls := g5.2.2.1) (z1_buyers := g5.2.2.2.1) (z1_minute := g5.2.2.2.2.1) (z1_goods := g5.2.2.2.2.2.1) (z1_price := g5.2.2.2.2.2.2.1) (z1_tongue := g5.2.2.2.2.2.2.2.1) (z1_till := g5.2.2.2.2.2.2.2.2.1) (z1_wealth := g5.2.2.2.2.2.2.2.2.2.1) (z1_sold := g5.2.2.2.2.2.2.2.2.2.2.1) (z1_ring := g5.2.2.2.2.2.2.2.2.2.2.2.1) (z1_grudges := g5.2.2.2.2.2.2.2.2.2.2.2.2.1) (z1_purse := g5.2.2.2.2.2.2.2.2.2.2.2.2.2.1) (z1_came := g5.2.2.2.2.2.2.2.2.2.2.2.2.2.2.1) (z1_had := g5.2.2.2.2.2.2.2.2.2.2.2.2.2.2.2.1) (z1_seller := g5.2.2.2.2.2.2.2.2.2.2.2.2.2.2.2.2.1) (z1_praise := g5.2.2.2.2.2.2.2.2.2.2.2.2.2.2.2.2.2.1) (z1_borne := g5.2.2.2.2.2.2.2.2.2.2.2.2.2.2.2.2.2.2) h2) rfl rfl (Nat.le_of_ble_eq_true rfl) kFair_copyFrom (List.mem_of_getElem? (i := 29) rfl) (by decide) (by decide) rfl rfl rfl rfl rfl rfl rfl dX10_copyFrom_32 ?_
  refine r_aload_n 0 dX10_copyFrom_35 rfl ?_
  refine gWorld_now 0 rfl (tb_in (i := 12) (j := 2) rfl rfl) dX10_copyFrom_36 ?_
  refine r_aload_n 1 dX10_copyFrom_39 rfl ?_
  refine gWorld_now 4 rfl (tb_in (i := 12) (j := 2) rfl rfl) dX10_copyFrom_40 ?_
  obtain ⟨q3, h3, h⟩ := bd_some h
  refine b_callVN (isC := [2, 6]) (ci := 1)  (st := []) (bs1 := [bWorldG K (a0 0) ((a0 1) 0) ((a0 2) 0) ((a0 3) 0) g4, bFairG K (a0 1) q2, bFairG K (a0 2) q3, bNotesG K (a0 3) g3, bWorldG K (a1 0) ((a1 1) 0) ((a1 2) 0) ((a1 3) 0) g4, bFairG K (a1 1) g5, bFairG K (a1 2) g6, bNotesG K (a1 3) g7]) (cFair_copyFrom (a0 := (a0 2)) (a1 := (a1 2)) (z0_lasts := g2.1) (z0_keeps := g2.2.1) (z0_stalls := g2.2.2.1) (z0_buyers := g2.2.2.2.1) (z0_minute := g2.2.2.2.2.1) (z0_goods := g2.2.2.2.2.2.1) (z0_price := g2.2.2.2.2.2.2.1) (z0_tongue := g2.2.2.2.2.2.2.2.1) (z0_till := g2.2.2.2.2.2.2.2.2.1) (z0_wealth := g2.2.2.2.2.2.2.2.2.2.1) (z0_sold := g2.2.2.2.2.2.2.2.2.2.2.1) (z0_ring := g2.2.2.2.2.2.2.2.2.2.2.2.1) (z0_grudges := g2.2.2.2.2.2.2.2.2.2.2.2.2.1) (z0_purse := g2.2.2.2.2.2.2.2.2.2.2.2.2.2.1) (z0_came := g2.2.2.2.2.2.2.2.2.2.2.2.2.2.2.1) (z0_had := g2.2.2.2.2.2.2.2.2.2.2.2.2.2.2.2.1) (z0_seller := g2.2.2.2.2.2.2.2.2.2.2.2.2.2.2.2.2.1) (z0_praise := g2.2.2.2.2.2.2.2.2.2.2.2.2.2.2.2.2.2.1) (z0_borne := g2.2.2.2.2.2.2.2.2.2.2.2.2.2.2.2.2.2.2) (z1_lasts := g6.1) (z1_keeps := g6.2.1) (z1_stalls := g6.2.2.1) (z1_buyers := g6.2.2.2.1) (z1_minute := g6.2.2.2.2.1) (z1_goods := g6.2.2.2.2.2.1) (z1_price := g6.2.2.2.2.2.2.1) (z1_tongue := g6.2.2.2.2.2.2.2.1) (z1_till := g6.2.2.2.2.2.2.2.2.1) (z1_wealth := g6.2.2.2.2.2.2.2.2.2.1) (z1_sold := g6.2.2.2.2.2.2.2.2.2.2.1) (z1_ring := g6.2.2.2.2.2.2.2.2.2.2.2.1) (z1_grudges := g6.2.2.2.2.2.2.2.2.2.2.2.2.1) (z1_purse := g6.2.2.2.2.2.2.2.2.2.2.2.2.2.1) (z1_came := g6.2.2.2.2.2.2.2.2.2.2.2.2.2.2.1) (z1_had := g6.2.2.2.2.2.2.2.2.2.2.2.2.2.2.2.1) (z1_seller := g6.2.2.2.2.2.2.2.2.2.2.2.2.2.2.2.2.1) (z1_praise := g6.2.2.2.2.2.2.2.2.2.2.2.2.2.2.2.2.2.1) (z1_borne := g6.2.2.2.2.2.2.2.2.2.2.2.2.2.2.2.2.2.2) h3) rfl rfl (Nat.le_of_ble_eq_true rfl) kFair_copyFrom (List.mem_of_getElem? (i := 29) rfl) (by decide) (by decide) rfl rfl rfl rfl rfl rfl rfl dX10_copyFrom_43 ?_
  refine r_aload_n 0 dX10_copyFrom_46 rfl ?_
  refine gWorld_notes 0 rfl (tb_in (i := 12) (j := 5) rfl rfl) dX10_copyFrom_47 ?_
  refine r_aload_n 1 dX10_copyFrom_50 rfl ?_
  refine gWorld_notes 4 rfl (tb_in (i := 12) (j := 5) rfl rfl) dX10_copyFrom_51 ?_
  obtain ⟨q4, h4, h⟩ := bd_some h
  refine b_callVN (isC := [3, 7]) (ci := 2)  (st := []) (bs1 := [bWorldG K (a0 0) ((a0 1) 0) ((a0 2) 0) ((a0 3) 0) g4, bFairG K (a0 1) q2, bFairG K (a0 2) q3, bNotesG K (a0 3) q4, bWorldG K (a1 0) ((a1 1) 0) ((a1 2) 0) ((a1 3) 0) g4, bFairG K (a1 1) g5, bFairG K (a1 2) g6, bNotesG K (a1 3) g7]) (cNotes_copyFrom (a0 := (a0 3)) (a1 := (a1 3)) (g0 := g3) (g1 := g7) h4) rfl rfl (Nat.le_of_ble_eq_true rfl) kNotes_copyFrom (List.mem_of_getElem? (i := 86) rfl) (by decide) (by decide) rfl rfl rfl rfl rfl rfl rfl dX10_copyFrom_54 ?_
  have hq := Option.some.inj h
  subst hq
  exact r_vret rfl dX10_copyFrom_57
end
theorem dX9_from_0 : decode cX9_from 0 = .ok (.aload_n 0, 1) := by decide +kernel
theorem dX9_from_1 : decode cX9_from 1 = .ok (.getfield 12, 3) := by decide +kernel
theorem dX9_from_4 : decode cX9_from 4 = .ok (.aload_n 1, 1) := by decide +kernel
theorem dX9_from_5 : decode cX9_from 5 = .ok (.invokevirtual 44, 3) := by decide +kernel
theorem dX9_from_8 : decode cX9_from 8 = .ok (.aload_n 0, 1) := by decide +kernel
theorem dX9_from_9 : decode cX9_from 9 = .ok (.getfield 12, 3) := by decide +kernel
theorem dX9_from_12 : decode cX9_from 12 = .ok (.areturn, 1) := by decide +kernel
abbrev MTrials_from : rx_M := (RX9, yX9_from, cX9_from, 2, (some (.object "NextStall$Fair")), 5)
theorem kTrials_from : rKv MTrials_from 1 := ⟨tb_in (i := 10) (j := 9) rfl rfl, tb_in (i := 10) (j := 10) rfl rfl, tb_in (i := 10) (j := 11) rfl rfl, tb_in (i := 10) (j := 3) rfl rfl, ⟨by decide, by decide, by decide +kernel⟩, by decide⟩
section
variable {a0 : Nat → Nat → Nat} {a1 : Nat → Nat} {g0 : tyTrials} {g1 : tyFair} {g2 : tyOrder} {g3 : tyOrder} {g4 : tyFair}
def mTrials_from (g1 : tyFair) (g4 : tyFair) : Option (tyFair) := (mFair_copyFrom g1.1 g1.2.1 g1.2.2.1 g1.2.2.2.1 g1.2.2.2.2.1 g1.2.2.2.2.2.1 g1.2.2.2.2.2.2.1 g1.2.2.2.2.2.2.2.1 g1.2.2.2.2.2.2.2.2.1 g1.2.2.2.2.2.2.2.2.2.1 g1.2.2.2.2.2.2.2.2.2.2.1 g1.2.2.2.2.2.2.2.2.2.2.2.1 g1.2.2.2.2.2.2.2.2.2.2.2.2.1 g1.2.2.2.2.2.2.2.2.2.2.2.2.2.1 g1.2.2.2.2.2.2.2.2.2.2.2.2.2.2.1 g1.2.2.2.2.2.2.2.2.2.2.2.2.2.2.2.1 g1.2.2.2.2.2.2.2.2.2.2.2.2.2.2.2.2.1 g1.2.2.2.2.2.2.2.2.2.2.2.2.2.2.2.2.2.1 g1.2.2.2.2.2.2.2.2.2.2.2.2.2.2.2.2.2.2 g4.1 g4.2.1 g4.2.2.1 g4.2.2.2.1 g4.2.2.2.2.1 g4.2.2.2.2.2.1 g4.2.2.2.2.2.2.1 g4.2.2.2.2.2.2.2.1 g4.2.2.2.2.2.2.2.2.1 g4.2.2.2.2.2.2.2.2.2.1 g4.2.2.2.2.2.2.2.2.2.2.1 g4.2.2.2.2.2.2.2.2.2.2.2.1 g4.2.2.2.2.2.2.2.2.2.2.2.2.1 g4.2.2.2.2.2.2.2.2.2.2.2.2.2.1 g4.2.2.2.2.2.2.2.2.2.2.2.2.2.2.1 g4.2.2.2.2.2.2.2.2.2.2.2.2.2.2.2.1 g4.2.2.2.2.2.2.2.2.2.2.2.2.2.2.2.2.1 g4.2.2.2.2.2.2.2.2.2.2.2.2.2.2.2.2.2.1 g4.2.2.2.2.2.2.2.2.2.2.2.2.2.2.2.2.2.2).bind (fun q1 => some (q1))
set_option maxHeartbeats 4000000 in
set_option maxRecDepth 20000 in
theorem cTrials_from {q : tyFair}  (h : mTrials_from g1 g4 = some q) : rMet l D Z (ty7 K) MTrials_from [.ref ((a0 0) 0), .ref (a1 0)] (List.flatten [bTrialsG K (a0 0) ((a0 1) 0) ((a0 2) 0) ((a0 3) 0) g0, bFairG K (a0 1) g1, bOrderG K (a0 2) g2, bOrderG K (a0 3) g3, bFairG K a1 g4]) (List.flatten [bTrialsG K (a0 0) ((a0 1) 0) ((a0 2) 0) ((a0 3) 0) g0, bFairG K (a0 1) q, bOrderG K (a0 2) g2, bOrderG K (a0 3) g3, bFairG K a1 g4]) (some (.ref ((a0 1) 0))) := by
  refine rMet.of (by decide) rfl (Nat.le_of_ble_eq_true rfl) ?_
  refine r_sub (lv' := [(0, .ref ((a0 0) 0)), (1, .ref (a1 0))]) [0, 1] rfl ?_
  unfold mTrials_from at h
  refine r_aload_n 0 dX9_from_0 rfl ?_
  refine gTrials_fair 0 rfl (tb_in (i := 9) (j := 23) rfl rfl) dX9_from_1 ?_
  refine r_aload_n 1 dX9_from_4 rfl ?_
  obtain ⟨q1, h1, h⟩ := bd_some h
  refine b_callVN (isC := [1, 4]) (ci := 1)  (st := []) (bs1 := [bTrialsG K (a0 0) ((a0 1) 0) ((a0 2) 0) ((a0 3) 0) g0, bFairG K (a0 1) q1, bOrderG K (a0 2) g2, bOrderG K (a0 3) g3, bFairG K a1 g4]) (cFair_copyFrom (a0 := (a0 1)) (a1 := a1) (z0_lasts := g1.1) (z0_keeps := g1.2.1) (z0_stalls := g1.2.2.1) (z0_buyers := g1.2.2.2.1) (z0_minute := g1.2.2.2.2.1) (z0_goods := g1.2.2.2.2.2.1) (z0_price := g1.2.2.2.2.2.2.1) (z0_tongue := g1.2.2.2.2.2.2.2.1) (z0_till := g1.2.2.2.2.2.2.2.2.1) (z0_wealth := g1.2.2.2.2.2.2.2.2.2.1) (z0_sold := g1.2.2.2.2.2.2.2.2.2.2.1) (z0_ring := g1.2.2.2.2.2.2.2.2.2.2.2.1) (z0_grudges := g1.2.2.2.2.2.2.2.2.2.2.2.2.1) (z0_purse := g1.2.2.2.2.2.2.2.2.2.2.2.2.2.1) (z0_came := g1.2.2.2.2.2.2.2.2.2.2.2.2.2.2.1) (z0_had := g1.2.2.2.2.2.2.2.2.2.2.2.2.2.2.2.1) (z0_seller := g1.2.2.2.2.2.2.2.2.2.2.2.2.2.2.2.2.1) (z0_praise := g1.2.2.2.2.2.2.2.2.2.2.2.2.2.2.2.2.2.1) (z0_borne := g1.2.2.2.2.2.2.2.2.2.2.2.2.2.2.2.2.2.2) (z1_lasts := g4.1) (z1_keeps := g4.2.1) (z1_stalls := g4.2.2.1) (z1_buyers := g4.2.2.2.1) (z1_minute := g4.2.2.2.2.1) (z1_goods := g4.2.2.2.2.2.1) (z1_price := g4.2.2.2.2.2.2.1) (z1_tongue := g4.2.2.2.2.2.2.2.1) (z1_till := g4.2.2.2.2.2.2.2.2.1) (z1_wealth := g4.2.2.2.2.2.2.2.2.2.1) (z1_sold := g4.2.2.2.2.2.2.2.2.2.2.1) (z1_ring := g4.2.2.2.2.2.2.2.2.2.2.2.1) (z1_grudges := g4.2.2.2.2.2.2.2.2.2.2.2.2.1) (z1_purse := g4.2.2.2.2.2.2.2.2.2.2.2.2.2.1) (z1_came := g4.2.2.2.2.2.2.2.2.2.2.2.2.2.2.1) (z1_had := g4.2.2.2.2.2.2.2.2.2.2.2.2.2.2.2.1) (z1_seller := g4.2.2.2.2.2.2.2.2.2.2.2.2.2.2.2.2.1) (z1_praise := g4.2.2.2.2.2.2.2.2.2.2.2.2.2.2.2.2.2.1) (z1_borne := g4.2.2.2.2.2.2.2.2.2.2.2.2.2.2.2.2.2.2) h1) rfl rfl (Nat.le_of_ble_eq_true rfl) kFair_copyFrom (List.mem_of_getElem? (i := 53) rfl) (by decide) (by decide) rfl rfl rfl rfl rfl rfl rfl dX9_from_5 ?_
  refine r_aload_n 0 dX9_from_8 rfl ?_
  refine gTrials_fair 0 rfl (tb_in (i := 9) (j := 23) rfl rfl) dX9_from_9 ?_
  have hq := Option.some.inj h
  subst hq
  exact r_aret rfl (Or.inl ⟨_, rfl⟩) (Or.inr ⟨_, rfl⟩) dX9_from_12
end
theorem dX9_find_0 : decode cX9_find 0 = .ok (.aload_n 0, 1) := by decide +kernel
theorem dX9_find_1 : decode cX9_find 1 = .ok (.getfield 28, 3) := by decide +kernel
theorem dX9_find_4 : decode cX9_find 4 = .ok (.iconst 0, 1) := by decide +kernel
theorem dX9_find_5 : decode cX9_find 5 = .ok (.iload_n 1, 1) := by decide +kernel
theorem dX9_find_6 : decode cX9_find 6 = .ok (.iastore, 1) := by decide +kernel
theorem dX9_find_7 : decode cX9_find 7 = .ok (.aload_n 0, 1) := by decide +kernel
theorem dX9_find_8 : decode cX9_find 8 = .ok (.getfield 28, 3) := by decide +kernel
theorem dX9_find_11 : decode cX9_find 11 = .ok (.iconst 1, 1) := by decide +kernel
theorem dX9_find_12 : decode cX9_find 12 = .ok (.iload_n 2, 1) := by decide +kernel
theorem dX9_find_13 : decode cX9_find 13 = .ok (.iastore, 1) := by decide +kernel
theorem dX9_find_14 : decode cX9_find 14 = .ok (.aload_n 0, 1) := by decide +kernel
theorem dX9_find_15 : decode cX9_find 15 = .ok (.getfield 28, 3) := by decide +kernel
theorem dX9_find_18 : decode cX9_find 18 = .ok (.iconst 2, 1) := by decide +kernel
theorem dX9_find_19 : decode cX9_find 19 = .ok (.iload_n 3, 1) := by decide +kernel
theorem dX9_find_20 : decode cX9_find 20 = .ok (.iastore, 1) := by decide +kernel
theorem dX9_find_21 : decode cX9_find 21 = .ok (.return_, 1) := by decide +kernel
abbrev MTrials_find : rx_M := (RX9, yX9_find, cX9_find, 4, none, 1)
theorem kTrials_find : rKv MTrials_find 3 := ⟨tb_in (i := 10) (j := 21) rfl rfl, tb_in (i := 10) (j := 22) rfl rfl, tb_in (i := 10) (j := 11) rfl rfl, tb_in (i := 10) (j := 4) rfl rfl, ⟨by decide, by decide, by decide +kernel⟩, by decide⟩
section
variable {a0 : Nat → Nat → Nat} {g0 : tyTrials} {g1 : tyFair} {g2 : tyOrder} {g3 : tyOrder}
def mTrials_find (x1 : Int32) (x2 : Int32) (x3 : Int32) (g0 : tyTrials) : Option (tyTrials) := rq (inb (0 : Int32) 3) (lt (upd g0.1 (0 : Int32).toNatClampNeg x1) (fun u1 => rq (inb (1 : Int32) 3) (lt (upd u1 (1 : Int32).toNatClampNeg x2) (fun u2 => rq (inb (2 : Int32) 3) (lt (upd u2 (2 : Int32).toNatClampNeg x3) (fun u3 => some ((u3, g0.2.1, g0.2.2.1, g0.2.2.2.1, g0.2.2.2.2))))))))
set_option maxHeartbeats 4000000 in
set_option maxRecDepth 20000 in
theorem cTrials_find {q : tyTrials} {x1 : Int32} {x2 : Int32} {x3 : Int32} (h : mTrials_find x1 x2 x3 g0 = some q) : rMet l D Z (ty7 K) MTrials_find [.ref ((a0 0) 0), .int x1, .int x2, .int x3] (List.flatten [bTrialsG K (a0 0) ((a0 1) 0) ((a0 2) 0) ((a0 3) 0) g0, bFairG K (a0 1) g1, bOrderG K (a0 2) g2, bOrderG K (a0 3) g3]) (List.flatten [bTrialsG K (a0 0) ((a0 1) 0) ((a0 2) 0) ((a0 3) 0) q, bFairG K (a0 1) g1, bOrderG K (a0 2) g2, bOrderG K (a0 3) g3]) none := by
  refine rMet.of (by decide) rfl (Nat.le_of_ble_eq_true rfl) ?_
  refine r_sub (lv' := [(0, .ref ((a0 0) 0)), (1, .int x1), (2, .int x2), (3, .int x3)]) [0, 1, 2, 3] rfl ?_
  unfold mTrials_find at h
  refine r_aload_n 0 dX9_find_0 rfl ?_
  refine gTrials_found 0 rfl (tb_in (i := 9) (j := 28) rfl rfl) dX9_find_1 ?_
  refine r_iconst (x := (0 : Int32)) dX9_find_4 (by decide) ?_
  refine r_iload_n 1 dX9_find_5 rfl ?_
  obtain ⟨h1, h⟩ := rq_some h
  obtain ⟨u1, e1, h⟩ := lt_some h
  refine sTrials_found (bs1 := [bTrials K (a0 0) ((a0 1) 0) ((a0 2) 0) ((a0 3) 0) u1 g0.2.1 g0.2.2.1 g0.2.2.2.1 g0.2.2.2.2, bFairG K (a0 1) g1, bOrderG K (a0 2) g2, bOrderG K (a0 3) g3]) 0 e1 rfl (inb_in h1) rfl dX9_find_6 ?_
  refine r_aload_n 0 dX9_find_7 rfl ?_
  refine gTrials_found 0 rfl (tb_in (i := 9) (j := 28) rfl rfl) dX9_find_8 ?_
  refine r_iconst (x := (1 : Int32)) dX9_find_11 (by decide) ?_
  refine r_iload_n 2 dX9_find_12 rfl ?_
  obtain ⟨h2, h⟩ := rq_some h
  obtain ⟨u2, e2, h⟩ := lt_some h
  refine sTrials_found (bs1 := [bTrials K (a0 0) ((a0 1) 0) ((a0 2) 0) ((a0 3) 0) u2 g0.2.1 g0.2.2.1 g0.2.2.2.1 g0.2.2.2.2, bFairG K (a0 1) g1, bOrderG K (a0 2) g2, bOrderG K (a0 3) g3]) 0 e2 rfl (inb_in h2) rfl dX9_find_13 ?_
  refine r_aload_n 0 dX9_find_14 rfl ?_
  refine gTrials_found 0 rfl (tb_in (i := 9) (j := 28) rfl rfl) dX9_find_15 ?_
  refine r_iconst (x := (2 : Int32)) dX9_find_18 (by decide) ?_
  refine r_iload_n 3 dX9_find_19 rfl ?_
  obtain ⟨h3, h⟩ := rq_some h
  obtain ⟨u3, e3, h⟩ := lt_some h
  refine sTrials_found (bs1 := [bTrials K (a0 0) ((a0 1) 0) ((a0 2) 0) ((a0 3) 0) u3 g0.2.1 g0.2.2.1 g0.2.2.2.1 g0.2.2.2.2, bFairG K (a0 1) g1, bOrderG K (a0 2) g2, bOrderG K (a0 3) g3]) 0 e3 rfl (inb_in h3) rfl dX9_find_20 ?_
  have hq := Option.some.inj h
  subst hq
  exact r_vret rfl dX9_find_21
end
theorem dX11_within_0 : decode cX11_within 0 = .ok (.iload_n 0, 1) := by decide +kernel
theorem dX11_within_1 : decode cX11_within 1 = .ok (.iload_n 1, 1) := by decide +kernel
theorem dX11_within_2 : decode cX11_within 2 = .ok (.if_icmp .lt 12, 3) := by decide +kernel
theorem dX11_within_5 : decode cX11_within 5 = .ok (.iload_n 0, 1) := by decide +kernel
theorem dX11_within_6 : decode cX11_within 6 = .ok (.iload_n 2, 1) := by decide +kernel
theorem dX11_within_7 : decode cX11_within 7 = .ok (.if_icmp .gt 7, 3) := by decide +kernel
theorem dX11_within_10 : decode cX11_within 10 = .ok (.iconst 1, 1) := by decide +kernel
theorem dX11_within_11 : decode cX11_within 11 = .ok (.goto 4, 3) := by decide +kernel
theorem dX11_within_14 : decode cX11_within 14 = .ok (.iconst 0, 1) := by decide +kernel
theorem dX11_within_15 : decode cX11_within 15 = .ok (.ireturn, 1) := by decide +kernel
abbrev MNextStall_within : rx_M := (RX11, yX11_within, cX11_within, 3, (some .boolean), 1)
theorem kNextStall_within : rKs MNextStall_within 3 := ⟨tb_in (i := 2) (j := 21) rfl rfl, tb_in (i := 2) (j := 22) rfl rfl, tb_in (i := 2) (j := 13) rfl rfl, ⟨by decide, by decide, by decide +kernel⟩, by decide⟩
section
def mNextStall_within (x0 : Int32) (x1 : Int32) (x2 : Int32) : Option (Int32) := (if x0 < x1 then some ((0 : Int32)) else (if x2 < x0 then some ((0 : Int32)) else some ((1 : Int32))))
set_option maxHeartbeats 4000000 in
set_option maxRecDepth 20000 in
theorem cNextStall_within {q : Int32} {x0 : Int32} {x1 : Int32} {x2 : Int32} (h : mNextStall_within x0 x1 x2 = some q) : rMet l D Z (ty7 K) MNextStall_within [.int x0, .int x1, .int x2] (List.flatten []) (List.flatten []) (some (.int q)) := by
  refine rMet.of (by decide) rfl (Nat.le_of_ble_eq_true rfl) ?_
  refine r_sub (lv' := [(0, .int x0), (1, .int x1), (2, .int x2)]) [0, 1, 2] rfl ?_
  unfold mNextStall_within at h
  refine r_iload_n 0 dX11_within_0 rfl ?_
  refine r_iload_n 1 dX11_within_1 rfl ?_
  refine r_icmp_lt 14 dX11_within_2 (by decide) (fun c1 => ?_) (fun c1 => ?_)
  · replace h := it_pos c1 h
    refine r_iconst (x := (0 : Int32)) dX11_within_14 (by decide) ?_
    have hq := Option.some.inj h
    subst hq
    exact r_zret (ty := .boolean) rfl rfl dX11_within_15
  · replace h := it_neg c1 h
    refine r_iload_n 0 dX11_within_5 rfl ?_
    refine r_iload_n 2 dX11_within_6 rfl ?_
    refine r_icmp_gt 14 dX11_within_7 (by decide) (fun c2 => ?_) (fun c2 => ?_)
    · replace h := it_pos c2 h
      refine r_iconst (x := (0 : Int32)) dX11_within_14 (by decide) ?_
      have hq := Option.some.inj h
      subst hq
      exact r_zret (ty := .boolean) rfl rfl dX11_within_15
    · replace h := it_neg c2 h
      refine r_iconst (x := (1 : Int32)) dX11_within_10 (by decide) ?_
      refine r_goto 15 dX11_within_11 (by decide) ?_
      have hq := Option.some.inj h
      subst hq
      exact r_zret (ty := .boolean) rfl rfl dX11_within_15
end
theorem dX9_whoStandsAt_0 : decode cX9_whoStandsAt 0 = .ok (.iload_n 1, 1) := by decide +kernel
theorem dX9_whoStandsAt_1 : decode cX9_whoStandsAt 1 = .ok (.iconst 0, 1) := by decide +kernel
theorem dX9_whoStandsAt_2 : decode cX9_whoStandsAt 2 = .ok (.aload_n 0, 1) := by decide +kernel
theorem dX9_whoStandsAt_3 : decode cX9_whoStandsAt 3 = .ok (.getfield 25, 3) := by decide +kernel
theorem dX9_whoStandsAt_6 : decode cX9_whoStandsAt 6 = .ok (.getfield 48, 3) := by decide +kernel
theorem dX9_whoStandsAt_9 : decode cX9_whoStandsAt 9 = .ok (.iconst 1, 1) := by decide +kernel
theorem dX9_whoStandsAt_10 : decode cX9_whoStandsAt 10 = .ok (.isub, 1) := by decide +kernel
theorem dX9_whoStandsAt_11 : decode cX9_whoStandsAt 11 = .ok (.invokestatic 52, 3) := by decide +kernel
theorem dX9_whoStandsAt_14 : decode cX9_whoStandsAt 14 = .ok (.ifCond .eq 15, 3) := by decide +kernel
theorem dX9_whoStandsAt_17 : decode cX9_whoStandsAt 17 = .ok (.aload_n 0, 1) := by decide +kernel
theorem dX9_whoStandsAt_18 : decode cX9_whoStandsAt 18 = .ok (.getfield 25, 3) := by decide +kernel
theorem dX9_whoStandsAt_21 : decode cX9_whoStandsAt 21 = .ok (.getfield 56, 3) := by decide +kernel
theorem dX9_whoStandsAt_24 : decode cX9_whoStandsAt 24 = .ok (.iload_n 1, 1) := by decide +kernel
theorem dX9_whoStandsAt_25 : decode cX9_whoStandsAt 25 = .ok (.iaload, 1) := by decide +kernel
theorem dX9_whoStandsAt_26 : decode cX9_whoStandsAt 26 = .ok (.goto 5, 3) := by decide +kernel
theorem dX9_whoStandsAt_29 : decode cX9_whoStandsAt 29 = .ok (.bipush (-2), 2) := by decide +kernel
theorem dX9_whoStandsAt_31 : decode cX9_whoStandsAt 31 = .ok (.ireturn, 1) := by decide +kernel
abbrev MTrials_whoStandsAt : rx_M := (RX9, yX9_whoStandsAt, cX9_whoStandsAt, 2, (some .int), 2)
theorem kTrials_whoStandsAt : rKv MTrials_whoStandsAt 1 := ⟨tb_in (i := 15) (j := 3) rfl rfl, tb_in (i := 15) (j := 4) rfl rfl, tb_in (i := 10) (j := 11) rfl rfl, tb_in (i := 10) (j := 5) rfl rfl, ⟨by decide, by decide, by decide +kernel⟩, by decide⟩
section
variable {a0 : Nat → Nat → Nat} {g0 : tyTrials} {g1 : tyFair} {g2 : tyOrder} {g3 : tyOrder}
def mTrials_whoStandsAt (x1 : Int32) (g3 : tyOrder) : Option (Int32) := (mNextStall_within x1 (0 : Int32) (g3.2 - (1 : Int32))).bind (fun q1 => (if q1 = 0 then some ((-2 : Int32)) else rq (inb x1 6) (some ((g3.1 x1.toNatClampNeg)))))
set_option maxHeartbeats 4000000 in
set_option maxRecDepth 20000 in
theorem cTrials_whoStandsAt {q : Int32} {x1 : Int32} (h : mTrials_whoStandsAt x1 g3 = some q) : rMet l D Z (ty7 K) MTrials_whoStandsAt [.ref ((a0 0) 0), .int x1] (List.flatten [bTrialsG K (a0 0) ((a0 1) 0) ((a0 2) 0) ((a0 3) 0) g0, bFairG K (a0 1) g1, bOrderG K (a0 2) g2, bOrderG K (a0 3) g3]) (List.flatten [bTrialsG K (a0 0) ((a0 1) 0) ((a0 2) 0) ((a0 3) 0) g0, bFairG K (a0 1) g1, bOrderG K (a0 2) g2, bOrderG K (a0 3) g3]) (some (.int q)) := by
  refine rMet.of (by decide) rfl (Nat.le_of_ble_eq_true rfl) ?_
  refine r_sub (lv' := [(0, .ref ((a0 0) 0)), (1, .int x1)]) [0, 1] rfl ?_
  unfold mTrials_whoStandsAt at h
  refine r_iload_n 1 dX9_whoStandsAt_0 rfl ?_
  refine r_iconst (x := (0 : Int32)) dX9_whoStandsAt_1 (by decide) ?_
  refine r_aload_n 0 dX9_whoStandsAt_2 rfl ?_
  refine gTrials_best 0 rfl (tb_in (i := 9) (j := 27) rfl rfl) dX9_whoStandsAt_3 ?_
  refine gOrder_sizeN 3 rfl (List.mem_of_getElem? (i := 61) rfl) dX9_whoStandsAt_6 ?_
  refine r_iconst (x := (1 : Int32)) dX9_whoStandsAt_9 (by decide) ?_
  refine r_isub dX9_whoStandsAt_10 ?_
  obtain ⟨q1, h1, h⟩ := bd_some h
  refine b_callSN (isC := []) (st := []) (bs1 := [bTrialsG K (a0 0) ((a0 1) 0) ((a0 2) 0) ((a0 3) 0) g0, bFairG K (a0 1) g1, bOrderG K (a0 2) g2, bOrderG K (a0 3) g3]) (cNextStall_within   h1) rfl rfl (Nat.le_of_ble_eq_true rfl) kNextStall_within (List.mem_of_getElem? (i := 61) rfl) (by decide) (by decide) rfl rfl rfl dX9_whoStandsAt_11 ?_
  refine r_if_eq 29 dX9_whoStandsAt_14 (by decide) (fun c2 => ?_) (fun c2 => ?_)
  · replace h := it_pos c2 h
    refine r_bipush (x := (-2 : Int32)) dX9_whoStandsAt_29 (by decide) ?_
    have hq := Option.some.inj h
    subst hq
    exact r_iret rfl dX9_whoStandsAt_31
  · replace h := it_neg c2 h
    refine r_aload_n 0 dX9_whoStandsAt_17 rfl ?_
    refine gTrials_best 0 rfl (tb_in (i := 9) (j := 27) rfl rfl) dX9_whoStandsAt_18 ?_
    refine gOrder_whoN 3 rfl (List.mem_of_getElem? (i := 60) rfl) dX9_whoStandsAt_21 ?_
    refine r_iload_n 1 dX9_whoStandsAt_24 rfl ?_
    obtain ⟨h3, h⟩ := rq_some h
    refine lOrder_who 3 rfl (inb_in h3) dX9_whoStandsAt_25 ?_
    refine r_goto 31 dX9_whoStandsAt_26 (by decide) ?_
    have hq := Option.some.inj h
    subst hq
    exact r_iret rfl dX9_whoStandsAt_31
end
end PC2
